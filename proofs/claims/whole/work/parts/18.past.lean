theorem hdX3_add : hdOK yX3_add 2 := by decide +kernel
set_option maxHeartbeats 4000000 in
set_option maxRecDepth 100000 in
theorem mX3_add_yes (l : Launch) (G : GG) (sd : Nat → Nat) (wh : Nat → Nat) (nu : Nat → Int32) (sz : Nat) (x : Nat) (y : Int32) (hz : sz < 6) : Mi l yX3_add cX3_add 3 (some .boolean) (rmN 0 0) G [.ref (sd 0), .int (nI x), .int y] (sgw G sd wh nu sz) (fun (r9 : Int32) (_ : Unit) => r9 = (bI true)) (fun (_ : Unit) => sgw G sd (va_up wh sz x) (upd nu sz y) (sz + 1)) := by
  refine Mi.of (cc := cX3_add) (nL := 3) (by decide) (Nat.le_of_ble_eq_true rfl) ?_
  intro p e s m below meth c A ls F hr hlocks hnm hX hA hD hP hS hl
  have F : CallFix p m c cX3_add 3 s [.ref (sd 0), .int (nI x), .int y].toArray wA RX3 := F
  obtain ⟨hx, hb, hml, hown, hts⟩ := id F
  have hl : lv_has ls 3 [(0, .ref (sd 0)), (1, .int (nI x)), (2, .int y)] := hl
  refine lv_aload_n hx hb dX3_add_0 rfl (lv_at hl 0 rfl) ?_
  refine va_get (D := G.1) (ci := 2) (v := .int (nI sz)) (C := RX3) (T := TX3) (N := 3) hx hb hts inA3 hown hX.1 hP 0 rfl rfl 2 (by decide) (hts _ kw_185) (fun _ h9 => h9) rfl dX3_add_1 ?_
  refine lv_bipush (v := (nI 6)) hx hb dX3_add_4 (by decide) ?_
  refine nv_lt (x := sz) (y := 6) (tgt := 11) hx hb dX3_add_6 (by decide) (by omega) (by decide) (fun c6 => ?_) (fun c6 => ?_)
  · refine lv_aload_n hx hb dX3_add_11 rfl (lv_at hl 0 rfl) ?_
    refine va_get (D := G.1) (ci := 2) (v := .ref (sd 1)) (C := RX3) (T := TX3) (N := 3) hx hb hts inA3 hown hX.1 hP 0 rfl rfl 0 (by decide) (hts _ kw_183) (fun _ h9 => h9) rfl dX3_add_12 ?_
    refine lv_aload_n hx hb dX3_add_15 rfl (lv_at hl 0 rfl) ?_
    refine va_get (D := G.1) (ci := 2) (v := .int (nI sz)) (C := RX3) (T := TX3) (N := 3) hx hb hts inA3 hown hX.1 hP 0 rfl rfl 2 (by decide) (hts _ kw_185) (fun _ h9 => h9) rfl dX3_add_16 ?_
    refine lv_iload_n hx hb dX3_add_19 rfl (lv_at hl 1 rfl) ?_
    refine nv_ast (f := wh) (k := sz) (v := x) hx hb hX hP hD hS 1 rfl (by omega) (by decide) dX3_add_20 (fun H locs hP hD hS => ?_)
    have hP : va_P G.1 vwCl (sgw G sd (va_up wh sz x) nu sz) H := hP
    have hD : va_D A (sgw G sd (va_up wh sz x) nu sz) := hD
    refine lv_aload_n hx hb dX3_add_21 rfl (lv_at hl 0 rfl) ?_
    refine va_get (D := G.1) (ci := 2) (v := .ref (sd 2)) (C := RX3) (T := TX3) (N := 3) hx hb hts inA3 hown hX.1 hP 0 rfl rfl 1 (by decide) (hts _ kw_184) (fun _ h9 => h9) rfl dX3_add_22 ?_
    refine lv_aload_n hx hb dX3_add_25 rfl (lv_at hl 0 rfl) ?_
    refine va_get (D := G.1) (ci := 2) (v := .int (nI sz)) (C := RX3) (T := TX3) (N := 3) hx hb hts inA3 hown hX.1 hP 0 rfl rfl 2 (by decide) (hts _ kw_185) (fun _ h9 => h9) rfl dX3_add_26 ?_
    refine lv_iload_n hx hb dX3_add_29 rfl (lv_at hl 2 rfl) ?_
    refine nv_astI (f := nu) (k := sz) (v := y) hx hb hX hP hD hS 2 rfl (by omega) (by decide) dX3_add_30 (fun H locs hP hD hS => ?_)
    have hP : va_P G.1 vwCl (sgw G sd (va_up wh sz x) (upd nu sz y) sz) H := hP
    have hD : va_D A (sgw G sd (va_up wh sz x) (upd nu sz y) sz) := hD
    refine lv_aload_n hx hb dX3_add_31 rfl (lv_at hl 0 rfl) ?_
    refine lv_dup hx hb dX3_add_32 rfl ?_
    refine va_get (D := G.1) (ci := 2) (v := .int (nI sz)) (C := RX3) (T := TX3) (N := 3) hx hb hts inA3 hown hX.1 hP 0 rfl rfl 2 (by decide) (hts _ kw_185) (fun _ h9 => h9) rfl dX3_add_33 ?_
    refine lv_iconst (v := (nI 1)) hx hb dX3_add_36 (by decide) ?_
    refine lv_iadd hx hb dX3_add_37 (ti (y := (nI (sz + 1))) (nI_add _ _) ?_)
    refine va_put (D := G.1) (ci := 2) (v := .int (nI (sz + 1))) (ty := .int) (C := RX3) (T := TX3) (N := 3) hx hb hts inA3 tyX3 tyX3_ok nmX3 hown hX.1 hP hD hS 0 rfl rfl 2 (by decide) (hts _ kw_185) (fun _ h9 => h9) rfl (by decide +kernel) rfl rfl (Nat.le_of_ble_eq_true rfl) dX3_add_38 (fun H locs hP hD hS => ?_)
    have hP : va_P G.1 vwCl (sgw G sd (va_up wh sz x) (upd nu sz y) (sz + 1)) H := hP
    have hD : va_D A (sgw G sd (va_up wh sz x) (upd nu sz y) (sz + 1)) := hD
    refine lv_iconst (v := (nI 1)) hx hb dX3_add_41 (by decide) ?_
    exact re_z (v := (nI 1)) hx hb hr hlocks hS () hP hD rfl (by decide) dX3_add_42
  · exact absurd c6 (by omega)

set_option maxHeartbeats 4000000 in
set_option maxRecDepth 100000 in
theorem mX3_add_no (l : Launch) (G : GG) (sd : Nat → Nat) (wh : Nat → Nat) (nu : Nat → Int32) (sz : Nat) (x : Nat) (y : Int32) (hz : sz = 6) : Mi l yX3_add cX3_add 3 (some .boolean) (rmN 0 0) G [.ref (sd 0), .int (nI x), .int y] (sgw G sd wh nu sz) (fun (r9 : Int32) (_ : Unit) => r9 = (bI false)) (fun (_ : Unit) => sgw G sd wh nu sz) := by
  refine Mi.of (cc := cX3_add) (nL := 3) (by decide) (Nat.le_of_ble_eq_true rfl) ?_
  intro p e s m below meth c A ls F hr hlocks hnm hX hA hD hP hS hl
  have F : CallFix p m c cX3_add 3 s [.ref (sd 0), .int (nI x), .int y].toArray wA RX3 := F
  obtain ⟨hx, hb, hml, hown, hts⟩ := id F
  have hl : lv_has ls 3 [(0, .ref (sd 0)), (1, .int (nI x)), (2, .int y)] := hl
  refine lv_aload_n hx hb dX3_add_0 rfl (lv_at hl 0 rfl) ?_
  refine va_get (D := G.1) (ci := 2) (v := .int (nI sz)) (C := RX3) (T := TX3) (N := 3) hx hb hts inA3 hown hX.1 hP 0 rfl rfl 2 (by decide) (hts _ kw_185) (fun _ h9 => h9) rfl dX3_add_1 ?_
  refine lv_bipush (v := (nI 6)) hx hb dX3_add_4 (by decide) ?_
  refine nv_lt (x := sz) (y := 6) (tgt := 11) hx hb dX3_add_6 (by decide) (by omega) (by decide) (fun c6 => ?_) (fun c6 => ?_)
  · exact absurd c6 (by omega)
  · refine lv_iconst (v := (nI 0)) hx hb dX3_add_9 (by decide) ?_
    exact re_z (v := (nI 0)) hx hb hr hlocks hS () hP hD rfl (by decide) dX3_add_10

theorem hdX3_empty : hdOK yX3_empty 0 := by decide +kernel
set_option maxHeartbeats 4000000 in
set_option maxRecDepth 100000 in
theorem mX3_empty (l : Launch) (G : GG) (sd : Nat → Nat) (wh : Nat → Nat) (nu : Nat → Int32) (sz : Nat)  : Mi l yX3_empty cX3_empty 2 (some .int) (rmN 0 0) G [.ref (sd 0)] (sgw G sd wh nu sz) (fun (r9 : Int32) (_ : Unit) => r9 = (nI sz)) (fun (_ : Unit) => sgw G sd wh nu 0) := by
  refine Mi.of (cc := cX3_empty) (nL := 2) (by decide) (Nat.le_of_ble_eq_true rfl) ?_
  intro p e s m below meth c A ls F hr hlocks hnm hX hA hD hP hS hl
  have F : CallFix p m c cX3_empty 2 s [.ref (sd 0)].toArray wA RX3 := F
  obtain ⟨hx, hb, hml, hown, hts⟩ := id F
  have hl : lv_has ls 2 [(0, .ref (sd 0))] := hl
  refine lv_aload_n hx hb dX3_empty_0 rfl (lv_at hl 0 rfl) ?_
  refine va_get (D := G.1) (ci := 2) (v := .int (nI sz)) (C := RX3) (T := TX3) (N := 3) hx hb hts inA3 hown hX.1 hP 0 rfl rfl 2 (by decide) (hts _ kw_185) (fun _ h9 => h9) rfl dX3_empty_1 ?_
  refine lv_istore_n (lv' := [(1, .int (nI sz)), (0, .ref (sd 0))]) hx hb dX3_empty_4 rfl hl (by decide) rfl (fun ls hl => ?_)
  refine lv_aload_n hx hb dX3_empty_5 rfl (lv_at hl 1 rfl) ?_
  refine lv_iconst (v := (nI 0)) hx hb dX3_empty_6 (by decide) ?_
  refine va_put (D := G.1) (ci := 2) (v := .int (nI 0)) (ty := .int) (C := RX3) (T := TX3) (N := 3) hx hb hts inA3 tyX3 tyX3_ok nmX3 hown hX.1 hP hD hS 0 rfl rfl 2 (by decide) (hts _ kw_185) (fun _ h9 => h9) rfl (by decide +kernel) rfl rfl (Nat.le_of_ble_eq_true rfl) dX3_empty_7 (fun H locs hP hD hS => ?_)
  have hP : va_P G.1 vwCl (sgw G sd wh nu 0) H := hP
  have hD : va_D A (sgw G sd wh nu 0) := hD
  refine lv_iload_n hx hb dX3_empty_10 rfl (lv_at hl 0 rfl) ?_
  exact re_i (v := (nI sz)) hx hb hr hlocks hS () hP hD rfl dX3_empty_11

theorem hdX3_fit : hdOK yX3_fit 2 := by decide +kernel
set_option maxHeartbeats 4000000 in
set_option maxRecDepth 100000 in
theorem mX3_fit (l : Launch) (G : GG) (sd : Nat → Nat) (wh : Nat → Nat) (nu : Nat → Int32) (sz : Nat) (x y : Int32) (hz : sz ≤ 6) (hwh : ∀ j, wh j < 2) : Mi l yX3_fit cX3_fit 4 (some .boolean) (rmN 0 0) G [.ref (sd 0), .int x, .int y] (sgw G sd wh nu sz) (fun (r9 : Int32) (_ : Unit) => r9 = (bI (fitN wh nu x y sz))) (fun (_ : Unit) => sgw G sd wh nu sz) := by
  refine Mi.of (cc := cX3_fit) (nL := 4) (by decide) (Nat.le_of_ble_eq_true rfl) ?_
  intro p e s m below meth c A ls F hr hlocks hnm hX hA hD hP hS hl
  have F : CallFix p m c cX3_fit 4 s [.ref (sd 0), .int x, .int y].toArray wA RX3 := F
  obtain ⟨hx, hb, hml, hown, hts⟩ := id F
  have hl : lv_has ls 4 [(0, .ref (sd 0)), (1, .int x), (2, .int y)] := hl
  refine lv_iconst (v := (nI 0)) hx hb dX3_fit_0 (by decide) ?_
  refine lv_istore_n (lv' := [(3, .int (nI 0)), (0, .ref (sd 0)), (1, .int x), (2, .int y)]) hx hb dX3_fit_1 rfl hl (by decide) rfl (fun ls hl => ?_)
  have lp2 : ∀ (n2 : Nat) (k : Nat), (sz - k) < n2 → (k ≤ sz) → (fitN wh nu x y k = true) → ∀ (H : Heap) (locs : List Loc), va_P G.1 vwCl (sgw G sd wh nu sz) H → va_D A (sgw G sd wh nu sz) → va_S A s.heap H locs → ∀ (ls : Array Slot), lv_has ls 4 [(0, .ref (sd 0)), (1, .int x), (2, .int y), (3, .int (nI k))] → WI p l e (rmN 0 0) s m [.ref (sd 0), .int x, .int y] below meth c H locs G A (fun (r9 : Int32) (_ : Unit) => r9 = (bI (fitN wh nu x y sz))) (fun (_ : Unit) => sgw G sd wh nu sz) (F0 m 2 ls []) := by
    intro n2
    induction n2 with
    | zero => intro k h9; exact absurd h9 (Nat.not_lt_zero _)
    | succ n2 ih2 =>
      intro k hm2  hk hf H locs hP hD hS ls hl
      refine lv_iload_n hx hb dX3_fit_2 rfl (lv_at hl 3 rfl) ?_
      refine lv_aload_n hx hb dX3_fit_3 rfl (lv_at hl 0 rfl) ?_
      refine va_get (D := G.1) (ci := 2) (v := .int (nI sz)) (C := RX3) (T := TX3) (N := 3) hx hb hts inA3 hown hX.1 hP 0 rfl rfl 2 (by decide) (hts _ kw_185) (fun _ h9 => h9) rfl dX3_fit_4 ?_
      refine nv_ge (x := k) (y := sz) (tgt := 41) hx hb dX3_fit_7 (by decide) (by omega) (by omega) (fun c7 => ?_) (fun c7 => ?_)
      · refine lv_iconst (v := (nI 1)) hx hb dX3_fit_41 (by decide) ?_
        exact re_z (v := (nI 1)) hx hb hr hlocks hS () hP hD (by have e9 : k = sz := (by omega); rw [← e9, hf]; rfl) (by decide) dX3_fit_42
      · refine lv_aload_n hx hb dX3_fit_10 rfl (lv_at hl 0 rfl) ?_
        refine va_get (D := G.1) (ci := 2) (v := .ref (sd 2)) (C := RX3) (T := TX3) (N := 3) hx hb hts inA3 hown hX.1 hP 0 rfl rfl 1 (by decide) (hts _ kw_184) (fun _ h9 => h9) rfl dX3_fit_11 ?_
        refine lv_iload_n hx hb dX3_fit_14 rfl (lv_at hl 3 rfl) ?_
        refine nv_aldI (f := nu) (k := k) hx hb hX hP 2 rfl (by omega) (by decide) dX3_fit_15 ?_
        refine lv_aload_n hx hb dX3_fit_16 rfl (lv_at hl 0 rfl) ?_
        refine va_get (D := G.1) (ci := 2) (v := .ref (sd 1)) (C := RX3) (T := TX3) (N := 3) hx hb hts inA3 hown hX.1 hP 0 rfl rfl 0 (by decide) (hts _ kw_183) (fun _ h9 => h9) rfl dX3_fit_17 ?_
        refine lv_iload_n hx hb dX3_fit_20 rfl (lv_at hl 3 rfl) ?_
        refine nv_ald (f := wh) (k := k) hx hb hX hP 1 rfl (by omega) (by decide) dX3_fit_21 ?_
        refine nv_zne (x := wh k) (tgt := 29) hx hb dX3_fit_22 (by decide) (by have := hwh k; omega) (fun c22 => ?_) (fun c22 => ?_)
        · refine lv_iload_n hx hb dX3_fit_29 rfl (lv_at hl 2 rfl) ?_
          refine lv_icmp_eq (x := (nu k)) (y := y) (tgt := 35) hx hb dX3_fit_30 (by decide) (fun c30 => ?_) (fun c30 => ?_)
          · refine lv_iinc (v := (nI (k + 1))) (lv' := [(3, .int (nI (k + 1))), (0, .ref (sd 0)), (1, .int x), (2, .int y)]) hx hb dX3_fit_35 hl (k := 3) rfl (qn_inc _) (by decide) rfl (fun ls hl => ?_)
            refine lv_goto (tgt := 2) hx hb dX3_fit_38 (by decide) ?_
            exact ih2 (k + 1) (by omega) (by omega) (by rw [fitN, hf, if_neg c22, decide_eq_true c30]; rfl) _ _ hP hD hS ls (lv_sub hl [1, 2, 3, 0] rfl)
          · refine lv_iconst (v := (nI 0)) hx hb dX3_fit_33 (by decide) ?_
            exact re_z (v := (nI 0)) hx hb hr hlocks hS () hP hD (by rw [fitN_no (k := k) (by rw [if_neg c22]; exact c30) sz (by omega)]; rfl) (by decide) dX3_fit_34
        · refine lv_iload_n hx hb dX3_fit_25 rfl (lv_at hl 1 rfl) ?_
          refine lv_goto (tgt := 30) hx hb dX3_fit_26 (by decide) ?_
          refine lv_icmp_eq (x := (nu k)) (y := x) (tgt := 35) hx hb dX3_fit_30 (by decide) (fun c30 => ?_) (fun c30 => ?_)
          · refine lv_iinc (v := (nI (k + 1))) (lv' := [(3, .int (nI (k + 1))), (0, .ref (sd 0)), (1, .int x), (2, .int y)]) hx hb dX3_fit_35 hl (k := 3) rfl (qn_inc _) (by decide) rfl (fun ls hl => ?_)
            refine lv_goto (tgt := 2) hx hb dX3_fit_38 (by decide) ?_
            exact ih2 (k + 1) (by omega) (by omega) (by rw [fitN, hf, if_pos c22, decide_eq_true c30]; rfl) _ _ hP hD hS ls (lv_sub hl [1, 2, 3, 0] rfl)
          · refine lv_iconst (v := (nI 0)) hx hb dX3_fit_33 (by decide) ?_
            exact re_z (v := (nI 0)) hx hb hr hlocks hS () hP hD (by rw [fitN_no (k := k) (by rw [if_pos c22]; exact c30) sz (by omega)]; rfl) (by decide) dX3_fit_34
  exact lp2 _ 0 (Nat.lt_succ_self _) (Nat.zero_le _) rfl _ _ hP hD hS ls (lv_sub hl [1, 2, 3, 0] rfl)

theorem hdX2_remember : hdOK yX2_remember 1 := by decide +kernel
set_option maxHeartbeats 4000000 in
set_option maxRecDepth 100000 in
theorem mX2_remember (l : Launch) (G : GG) (pd : Nat → Nat) (sz nx : Nat) (ads as : Nat → Nat → Nat) (rs : Nat → Nat → Nat → Nat) (ad : Nat → Nat) (a : Nat → Nat) (r : Nat → Nat → Nat) (hz : sz ≤ 6) (hn : nx < 6) : Mv l yX2_remember cX2_remember 2 none (rmN 2 47) G [.ref (pd 0), .ref (ad 0)] (paw G pd sz nx ads as rs ++ tkw G ad a r) (fun (_ : Unit) => True) (fun (_ : Unit) => paw G pd (min (sz + 1) 6) ((nx + 1) % 6) ads (va_up as nx a) (va_up rs nx r) ++ tkw G ad a r) := by
  refine Mv.of (cc := cX2_remember) (nL := 2) (by decide) (Nat.le_of_ble_eq_true rfl) ?_
  intro p e s m below meth c A ls F hr hlocks hnm hX hA hD hP hS hl
  have F : CallFix p m c cX2_remember 2 s [.ref (pd 0), .ref (ad 0)].toArray wA RX2 := F
  obtain ⟨hx, hb, hml, hown, hts⟩ := id F
  have hl : lv_has ls 2 [(0, .ref (pd 0)), (1, .ref (ad 0))] := hl
  have hP : va_P G.1 vwCl (pao G pd sz nx (fun k => some (ads k 0)) ++ (tkw G (ads 0) (as 0) (rs 0) ++ (tkw G (ads 1) (as 1) (rs 1) ++ (tkw G (ads 2) (as 2) (rs 2) ++ (tkw G (ads 3) (as 3) (rs 3) ++ (tkw G (ads 4) (as 4) (rs 4) ++ (tkw G (ads 5) (as 5) (rs 5) ++ (tkw G ad a r)))))))) s.heap := wp_pm (List.Perm.of_eq (by simp only [paw, List.append_assoc])) hP
  have hD : va_D A (pao G pd sz nx (fun k => some (ads k 0)) ++ (tkw G (ads 0) (as 0) (rs 0) ++ (tkw G (ads 1) (as 1) (rs 1) ++ (tkw G (ads 2) (as 2) (rs 2) ++ (tkw G (ads 3) (as 3) (rs 3) ++ (tkw G (ads 4) (as 4) (rs 4) ++ (tkw G (ads 5) (as 5) (rs 5) ++ (tkw G ad a r)))))))) := wd_pm (List.Perm.of_eq (by simp only [paw, List.append_assoc])) hD
  rcases (show nx = 0 ∨ nx = 1 ∨ nx = 2 ∨ nx = 3 ∨ nx = 4 ∨ nx = 5 by omega) with rfl | rfl | rfl | rfl | rfl | rfl
  · refine lv_aload_n hx hb dX2_remember_0 rfl (lv_at hl 0 rfl) ?_
    refine va_get (D := G.1) (ci := 1) (v := .ref (pd 1)) (C := RX2) (T := TX2) (N := 3) hx hb hts inA2 hown hX.1 hP 0 rfl rfl 0 (by decide) (hts _ kw_141) (fun _ h9 => h9) rfl dX2_remember_1 ?_
    refine lv_aload_n hx hb dX2_remember_4 rfl (lv_at hl 0 rfl) ?_
    refine va_get (D := G.1) (ci := 1) (v := .int (nI 0)) (C := RX2) (T := TX2) (N := 3) hx hb hts inA2 hown hX.1 hP 0 rfl rfl 2 (by decide) (hts _ kw_144) (fun _ h9 => h9) rfl dX2_remember_5 ?_
    refine nv_aldT (f := (fun k => some (ads k 0))) (k := 0) (x := (ads 0) 0) hx hb hX hP 1 rfl (by omega) (by decide) rfl dX2_remember_8 ?_
    refine lv_aload_n hx hb dX2_remember_9 rfl (lv_at hl 1 rfl) ?_
    refine ca_Vv (ci := 3) (q := (RX4, TX4, 12)) (rest := []) (wr := pao G pd sz 0 (fun k => some (ads k 0)) ++ (tkw G (ads 1) (as 1) (rs 1) ++ (tkw G (ads 2) (as 2) (rs 2) ++ (tkw G (ads 3) (as 3) (rs 3) ++ (tkw G (ads 4) (as 4) (rs 4) ++ (tkw G (ads 5) (as 5) (rs 5))))))) F hX (mX4_become l G (ads 0) (as 0) (rs 0) ad a r) (cA_V hts kw_373 kw_3 kw_370 kw_371 kw_372 hdX4_become ⟨Nat.le_of_ble_eq_true rfl, Nat.le_of_ble_eq_true rfl⟩) rfl rfl rfl hl.1 rfl (Nat.le_of_ble_eq_true rfl) dX2_remember_10 ⟨Nat.le_of_ble_eq_true rfl, Nat.le_of_ble_eq_true rfl⟩ hP hD hS hA ((((List.Perm.append_left _ ((List.Perm.append_left _ ((List.Perm.append_left _ ((List.Perm.append_left _ ((List.Perm.append_left _ ((List.Perm.append_left _ (List.perm_append_comm)).trans (pm_sw _ _ _))).trans (pm_sw _ _ _))).trans (pm_sw _ _ _))).trans (pm_sw _ _ _))).trans (pm_sw _ _ _))).trans (pm_sw _ _ _)).trans ((List.Perm.append_left _ (pm_sw _ _ _)).trans (pm_sw _ _ _))).trans (List.Perm.of_eq (List.append_assoc _ _ _).symm)) (fun u10 H locs hp10 hP hD hS => ?_)
    have hP : va_P G.1 vwCl (pao G pd sz 0 (fun k => some (ads k 0)) ++ (tkw G (ads 0) a r ++ (tkw G (ads 1) (as 1) (rs 1) ++ (tkw G (ads 2) (as 2) (rs 2) ++ (tkw G (ads 3) (as 3) (rs 3) ++ (tkw G (ads 4) (as 4) (rs 4) ++ (tkw G (ads 5) (as 5) (rs 5) ++ (tkw G ad a r)))))))) H := wp_pm ((((List.Perm.append_left _ ((List.Perm.append_left _ ((List.Perm.append_left _ ((List.Perm.append_left _ ((List.Perm.append_left _ ((List.Perm.append_left _ (List.perm_append_comm)).trans (pm_sw _ _ _))).trans (pm_sw _ _ _))).trans (pm_sw _ _ _))).trans (pm_sw _ _ _))).trans (pm_sw _ _ _))).trans (pm_sw _ _ _)).trans ((List.Perm.append_left _ (pm_sw _ _ _)).trans (pm_sw _ _ _))).trans (List.Perm.of_eq (List.append_assoc _ _ _).symm)).symm hP
    have hD : va_D A (pao G pd sz 0 (fun k => some (ads k 0)) ++ (tkw G (ads 0) a r ++ (tkw G (ads 1) (as 1) (rs 1) ++ (tkw G (ads 2) (as 2) (rs 2) ++ (tkw G (ads 3) (as 3) (rs 3) ++ (tkw G (ads 4) (as 4) (rs 4) ++ (tkw G (ads 5) (as 5) (rs 5) ++ (tkw G ad a r)))))))) := wd_pm ((((List.Perm.append_left _ ((List.Perm.append_left _ ((List.Perm.append_left _ ((List.Perm.append_left _ ((List.Perm.append_left _ ((List.Perm.append_left _ (List.perm_append_comm)).trans (pm_sw _ _ _))).trans (pm_sw _ _ _))).trans (pm_sw _ _ _))).trans (pm_sw _ _ _))).trans (pm_sw _ _ _))).trans (pm_sw _ _ _)).trans ((List.Perm.append_left _ (pm_sw _ _ _)).trans (pm_sw _ _ _))).trans (List.Perm.of_eq (List.append_assoc _ _ _).symm)).symm hD
    refine lv_aload_n hx hb dX2_remember_13 rfl (lv_at hl 0 rfl) ?_
    refine lv_aload_n hx hb dX2_remember_14 rfl (lv_at hl 0 rfl) ?_
    refine va_get (D := G.1) (ci := 1) (v := .int (nI 0)) (C := RX2) (T := TX2) (N := 3) hx hb hts inA2 hown hX.1 hP 0 rfl rfl 2 (by decide) (hts _ kw_144) (fun _ h9 => h9) rfl dX2_remember_15 ?_
    refine lv_iconst (v := (nI 1)) hx hb dX2_remember_18 (by decide) ?_
    refine lv_iadd hx hb dX2_remember_19 (ti (y := (nI 1)) (nI_add _ _) ?_)
    refine lv_bipush (v := (nI 6)) hx hb dX2_remember_20 (by decide) ?_
    refine lv_irem hx hb dX2_remember_22 (by decide) (ti (y := (nI (1 % 6))) (pk_rem (by decide) (by decide) (by decide)) ?_)
    refine va_put (D := G.1) (ci := 1) (v := .int (nI (1 % 6))) (ty := .int) (C := RX2) (T := TX2) (N := 3) hx hb hts inA2 tyX2 tyX2_ok nmX2 hown hX.1 hP hD hS 0 rfl rfl 2 (by decide) (hts _ kw_144) (fun _ h9 => h9) rfl (by decide +kernel) rfl rfl (Nat.le_of_ble_eq_true rfl) dX2_remember_23 (fun H locs hP hD hS => ?_)
    have hP : va_P G.1 vwCl (pao G pd sz (1 % 6) (fun k => some (ads k 0)) ++ (tkw G (ads 0) a r ++ (tkw G (ads 1) (as 1) (rs 1) ++ (tkw G (ads 2) (as 2) (rs 2) ++ (tkw G (ads 3) (as 3) (rs 3) ++ (tkw G (ads 4) (as 4) (rs 4) ++ (tkw G (ads 5) (as 5) (rs 5) ++ (tkw G ad a r)))))))) H := hP
    have hD : va_D A (pao G pd sz (1 % 6) (fun k => some (ads k 0)) ++ (tkw G (ads 0) a r ++ (tkw G (ads 1) (as 1) (rs 1) ++ (tkw G (ads 2) (as 2) (rs 2) ++ (tkw G (ads 3) (as 3) (rs 3) ++ (tkw G (ads 4) (as 4) (rs 4) ++ (tkw G (ads 5) (as 5) (rs 5) ++ (tkw G ad a r)))))))) := hD
    refine lv_aload_n hx hb dX2_remember_26 rfl (lv_at hl 0 rfl) ?_
    refine lv_aload_n hx hb dX2_remember_27 rfl (lv_at hl 0 rfl) ?_
    refine va_get (D := G.1) (ci := 1) (v := .int (nI sz)) (C := RX2) (T := TX2) (N := 3) hx hb hts inA2 hown hX.1 hP 0 rfl rfl 1 (by decide) (hts _ kw_142) (fun _ h9 => h9) rfl dX2_remember_28 ?_
    refine lv_iconst (v := (nI 1)) hx hb dX2_remember_31 (by decide) ?_
    refine lv_iadd hx hb dX2_remember_32 (ti (y := (nI (sz + 1))) (nI_add _ _) ?_)
    refine lv_bipush (v := (nI 6)) hx hb dX2_remember_33 (by decide) ?_
    refine va_mmin hx hb (hml.trans hl.1.symm) hown (hts _ kw_377) (hts _ kw_378) (hts _ kw_14) (hts _ kw_379) (by decide) (Nat.le_of_ble_eq_true rfl) (Nat.zero_le _) (Nat.zero_le _) dX2_remember_35 ?_
    refine ti (y := (nI (min (sz + 1) 6))) (qn_min (by omega) (by omega)) ?_
    refine va_put (D := G.1) (ci := 1) (v := .int (nI (min (sz + 1) 6))) (ty := .int) (C := RX2) (T := TX2) (N := 3) hx hb hts inA2 tyX2 tyX2_ok nmX2 hown hX.1 hP hD hS 0 rfl rfl 1 (by decide) (hts _ kw_142) (fun _ h9 => h9) rfl (by decide +kernel) rfl rfl (Nat.le_of_ble_eq_true rfl) dX2_remember_38 (fun H locs hP hD hS => ?_)
    have hP : va_P G.1 vwCl (pao G pd (min (sz + 1) 6) (1 % 6) (fun k => some (ads k 0)) ++ (tkw G (ads 0) a r ++ (tkw G (ads 1) (as 1) (rs 1) ++ (tkw G (ads 2) (as 2) (rs 2) ++ (tkw G (ads 3) (as 3) (rs 3) ++ (tkw G (ads 4) (as 4) (rs 4) ++ (tkw G (ads 5) (as 5) (rs 5) ++ (tkw G ad a r)))))))) H := hP
    have hD : va_D A (pao G pd (min (sz + 1) 6) (1 % 6) (fun k => some (ads k 0)) ++ (tkw G (ads 0) a r ++ (tkw G (ads 1) (as 1) (rs 1) ++ (tkw G (ads 2) (as 2) (rs 2) ++ (tkw G (ads 3) (as 3) (rs 3) ++ (tkw G (ads 4) (as 4) (rs 4) ++ (tkw G (ads 5) (as 5) (rs 5) ++ (tkw G ad a r)))))))) := hD
    have hP : va_P G.1 vwCl (pao G pd (min (sz + 1) 6) ((0 + 1) % 6) (fun k => some (ads k 0)) ++ (tkw G (ads 0) ((va_up as 0 a) 0) ((va_up rs 0 r) 0) ++ (tkw G (ads 1) ((va_up as 0 a) 1) ((va_up rs 0 r) 1) ++ (tkw G (ads 2) ((va_up as 0 a) 2) ((va_up rs 0 r) 2) ++ (tkw G (ads 3) ((va_up as 0 a) 3) ((va_up rs 0 r) 3) ++ (tkw G (ads 4) ((va_up as 0 a) 4) ((va_up rs 0 r) 4) ++ (tkw G (ads 5) ((va_up as 0 a) 5) ((va_up rs 0 r) 5) ++ (tkw G ad a r)))))))) _ := hP
    have hD : va_D A (pao G pd (min (sz + 1) 6) ((0 + 1) % 6) (fun k => some (ads k 0)) ++ (tkw G (ads 0) ((va_up as 0 a) 0) ((va_up rs 0 r) 0) ++ (tkw G (ads 1) ((va_up as 0 a) 1) ((va_up rs 0 r) 1) ++ (tkw G (ads 2) ((va_up as 0 a) 2) ((va_up rs 0 r) 2) ++ (tkw G (ads 3) ((va_up as 0 a) 3) ((va_up rs 0 r) 3) ++ (tkw G (ads 4) ((va_up as 0 a) 4) ((va_up rs 0 r) 4) ++ (tkw G (ads 5) ((va_up as 0 a) 5) ((va_up rs 0 r) 5) ++ (tkw G ad a r)))))))) := hD
    have hP : va_P G.1 vwCl (paw G pd (min (sz + 1) 6) ((0 + 1) % 6) ads (va_up as 0 a) (va_up rs 0 r) ++ tkw G ad a r) _ := wp_pm (List.Perm.of_eq (by simp only [paw, List.append_assoc])) hP
    have hD : va_D A (paw G pd (min (sz + 1) 6) ((0 + 1) % 6) ads (va_up as 0 a) (va_up rs 0 r) ++ tkw G ad a r) := wd_pm (List.Perm.of_eq (by simp only [paw, List.append_assoc])) hD
    exact re_v hx hb hr hlocks hS () hP hD trivial dX2_remember_41
  · refine lv_aload_n hx hb dX2_remember_0 rfl (lv_at hl 0 rfl) ?_
    refine va_get (D := G.1) (ci := 1) (v := .ref (pd 1)) (C := RX2) (T := TX2) (N := 3) hx hb hts inA2 hown hX.1 hP 0 rfl rfl 0 (by decide) (hts _ kw_141) (fun _ h9 => h9) rfl dX2_remember_1 ?_
    refine lv_aload_n hx hb dX2_remember_4 rfl (lv_at hl 0 rfl) ?_
    refine va_get (D := G.1) (ci := 1) (v := .int (nI 1)) (C := RX2) (T := TX2) (N := 3) hx hb hts inA2 hown hX.1 hP 0 rfl rfl 2 (by decide) (hts _ kw_144) (fun _ h9 => h9) rfl dX2_remember_5 ?_
    refine nv_aldT (f := (fun k => some (ads k 0))) (k := 1) (x := (ads 1) 0) hx hb hX hP 1 rfl (by omega) (by decide) rfl dX2_remember_8 ?_
    refine lv_aload_n hx hb dX2_remember_9 rfl (lv_at hl 1 rfl) ?_
    refine ca_Vv (ci := 3) (q := (RX4, TX4, 12)) (rest := []) (wr := pao G pd sz 1 (fun k => some (ads k 0)) ++ (tkw G (ads 0) (as 0) (rs 0) ++ (tkw G (ads 2) (as 2) (rs 2) ++ (tkw G (ads 3) (as 3) (rs 3) ++ (tkw G (ads 4) (as 4) (rs 4) ++ (tkw G (ads 5) (as 5) (rs 5))))))) F hX (mX4_become l G (ads 1) (as 1) (rs 1) ad a r) (cA_V hts kw_373 kw_3 kw_370 kw_371 kw_372 hdX4_become ⟨Nat.le_of_ble_eq_true rfl, Nat.le_of_ble_eq_true rfl⟩) rfl rfl rfl hl.1 rfl (Nat.le_of_ble_eq_true rfl) dX2_remember_10 ⟨Nat.le_of_ble_eq_true rfl, Nat.le_of_ble_eq_true rfl⟩ hP hD hS hA ((((List.Perm.append_left _ ((List.Perm.append_left _ ((List.Perm.append_left _ ((List.Perm.append_left _ ((List.Perm.append_left _ ((List.Perm.append_left _ (List.perm_append_comm)).trans (pm_sw _ _ _))).trans (pm_sw _ _ _))).trans (pm_sw _ _ _))).trans (pm_sw _ _ _))).trans (pm_sw _ _ _))).trans (pm_sw _ _ _)).trans ((List.Perm.append_left _ ((List.Perm.append_left _ (pm_sw _ _ _)).trans (pm_sw _ _ _))).trans (pm_sw _ _ _))).trans (List.Perm.of_eq (List.append_assoc _ _ _).symm)) (fun u10 H locs hp10 hP hD hS => ?_)
    have hP : va_P G.1 vwCl (pao G pd sz 1 (fun k => some (ads k 0)) ++ (tkw G (ads 0) (as 0) (rs 0) ++ (tkw G (ads 1) a r ++ (tkw G (ads 2) (as 2) (rs 2) ++ (tkw G (ads 3) (as 3) (rs 3) ++ (tkw G (ads 4) (as 4) (rs 4) ++ (tkw G (ads 5) (as 5) (rs 5) ++ (tkw G ad a r)))))))) H := wp_pm ((((List.Perm.append_left _ ((List.Perm.append_left _ ((List.Perm.append_left _ ((List.Perm.append_left _ ((List.Perm.append_left _ ((List.Perm.append_left _ (List.perm_append_comm)).trans (pm_sw _ _ _))).trans (pm_sw _ _ _))).trans (pm_sw _ _ _))).trans (pm_sw _ _ _))).trans (pm_sw _ _ _))).trans (pm_sw _ _ _)).trans ((List.Perm.append_left _ ((List.Perm.append_left _ (pm_sw _ _ _)).trans (pm_sw _ _ _))).trans (pm_sw _ _ _))).trans (List.Perm.of_eq (List.append_assoc _ _ _).symm)).symm hP
    have hD : va_D A (pao G pd sz 1 (fun k => some (ads k 0)) ++ (tkw G (ads 0) (as 0) (rs 0) ++ (tkw G (ads 1) a r ++ (tkw G (ads 2) (as 2) (rs 2) ++ (tkw G (ads 3) (as 3) (rs 3) ++ (tkw G (ads 4) (as 4) (rs 4) ++ (tkw G (ads 5) (as 5) (rs 5) ++ (tkw G ad a r)))))))) := wd_pm ((((List.Perm.append_left _ ((List.Perm.append_left _ ((List.Perm.append_left _ ((List.Perm.append_left _ ((List.Perm.append_left _ ((List.Perm.append_left _ (List.perm_append_comm)).trans (pm_sw _ _ _))).trans (pm_sw _ _ _))).trans (pm_sw _ _ _))).trans (pm_sw _ _ _))).trans (pm_sw _ _ _))).trans (pm_sw _ _ _)).trans ((List.Perm.append_left _ ((List.Perm.append_left _ (pm_sw _ _ _)).trans (pm_sw _ _ _))).trans (pm_sw _ _ _))).trans (List.Perm.of_eq (List.append_assoc _ _ _).symm)).symm hD
    refine lv_aload_n hx hb dX2_remember_13 rfl (lv_at hl 0 rfl) ?_
    refine lv_aload_n hx hb dX2_remember_14 rfl (lv_at hl 0 rfl) ?_
    refine va_get (D := G.1) (ci := 1) (v := .int (nI 1)) (C := RX2) (T := TX2) (N := 3) hx hb hts inA2 hown hX.1 hP 0 rfl rfl 2 (by decide) (hts _ kw_144) (fun _ h9 => h9) rfl dX2_remember_15 ?_
    refine lv_iconst (v := (nI 1)) hx hb dX2_remember_18 (by decide) ?_
    refine lv_iadd hx hb dX2_remember_19 (ti (y := (nI 2)) (nI_add _ _) ?_)
    refine lv_bipush (v := (nI 6)) hx hb dX2_remember_20 (by decide) ?_
    refine lv_irem hx hb dX2_remember_22 (by decide) (ti (y := (nI (2 % 6))) (pk_rem (by decide) (by decide) (by decide)) ?_)
    refine va_put (D := G.1) (ci := 1) (v := .int (nI (2 % 6))) (ty := .int) (C := RX2) (T := TX2) (N := 3) hx hb hts inA2 tyX2 tyX2_ok nmX2 hown hX.1 hP hD hS 0 rfl rfl 2 (by decide) (hts _ kw_144) (fun _ h9 => h9) rfl (by decide +kernel) rfl rfl (Nat.le_of_ble_eq_true rfl) dX2_remember_23 (fun H locs hP hD hS => ?_)
    have hP : va_P G.1 vwCl (pao G pd sz (2 % 6) (fun k => some (ads k 0)) ++ (tkw G (ads 0) (as 0) (rs 0) ++ (tkw G (ads 1) a r ++ (tkw G (ads 2) (as 2) (rs 2) ++ (tkw G (ads 3) (as 3) (rs 3) ++ (tkw G (ads 4) (as 4) (rs 4) ++ (tkw G (ads 5) (as 5) (rs 5) ++ (tkw G ad a r)))))))) H := hP
    have hD : va_D A (pao G pd sz (2 % 6) (fun k => some (ads k 0)) ++ (tkw G (ads 0) (as 0) (rs 0) ++ (tkw G (ads 1) a r ++ (tkw G (ads 2) (as 2) (rs 2) ++ (tkw G (ads 3) (as 3) (rs 3) ++ (tkw G (ads 4) (as 4) (rs 4) ++ (tkw G (ads 5) (as 5) (rs 5) ++ (tkw G ad a r)))))))) := hD
    refine lv_aload_n hx hb dX2_remember_26 rfl (lv_at hl 0 rfl) ?_
    refine lv_aload_n hx hb dX2_remember_27 rfl (lv_at hl 0 rfl) ?_
    refine va_get (D := G.1) (ci := 1) (v := .int (nI sz)) (C := RX2) (T := TX2) (N := 3) hx hb hts inA2 hown hX.1 hP 0 rfl rfl 1 (by decide) (hts _ kw_142) (fun _ h9 => h9) rfl dX2_remember_28 ?_
    refine lv_iconst (v := (nI 1)) hx hb dX2_remember_31 (by decide) ?_
    refine lv_iadd hx hb dX2_remember_32 (ti (y := (nI (sz + 1))) (nI_add _ _) ?_)
    refine lv_bipush (v := (nI 6)) hx hb dX2_remember_33 (by decide) ?_
    refine va_mmin hx hb (hml.trans hl.1.symm) hown (hts _ kw_377) (hts _ kw_378) (hts _ kw_14) (hts _ kw_379) (by decide) (Nat.le_of_ble_eq_true rfl) (Nat.zero_le _) (Nat.zero_le _) dX2_remember_35 ?_
    refine ti (y := (nI (min (sz + 1) 6))) (qn_min (by omega) (by omega)) ?_
    refine va_put (D := G.1) (ci := 1) (v := .int (nI (min (sz + 1) 6))) (ty := .int) (C := RX2) (T := TX2) (N := 3) hx hb hts inA2 tyX2 tyX2_ok nmX2 hown hX.1 hP hD hS 0 rfl rfl 1 (by decide) (hts _ kw_142) (fun _ h9 => h9) rfl (by decide +kernel) rfl rfl (Nat.le_of_ble_eq_true rfl) dX2_remember_38 (fun H locs hP hD hS => ?_)
    have hP : va_P G.1 vwCl (pao G pd (min (sz + 1) 6) (2 % 6) (fun k => some (ads k 0)) ++ (tkw G (ads 0) (as 0) (rs 0) ++ (tkw G (ads 1) a r ++ (tkw G (ads 2) (as 2) (rs 2) ++ (tkw G (ads 3) (as 3) (rs 3) ++ (tkw G (ads 4) (as 4) (rs 4) ++ (tkw G (ads 5) (as 5) (rs 5) ++ (tkw G ad a r)))))))) H := hP
    have hD : va_D A (pao G pd (min (sz + 1) 6) (2 % 6) (fun k => some (ads k 0)) ++ (tkw G (ads 0) (as 0) (rs 0) ++ (tkw G (ads 1) a r ++ (tkw G (ads 2) (as 2) (rs 2) ++ (tkw G (ads 3) (as 3) (rs 3) ++ (tkw G (ads 4) (as 4) (rs 4) ++ (tkw G (ads 5) (as 5) (rs 5) ++ (tkw G ad a r)))))))) := hD
    have hP : va_P G.1 vwCl (pao G pd (min (sz + 1) 6) ((1 + 1) % 6) (fun k => some (ads k 0)) ++ (tkw G (ads 0) ((va_up as 1 a) 0) ((va_up rs 1 r) 0) ++ (tkw G (ads 1) ((va_up as 1 a) 1) ((va_up rs 1 r) 1) ++ (tkw G (ads 2) ((va_up as 1 a) 2) ((va_up rs 1 r) 2) ++ (tkw G (ads 3) ((va_up as 1 a) 3) ((va_up rs 1 r) 3) ++ (tkw G (ads 4) ((va_up as 1 a) 4) ((va_up rs 1 r) 4) ++ (tkw G (ads 5) ((va_up as 1 a) 5) ((va_up rs 1 r) 5) ++ (tkw G ad a r)))))))) _ := hP
    have hD : va_D A (pao G pd (min (sz + 1) 6) ((1 + 1) % 6) (fun k => some (ads k 0)) ++ (tkw G (ads 0) ((va_up as 1 a) 0) ((va_up rs 1 r) 0) ++ (tkw G (ads 1) ((va_up as 1 a) 1) ((va_up rs 1 r) 1) ++ (tkw G (ads 2) ((va_up as 1 a) 2) ((va_up rs 1 r) 2) ++ (tkw G (ads 3) ((va_up as 1 a) 3) ((va_up rs 1 r) 3) ++ (tkw G (ads 4) ((va_up as 1 a) 4) ((va_up rs 1 r) 4) ++ (tkw G (ads 5) ((va_up as 1 a) 5) ((va_up rs 1 r) 5) ++ (tkw G ad a r)))))))) := hD
    have hP : va_P G.1 vwCl (paw G pd (min (sz + 1) 6) ((1 + 1) % 6) ads (va_up as 1 a) (va_up rs 1 r) ++ tkw G ad a r) _ := wp_pm (List.Perm.of_eq (by simp only [paw, List.append_assoc])) hP
    have hD : va_D A (paw G pd (min (sz + 1) 6) ((1 + 1) % 6) ads (va_up as 1 a) (va_up rs 1 r) ++ tkw G ad a r) := wd_pm (List.Perm.of_eq (by simp only [paw, List.append_assoc])) hD
    exact re_v hx hb hr hlocks hS () hP hD trivial dX2_remember_41
  · refine lv_aload_n hx hb dX2_remember_0 rfl (lv_at hl 0 rfl) ?_
    refine va_get (D := G.1) (ci := 1) (v := .ref (pd 1)) (C := RX2) (T := TX2) (N := 3) hx hb hts inA2 hown hX.1 hP 0 rfl rfl 0 (by decide) (hts _ kw_141) (fun _ h9 => h9) rfl dX2_remember_1 ?_
    refine lv_aload_n hx hb dX2_remember_4 rfl (lv_at hl 0 rfl) ?_
    refine va_get (D := G.1) (ci := 1) (v := .int (nI 2)) (C := RX2) (T := TX2) (N := 3) hx hb hts inA2 hown hX.1 hP 0 rfl rfl 2 (by decide) (hts _ kw_144) (fun _ h9 => h9) rfl dX2_remember_5 ?_
    refine nv_aldT (f := (fun k => some (ads k 0))) (k := 2) (x := (ads 2) 0) hx hb hX hP 1 rfl (by omega) (by decide) rfl dX2_remember_8 ?_
    refine lv_aload_n hx hb dX2_remember_9 rfl (lv_at hl 1 rfl) ?_
    refine ca_Vv (ci := 3) (q := (RX4, TX4, 12)) (rest := []) (wr := pao G pd sz 2 (fun k => some (ads k 0)) ++ (tkw G (ads 0) (as 0) (rs 0) ++ (tkw G (ads 1) (as 1) (rs 1) ++ (tkw G (ads 3) (as 3) (rs 3) ++ (tkw G (ads 4) (as 4) (rs 4) ++ (tkw G (ads 5) (as 5) (rs 5))))))) F hX (mX4_become l G (ads 2) (as 2) (rs 2) ad a r) (cA_V hts kw_373 kw_3 kw_370 kw_371 kw_372 hdX4_become ⟨Nat.le_of_ble_eq_true rfl, Nat.le_of_ble_eq_true rfl⟩) rfl rfl rfl hl.1 rfl (Nat.le_of_ble_eq_true rfl) dX2_remember_10 ⟨Nat.le_of_ble_eq_true rfl, Nat.le_of_ble_eq_true rfl⟩ hP hD hS hA ((((List.Perm.append_left _ ((List.Perm.append_left _ ((List.Perm.append_left _ ((List.Perm.append_left _ ((List.Perm.append_left _ ((List.Perm.append_left _ (List.perm_append_comm)).trans (pm_sw _ _ _))).trans (pm_sw _ _ _))).trans (pm_sw _ _ _))).trans (pm_sw _ _ _))).trans (pm_sw _ _ _))).trans (pm_sw _ _ _)).trans ((List.Perm.append_left _ ((List.Perm.append_left _ ((List.Perm.append_left _ (pm_sw _ _ _)).trans (pm_sw _ _ _))).trans (pm_sw _ _ _))).trans (pm_sw _ _ _))).trans (List.Perm.of_eq (List.append_assoc _ _ _).symm)) (fun u10 H locs hp10 hP hD hS => ?_)
    have hP : va_P G.1 vwCl (pao G pd sz 2 (fun k => some (ads k 0)) ++ (tkw G (ads 0) (as 0) (rs 0) ++ (tkw G (ads 1) (as 1) (rs 1) ++ (tkw G (ads 2) a r ++ (tkw G (ads 3) (as 3) (rs 3) ++ (tkw G (ads 4) (as 4) (rs 4) ++ (tkw G (ads 5) (as 5) (rs 5) ++ (tkw G ad a r)))))))) H := wp_pm ((((List.Perm.append_left _ ((List.Perm.append_left _ ((List.Perm.append_left _ ((List.Perm.append_left _ ((List.Perm.append_left _ ((List.Perm.append_left _ (List.perm_append_comm)).trans (pm_sw _ _ _))).trans (pm_sw _ _ _))).trans (pm_sw _ _ _))).trans (pm_sw _ _ _))).trans (pm_sw _ _ _))).trans (pm_sw _ _ _)).trans ((List.Perm.append_left _ ((List.Perm.append_left _ ((List.Perm.append_left _ (pm_sw _ _ _)).trans (pm_sw _ _ _))).trans (pm_sw _ _ _))).trans (pm_sw _ _ _))).trans (List.Perm.of_eq (List.append_assoc _ _ _).symm)).symm hP
    have hD : va_D A (pao G pd sz 2 (fun k => some (ads k 0)) ++ (tkw G (ads 0) (as 0) (rs 0) ++ (tkw G (ads 1) (as 1) (rs 1) ++ (tkw G (ads 2) a r ++ (tkw G (ads 3) (as 3) (rs 3) ++ (tkw G (ads 4) (as 4) (rs 4) ++ (tkw G (ads 5) (as 5) (rs 5) ++ (tkw G ad a r)))))))) := wd_pm ((((List.Perm.append_left _ ((List.Perm.append_left _ ((List.Perm.append_left _ ((List.Perm.append_left _ ((List.Perm.append_left _ ((List.Perm.append_left _ (List.perm_append_comm)).trans (pm_sw _ _ _))).trans (pm_sw _ _ _))).trans (pm_sw _ _ _))).trans (pm_sw _ _ _))).trans (pm_sw _ _ _))).trans (pm_sw _ _ _)).trans ((List.Perm.append_left _ ((List.Perm.append_left _ ((List.Perm.append_left _ (pm_sw _ _ _)).trans (pm_sw _ _ _))).trans (pm_sw _ _ _))).trans (pm_sw _ _ _))).trans (List.Perm.of_eq (List.append_assoc _ _ _).symm)).symm hD
    refine lv_aload_n hx hb dX2_remember_13 rfl (lv_at hl 0 rfl) ?_
    refine lv_aload_n hx hb dX2_remember_14 rfl (lv_at hl 0 rfl) ?_
    refine va_get (D := G.1) (ci := 1) (v := .int (nI 2)) (C := RX2) (T := TX2) (N := 3) hx hb hts inA2 hown hX.1 hP 0 rfl rfl 2 (by decide) (hts _ kw_144) (fun _ h9 => h9) rfl dX2_remember_15 ?_
    refine lv_iconst (v := (nI 1)) hx hb dX2_remember_18 (by decide) ?_
    refine lv_iadd hx hb dX2_remember_19 (ti (y := (nI 3)) (nI_add _ _) ?_)
    refine lv_bipush (v := (nI 6)) hx hb dX2_remember_20 (by decide) ?_
    refine lv_irem hx hb dX2_remember_22 (by decide) (ti (y := (nI (3 % 6))) (pk_rem (by decide) (by decide) (by decide)) ?_)
    refine va_put (D := G.1) (ci := 1) (v := .int (nI (3 % 6))) (ty := .int) (C := RX2) (T := TX2) (N := 3) hx hb hts inA2 tyX2 tyX2_ok nmX2 hown hX.1 hP hD hS 0 rfl rfl 2 (by decide) (hts _ kw_144) (fun _ h9 => h9) rfl (by decide +kernel) rfl rfl (Nat.le_of_ble_eq_true rfl) dX2_remember_23 (fun H locs hP hD hS => ?_)
    have hP : va_P G.1 vwCl (pao G pd sz (3 % 6) (fun k => some (ads k 0)) ++ (tkw G (ads 0) (as 0) (rs 0) ++ (tkw G (ads 1) (as 1) (rs 1) ++ (tkw G (ads 2) a r ++ (tkw G (ads 3) (as 3) (rs 3) ++ (tkw G (ads 4) (as 4) (rs 4) ++ (tkw G (ads 5) (as 5) (rs 5) ++ (tkw G ad a r)))))))) H := hP
    have hD : va_D A (pao G pd sz (3 % 6) (fun k => some (ads k 0)) ++ (tkw G (ads 0) (as 0) (rs 0) ++ (tkw G (ads 1) (as 1) (rs 1) ++ (tkw G (ads 2) a r ++ (tkw G (ads 3) (as 3) (rs 3) ++ (tkw G (ads 4) (as 4) (rs 4) ++ (tkw G (ads 5) (as 5) (rs 5) ++ (tkw G ad a r)))))))) := hD
    refine lv_aload_n hx hb dX2_remember_26 rfl (lv_at hl 0 rfl) ?_
    refine lv_aload_n hx hb dX2_remember_27 rfl (lv_at hl 0 rfl) ?_
    refine va_get (D := G.1) (ci := 1) (v := .int (nI sz)) (C := RX2) (T := TX2) (N := 3) hx hb hts inA2 hown hX.1 hP 0 rfl rfl 1 (by decide) (hts _ kw_142) (fun _ h9 => h9) rfl dX2_remember_28 ?_
    refine lv_iconst (v := (nI 1)) hx hb dX2_remember_31 (by decide) ?_
    refine lv_iadd hx hb dX2_remember_32 (ti (y := (nI (sz + 1))) (nI_add _ _) ?_)
    refine lv_bipush (v := (nI 6)) hx hb dX2_remember_33 (by decide) ?_
    refine va_mmin hx hb (hml.trans hl.1.symm) hown (hts _ kw_377) (hts _ kw_378) (hts _ kw_14) (hts _ kw_379) (by decide) (Nat.le_of_ble_eq_true rfl) (Nat.zero_le _) (Nat.zero_le _) dX2_remember_35 ?_
    refine ti (y := (nI (min (sz + 1) 6))) (qn_min (by omega) (by omega)) ?_
    refine va_put (D := G.1) (ci := 1) (v := .int (nI (min (sz + 1) 6))) (ty := .int) (C := RX2) (T := TX2) (N := 3) hx hb hts inA2 tyX2 tyX2_ok nmX2 hown hX.1 hP hD hS 0 rfl rfl 1 (by decide) (hts _ kw_142) (fun _ h9 => h9) rfl (by decide +kernel) rfl rfl (Nat.le_of_ble_eq_true rfl) dX2_remember_38 (fun H locs hP hD hS => ?_)
    have hP : va_P G.1 vwCl (pao G pd (min (sz + 1) 6) (3 % 6) (fun k => some (ads k 0)) ++ (tkw G (ads 0) (as 0) (rs 0) ++ (tkw G (ads 1) (as 1) (rs 1) ++ (tkw G (ads 2) a r ++ (tkw G (ads 3) (as 3) (rs 3) ++ (tkw G (ads 4) (as 4) (rs 4) ++ (tkw G (ads 5) (as 5) (rs 5) ++ (tkw G ad a r)))))))) H := hP
    have hD : va_D A (pao G pd (min (sz + 1) 6) (3 % 6) (fun k => some (ads k 0)) ++ (tkw G (ads 0) (as 0) (rs 0) ++ (tkw G (ads 1) (as 1) (rs 1) ++ (tkw G (ads 2) a r ++ (tkw G (ads 3) (as 3) (rs 3) ++ (tkw G (ads 4) (as 4) (rs 4) ++ (tkw G (ads 5) (as 5) (rs 5) ++ (tkw G ad a r)))))))) := hD
    have hP : va_P G.1 vwCl (pao G pd (min (sz + 1) 6) ((2 + 1) % 6) (fun k => some (ads k 0)) ++ (tkw G (ads 0) ((va_up as 2 a) 0) ((va_up rs 2 r) 0) ++ (tkw G (ads 1) ((va_up as 2 a) 1) ((va_up rs 2 r) 1) ++ (tkw G (ads 2) ((va_up as 2 a) 2) ((va_up rs 2 r) 2) ++ (tkw G (ads 3) ((va_up as 2 a) 3) ((va_up rs 2 r) 3) ++ (tkw G (ads 4) ((va_up as 2 a) 4) ((va_up rs 2 r) 4) ++ (tkw G (ads 5) ((va_up as 2 a) 5) ((va_up rs 2 r) 5) ++ (tkw G ad a r)))))))) _ := hP
    have hD : va_D A (pao G pd (min (sz + 1) 6) ((2 + 1) % 6) (fun k => some (ads k 0)) ++ (tkw G (ads 0) ((va_up as 2 a) 0) ((va_up rs 2 r) 0) ++ (tkw G (ads 1) ((va_up as 2 a) 1) ((va_up rs 2 r) 1) ++ (tkw G (ads 2) ((va_up as 2 a) 2) ((va_up rs 2 r) 2) ++ (tkw G (ads 3) ((va_up as 2 a) 3) ((va_up rs 2 r) 3) ++ (tkw G (ads 4) ((va_up as 2 a) 4) ((va_up rs 2 r) 4) ++ (tkw G (ads 5) ((va_up as 2 a) 5) ((va_up rs 2 r) 5) ++ (tkw G ad a r)))))))) := hD
    have hP : va_P G.1 vwCl (paw G pd (min (sz + 1) 6) ((2 + 1) % 6) ads (va_up as 2 a) (va_up rs 2 r) ++ tkw G ad a r) _ := wp_pm (List.Perm.of_eq (by simp only [paw, List.append_assoc])) hP
    have hD : va_D A (paw G pd (min (sz + 1) 6) ((2 + 1) % 6) ads (va_up as 2 a) (va_up rs 2 r) ++ tkw G ad a r) := wd_pm (List.Perm.of_eq (by simp only [paw, List.append_assoc])) hD
    exact re_v hx hb hr hlocks hS () hP hD trivial dX2_remember_41
  · refine lv_aload_n hx hb dX2_remember_0 rfl (lv_at hl 0 rfl) ?_
    refine va_get (D := G.1) (ci := 1) (v := .ref (pd 1)) (C := RX2) (T := TX2) (N := 3) hx hb hts inA2 hown hX.1 hP 0 rfl rfl 0 (by decide) (hts _ kw_141) (fun _ h9 => h9) rfl dX2_remember_1 ?_
    refine lv_aload_n hx hb dX2_remember_4 rfl (lv_at hl 0 rfl) ?_
    refine va_get (D := G.1) (ci := 1) (v := .int (nI 3)) (C := RX2) (T := TX2) (N := 3) hx hb hts inA2 hown hX.1 hP 0 rfl rfl 2 (by decide) (hts _ kw_144) (fun _ h9 => h9) rfl dX2_remember_5 ?_
    refine nv_aldT (f := (fun k => some (ads k 0))) (k := 3) (x := (ads 3) 0) hx hb hX hP 1 rfl (by omega) (by decide) rfl dX2_remember_8 ?_
    refine lv_aload_n hx hb dX2_remember_9 rfl (lv_at hl 1 rfl) ?_
    refine ca_Vv (ci := 3) (q := (RX4, TX4, 12)) (rest := []) (wr := pao G pd sz 3 (fun k => some (ads k 0)) ++ (tkw G (ads 0) (as 0) (rs 0) ++ (tkw G (ads 1) (as 1) (rs 1) ++ (tkw G (ads 2) (as 2) (rs 2) ++ (tkw G (ads 4) (as 4) (rs 4) ++ (tkw G (ads 5) (as 5) (rs 5))))))) F hX (mX4_become l G (ads 3) (as 3) (rs 3) ad a r) (cA_V hts kw_373 kw_3 kw_370 kw_371 kw_372 hdX4_become ⟨Nat.le_of_ble_eq_true rfl, Nat.le_of_ble_eq_true rfl⟩) rfl rfl rfl hl.1 rfl (Nat.le_of_ble_eq_true rfl) dX2_remember_10 ⟨Nat.le_of_ble_eq_true rfl, Nat.le_of_ble_eq_true rfl⟩ hP hD hS hA ((((List.Perm.append_left _ ((List.Perm.append_left _ ((List.Perm.append_left _ ((List.Perm.append_left _ ((List.Perm.append_left _ ((List.Perm.append_left _ (List.perm_append_comm)).trans (pm_sw _ _ _))).trans (pm_sw _ _ _))).trans (pm_sw _ _ _))).trans (pm_sw _ _ _))).trans (pm_sw _ _ _))).trans (pm_sw _ _ _)).trans ((List.Perm.append_left _ ((List.Perm.append_left _ ((List.Perm.append_left _ ((List.Perm.append_left _ (pm_sw _ _ _)).trans (pm_sw _ _ _))).trans (pm_sw _ _ _))).trans (pm_sw _ _ _))).trans (pm_sw _ _ _))).trans (List.Perm.of_eq (List.append_assoc _ _ _).symm)) (fun u10 H locs hp10 hP hD hS => ?_)
    have hP : va_P G.1 vwCl (pao G pd sz 3 (fun k => some (ads k 0)) ++ (tkw G (ads 0) (as 0) (rs 0) ++ (tkw G (ads 1) (as 1) (rs 1) ++ (tkw G (ads 2) (as 2) (rs 2) ++ (tkw G (ads 3) a r ++ (tkw G (ads 4) (as 4) (rs 4) ++ (tkw G (ads 5) (as 5) (rs 5) ++ (tkw G ad a r)))))))) H := wp_pm ((((List.Perm.append_left _ ((List.Perm.append_left _ ((List.Perm.append_left _ ((List.Perm.append_left _ ((List.Perm.append_left _ ((List.Perm.append_left _ (List.perm_append_comm)).trans (pm_sw _ _ _))).trans (pm_sw _ _ _))).trans (pm_sw _ _ _))).trans (pm_sw _ _ _))).trans (pm_sw _ _ _))).trans (pm_sw _ _ _)).trans ((List.Perm.append_left _ ((List.Perm.append_left _ ((List.Perm.append_left _ ((List.Perm.append_left _ (pm_sw _ _ _)).trans (pm_sw _ _ _))).trans (pm_sw _ _ _))).trans (pm_sw _ _ _))).trans (pm_sw _ _ _))).trans (List.Perm.of_eq (List.append_assoc _ _ _).symm)).symm hP
    have hD : va_D A (pao G pd sz 3 (fun k => some (ads k 0)) ++ (tkw G (ads 0) (as 0) (rs 0) ++ (tkw G (ads 1) (as 1) (rs 1) ++ (tkw G (ads 2) (as 2) (rs 2) ++ (tkw G (ads 3) a r ++ (tkw G (ads 4) (as 4) (rs 4) ++ (tkw G (ads 5) (as 5) (rs 5) ++ (tkw G ad a r)))))))) := wd_pm ((((List.Perm.append_left _ ((List.Perm.append_left _ ((List.Perm.append_left _ ((List.Perm.append_left _ ((List.Perm.append_left _ ((List.Perm.append_left _ (List.perm_append_comm)).trans (pm_sw _ _ _))).trans (pm_sw _ _ _))).trans (pm_sw _ _ _))).trans (pm_sw _ _ _))).trans (pm_sw _ _ _))).trans (pm_sw _ _ _)).trans ((List.Perm.append_left _ ((List.Perm.append_left _ ((List.Perm.append_left _ ((List.Perm.append_left _ (pm_sw _ _ _)).trans (pm_sw _ _ _))).trans (pm_sw _ _ _))).trans (pm_sw _ _ _))).trans (pm_sw _ _ _))).trans (List.Perm.of_eq (List.append_assoc _ _ _).symm)).symm hD
    refine lv_aload_n hx hb dX2_remember_13 rfl (lv_at hl 0 rfl) ?_
    refine lv_aload_n hx hb dX2_remember_14 rfl (lv_at hl 0 rfl) ?_
    refine va_get (D := G.1) (ci := 1) (v := .int (nI 3)) (C := RX2) (T := TX2) (N := 3) hx hb hts inA2 hown hX.1 hP 0 rfl rfl 2 (by decide) (hts _ kw_144) (fun _ h9 => h9) rfl dX2_remember_15 ?_
    refine lv_iconst (v := (nI 1)) hx hb dX2_remember_18 (by decide) ?_
    refine lv_iadd hx hb dX2_remember_19 (ti (y := (nI 4)) (nI_add _ _) ?_)
    refine lv_bipush (v := (nI 6)) hx hb dX2_remember_20 (by decide) ?_
    refine lv_irem hx hb dX2_remember_22 (by decide) (ti (y := (nI (4 % 6))) (pk_rem (by decide) (by decide) (by decide)) ?_)
    refine va_put (D := G.1) (ci := 1) (v := .int (nI (4 % 6))) (ty := .int) (C := RX2) (T := TX2) (N := 3) hx hb hts inA2 tyX2 tyX2_ok nmX2 hown hX.1 hP hD hS 0 rfl rfl 2 (by decide) (hts _ kw_144) (fun _ h9 => h9) rfl (by decide +kernel) rfl rfl (Nat.le_of_ble_eq_true rfl) dX2_remember_23 (fun H locs hP hD hS => ?_)
    have hP : va_P G.1 vwCl (pao G pd sz (4 % 6) (fun k => some (ads k 0)) ++ (tkw G (ads 0) (as 0) (rs 0) ++ (tkw G (ads 1) (as 1) (rs 1) ++ (tkw G (ads 2) (as 2) (rs 2) ++ (tkw G (ads 3) a r ++ (tkw G (ads 4) (as 4) (rs 4) ++ (tkw G (ads 5) (as 5) (rs 5) ++ (tkw G ad a r)))))))) H := hP
    have hD : va_D A (pao G pd sz (4 % 6) (fun k => some (ads k 0)) ++ (tkw G (ads 0) (as 0) (rs 0) ++ (tkw G (ads 1) (as 1) (rs 1) ++ (tkw G (ads 2) (as 2) (rs 2) ++ (tkw G (ads 3) a r ++ (tkw G (ads 4) (as 4) (rs 4) ++ (tkw G (ads 5) (as 5) (rs 5) ++ (tkw G ad a r)))))))) := hD
    refine lv_aload_n hx hb dX2_remember_26 rfl (lv_at hl 0 rfl) ?_
    refine lv_aload_n hx hb dX2_remember_27 rfl (lv_at hl 0 rfl) ?_
    refine va_get (D := G.1) (ci := 1) (v := .int (nI sz)) (C := RX2) (T := TX2) (N := 3) hx hb hts inA2 hown hX.1 hP 0 rfl rfl 1 (by decide) (hts _ kw_142) (fun _ h9 => h9) rfl dX2_remember_28 ?_
    refine lv_iconst (v := (nI 1)) hx hb dX2_remember_31 (by decide) ?_
    refine lv_iadd hx hb dX2_remember_32 (ti (y := (nI (sz + 1))) (nI_add _ _) ?_)
    refine lv_bipush (v := (nI 6)) hx hb dX2_remember_33 (by decide) ?_
    refine va_mmin hx hb (hml.trans hl.1.symm) hown (hts _ kw_377) (hts _ kw_378) (hts _ kw_14) (hts _ kw_379) (by decide) (Nat.le_of_ble_eq_true rfl) (Nat.zero_le _) (Nat.zero_le _) dX2_remember_35 ?_
    refine ti (y := (nI (min (sz + 1) 6))) (qn_min (by omega) (by omega)) ?_
    refine va_put (D := G.1) (ci := 1) (v := .int (nI (min (sz + 1) 6))) (ty := .int) (C := RX2) (T := TX2) (N := 3) hx hb hts inA2 tyX2 tyX2_ok nmX2 hown hX.1 hP hD hS 0 rfl rfl 1 (by decide) (hts _ kw_142) (fun _ h9 => h9) rfl (by decide +kernel) rfl rfl (Nat.le_of_ble_eq_true rfl) dX2_remember_38 (fun H locs hP hD hS => ?_)
    have hP : va_P G.1 vwCl (pao G pd (min (sz + 1) 6) (4 % 6) (fun k => some (ads k 0)) ++ (tkw G (ads 0) (as 0) (rs 0) ++ (tkw G (ads 1) (as 1) (rs 1) ++ (tkw G (ads 2) (as 2) (rs 2) ++ (tkw G (ads 3) a r ++ (tkw G (ads 4) (as 4) (rs 4) ++ (tkw G (ads 5) (as 5) (rs 5) ++ (tkw G ad a r)))))))) H := hP
    have hD : va_D A (pao G pd (min (sz + 1) 6) (4 % 6) (fun k => some (ads k 0)) ++ (tkw G (ads 0) (as 0) (rs 0) ++ (tkw G (ads 1) (as 1) (rs 1) ++ (tkw G (ads 2) (as 2) (rs 2) ++ (tkw G (ads 3) a r ++ (tkw G (ads 4) (as 4) (rs 4) ++ (tkw G (ads 5) (as 5) (rs 5) ++ (tkw G ad a r)))))))) := hD
    have hP : va_P G.1 vwCl (pao G pd (min (sz + 1) 6) ((3 + 1) % 6) (fun k => some (ads k 0)) ++ (tkw G (ads 0) ((va_up as 3 a) 0) ((va_up rs 3 r) 0) ++ (tkw G (ads 1) ((va_up as 3 a) 1) ((va_up rs 3 r) 1) ++ (tkw G (ads 2) ((va_up as 3 a) 2) ((va_up rs 3 r) 2) ++ (tkw G (ads 3) ((va_up as 3 a) 3) ((va_up rs 3 r) 3) ++ (tkw G (ads 4) ((va_up as 3 a) 4) ((va_up rs 3 r) 4) ++ (tkw G (ads 5) ((va_up as 3 a) 5) ((va_up rs 3 r) 5) ++ (tkw G ad a r)))))))) _ := hP
    have hD : va_D A (pao G pd (min (sz + 1) 6) ((3 + 1) % 6) (fun k => some (ads k 0)) ++ (tkw G (ads 0) ((va_up as 3 a) 0) ((va_up rs 3 r) 0) ++ (tkw G (ads 1) ((va_up as 3 a) 1) ((va_up rs 3 r) 1) ++ (tkw G (ads 2) ((va_up as 3 a) 2) ((va_up rs 3 r) 2) ++ (tkw G (ads 3) ((va_up as 3 a) 3) ((va_up rs 3 r) 3) ++ (tkw G (ads 4) ((va_up as 3 a) 4) ((va_up rs 3 r) 4) ++ (tkw G (ads 5) ((va_up as 3 a) 5) ((va_up rs 3 r) 5) ++ (tkw G ad a r)))))))) := hD
    have hP : va_P G.1 vwCl (paw G pd (min (sz + 1) 6) ((3 + 1) % 6) ads (va_up as 3 a) (va_up rs 3 r) ++ tkw G ad a r) _ := wp_pm (List.Perm.of_eq (by simp only [paw, List.append_assoc])) hP
    have hD : va_D A (paw G pd (min (sz + 1) 6) ((3 + 1) % 6) ads (va_up as 3 a) (va_up rs 3 r) ++ tkw G ad a r) := wd_pm (List.Perm.of_eq (by simp only [paw, List.append_assoc])) hD
    exact re_v hx hb hr hlocks hS () hP hD trivial dX2_remember_41
  · refine lv_aload_n hx hb dX2_remember_0 rfl (lv_at hl 0 rfl) ?_
    refine va_get (D := G.1) (ci := 1) (v := .ref (pd 1)) (C := RX2) (T := TX2) (N := 3) hx hb hts inA2 hown hX.1 hP 0 rfl rfl 0 (by decide) (hts _ kw_141) (fun _ h9 => h9) rfl dX2_remember_1 ?_
    refine lv_aload_n hx hb dX2_remember_4 rfl (lv_at hl 0 rfl) ?_
    refine va_get (D := G.1) (ci := 1) (v := .int (nI 4)) (C := RX2) (T := TX2) (N := 3) hx hb hts inA2 hown hX.1 hP 0 rfl rfl 2 (by decide) (hts _ kw_144) (fun _ h9 => h9) rfl dX2_remember_5 ?_
    refine nv_aldT (f := (fun k => some (ads k 0))) (k := 4) (x := (ads 4) 0) hx hb hX hP 1 rfl (by omega) (by decide) rfl dX2_remember_8 ?_
    refine lv_aload_n hx hb dX2_remember_9 rfl (lv_at hl 1 rfl) ?_
    refine ca_Vv (ci := 3) (q := (RX4, TX4, 12)) (rest := []) (wr := pao G pd sz 4 (fun k => some (ads k 0)) ++ (tkw G (ads 0) (as 0) (rs 0) ++ (tkw G (ads 1) (as 1) (rs 1) ++ (tkw G (ads 2) (as 2) (rs 2) ++ (tkw G (ads 3) (as 3) (rs 3) ++ (tkw G (ads 5) (as 5) (rs 5))))))) F hX (mX4_become l G (ads 4) (as 4) (rs 4) ad a r) (cA_V hts kw_373 kw_3 kw_370 kw_371 kw_372 hdX4_become ⟨Nat.le_of_ble_eq_true rfl, Nat.le_of_ble_eq_true rfl⟩) rfl rfl rfl hl.1 rfl (Nat.le_of_ble_eq_true rfl) dX2_remember_10 ⟨Nat.le_of_ble_eq_true rfl, Nat.le_of_ble_eq_true rfl⟩ hP hD hS hA ((((List.Perm.append_left _ ((List.Perm.append_left _ ((List.Perm.append_left _ ((List.Perm.append_left _ ((List.Perm.append_left _ ((List.Perm.append_left _ (List.perm_append_comm)).trans (pm_sw _ _ _))).trans (pm_sw _ _ _))).trans (pm_sw _ _ _))).trans (pm_sw _ _ _))).trans (pm_sw _ _ _))).trans (pm_sw _ _ _)).trans ((List.Perm.append_left _ ((List.Perm.append_left _ ((List.Perm.append_left _ ((List.Perm.append_left _ ((List.Perm.append_left _ (pm_sw _ _ _)).trans (pm_sw _ _ _))).trans (pm_sw _ _ _))).trans (pm_sw _ _ _))).trans (pm_sw _ _ _))).trans (pm_sw _ _ _))).trans (List.Perm.of_eq (List.append_assoc _ _ _).symm)) (fun u10 H locs hp10 hP hD hS => ?_)
    have hP : va_P G.1 vwCl (pao G pd sz 4 (fun k => some (ads k 0)) ++ (tkw G (ads 0) (as 0) (rs 0) ++ (tkw G (ads 1) (as 1) (rs 1) ++ (tkw G (ads 2) (as 2) (rs 2) ++ (tkw G (ads 3) (as 3) (rs 3) ++ (tkw G (ads 4) a r ++ (tkw G (ads 5) (as 5) (rs 5) ++ (tkw G ad a r)))))))) H := wp_pm ((((List.Perm.append_left _ ((List.Perm.append_left _ ((List.Perm.append_left _ ((List.Perm.append_left _ ((List.Perm.append_left _ ((List.Perm.append_left _ (List.perm_append_comm)).trans (pm_sw _ _ _))).trans (pm_sw _ _ _))).trans (pm_sw _ _ _))).trans (pm_sw _ _ _))).trans (pm_sw _ _ _))).trans (pm_sw _ _ _)).trans ((List.Perm.append_left _ ((List.Perm.append_left _ ((List.Perm.append_left _ ((List.Perm.append_left _ ((List.Perm.append_left _ (pm_sw _ _ _)).trans (pm_sw _ _ _))).trans (pm_sw _ _ _))).trans (pm_sw _ _ _))).trans (pm_sw _ _ _))).trans (pm_sw _ _ _))).trans (List.Perm.of_eq (List.append_assoc _ _ _).symm)).symm hP
    have hD : va_D A (pao G pd sz 4 (fun k => some (ads k 0)) ++ (tkw G (ads 0) (as 0) (rs 0) ++ (tkw G (ads 1) (as 1) (rs 1) ++ (tkw G (ads 2) (as 2) (rs 2) ++ (tkw G (ads 3) (as 3) (rs 3) ++ (tkw G (ads 4) a r ++ (tkw G (ads 5) (as 5) (rs 5) ++ (tkw G ad a r)))))))) := wd_pm ((((List.Perm.append_left _ ((List.Perm.append_left _ ((List.Perm.append_left _ ((List.Perm.append_left _ ((List.Perm.append_left _ ((List.Perm.append_left _ (List.perm_append_comm)).trans (pm_sw _ _ _))).trans (pm_sw _ _ _))).trans (pm_sw _ _ _))).trans (pm_sw _ _ _))).trans (pm_sw _ _ _))).trans (pm_sw _ _ _)).trans ((List.Perm.append_left _ ((List.Perm.append_left _ ((List.Perm.append_left _ ((List.Perm.append_left _ ((List.Perm.append_left _ (pm_sw _ _ _)).trans (pm_sw _ _ _))).trans (pm_sw _ _ _))).trans (pm_sw _ _ _))).trans (pm_sw _ _ _))).trans (pm_sw _ _ _))).trans (List.Perm.of_eq (List.append_assoc _ _ _).symm)).symm hD
    refine lv_aload_n hx hb dX2_remember_13 rfl (lv_at hl 0 rfl) ?_
    refine lv_aload_n hx hb dX2_remember_14 rfl (lv_at hl 0 rfl) ?_
    refine va_get (D := G.1) (ci := 1) (v := .int (nI 4)) (C := RX2) (T := TX2) (N := 3) hx hb hts inA2 hown hX.1 hP 0 rfl rfl 2 (by decide) (hts _ kw_144) (fun _ h9 => h9) rfl dX2_remember_15 ?_
    refine lv_iconst (v := (nI 1)) hx hb dX2_remember_18 (by decide) ?_
    refine lv_iadd hx hb dX2_remember_19 (ti (y := (nI 5)) (nI_add _ _) ?_)
    refine lv_bipush (v := (nI 6)) hx hb dX2_remember_20 (by decide) ?_
    refine lv_irem hx hb dX2_remember_22 (by decide) (ti (y := (nI (5 % 6))) (pk_rem (by decide) (by decide) (by decide)) ?_)
    refine va_put (D := G.1) (ci := 1) (v := .int (nI (5 % 6))) (ty := .int) (C := RX2) (T := TX2) (N := 3) hx hb hts inA2 tyX2 tyX2_ok nmX2 hown hX.1 hP hD hS 0 rfl rfl 2 (by decide) (hts _ kw_144) (fun _ h9 => h9) rfl (by decide +kernel) rfl rfl (Nat.le_of_ble_eq_true rfl) dX2_remember_23 (fun H locs hP hD hS => ?_)
    have hP : va_P G.1 vwCl (pao G pd sz (5 % 6) (fun k => some (ads k 0)) ++ (tkw G (ads 0) (as 0) (rs 0) ++ (tkw G (ads 1) (as 1) (rs 1) ++ (tkw G (ads 2) (as 2) (rs 2) ++ (tkw G (ads 3) (as 3) (rs 3) ++ (tkw G (ads 4) a r ++ (tkw G (ads 5) (as 5) (rs 5) ++ (tkw G ad a r)))))))) H := hP
    have hD : va_D A (pao G pd sz (5 % 6) (fun k => some (ads k 0)) ++ (tkw G (ads 0) (as 0) (rs 0) ++ (tkw G (ads 1) (as 1) (rs 1) ++ (tkw G (ads 2) (as 2) (rs 2) ++ (tkw G (ads 3) (as 3) (rs 3) ++ (tkw G (ads 4) a r ++ (tkw G (ads 5) (as 5) (rs 5) ++ (tkw G ad a r)))))))) := hD
    refine lv_aload_n hx hb dX2_remember_26 rfl (lv_at hl 0 rfl) ?_
    refine lv_aload_n hx hb dX2_remember_27 rfl (lv_at hl 0 rfl) ?_
    refine va_get (D := G.1) (ci := 1) (v := .int (nI sz)) (C := RX2) (T := TX2) (N := 3) hx hb hts inA2 hown hX.1 hP 0 rfl rfl 1 (by decide) (hts _ kw_142) (fun _ h9 => h9) rfl dX2_remember_28 ?_
    refine lv_iconst (v := (nI 1)) hx hb dX2_remember_31 (by decide) ?_
    refine lv_iadd hx hb dX2_remember_32 (ti (y := (nI (sz + 1))) (nI_add _ _) ?_)
    refine lv_bipush (v := (nI 6)) hx hb dX2_remember_33 (by decide) ?_
    refine va_mmin hx hb (hml.trans hl.1.symm) hown (hts _ kw_377) (hts _ kw_378) (hts _ kw_14) (hts _ kw_379) (by decide) (Nat.le_of_ble_eq_true rfl) (Nat.zero_le _) (Nat.zero_le _) dX2_remember_35 ?_
    refine ti (y := (nI (min (sz + 1) 6))) (qn_min (by omega) (by omega)) ?_
    refine va_put (D := G.1) (ci := 1) (v := .int (nI (min (sz + 1) 6))) (ty := .int) (C := RX2) (T := TX2) (N := 3) hx hb hts inA2 tyX2 tyX2_ok nmX2 hown hX.1 hP hD hS 0 rfl rfl 1 (by decide) (hts _ kw_142) (fun _ h9 => h9) rfl (by decide +kernel) rfl rfl (Nat.le_of_ble_eq_true rfl) dX2_remember_38 (fun H locs hP hD hS => ?_)
    have hP : va_P G.1 vwCl (pao G pd (min (sz + 1) 6) (5 % 6) (fun k => some (ads k 0)) ++ (tkw G (ads 0) (as 0) (rs 0) ++ (tkw G (ads 1) (as 1) (rs 1) ++ (tkw G (ads 2) (as 2) (rs 2) ++ (tkw G (ads 3) (as 3) (rs 3) ++ (tkw G (ads 4) a r ++ (tkw G (ads 5) (as 5) (rs 5) ++ (tkw G ad a r)))))))) H := hP
    have hD : va_D A (pao G pd (min (sz + 1) 6) (5 % 6) (fun k => some (ads k 0)) ++ (tkw G (ads 0) (as 0) (rs 0) ++ (tkw G (ads 1) (as 1) (rs 1) ++ (tkw G (ads 2) (as 2) (rs 2) ++ (tkw G (ads 3) (as 3) (rs 3) ++ (tkw G (ads 4) a r ++ (tkw G (ads 5) (as 5) (rs 5) ++ (tkw G ad a r)))))))) := hD
    have hP : va_P G.1 vwCl (pao G pd (min (sz + 1) 6) ((4 + 1) % 6) (fun k => some (ads k 0)) ++ (tkw G (ads 0) ((va_up as 4 a) 0) ((va_up rs 4 r) 0) ++ (tkw G (ads 1) ((va_up as 4 a) 1) ((va_up rs 4 r) 1) ++ (tkw G (ads 2) ((va_up as 4 a) 2) ((va_up rs 4 r) 2) ++ (tkw G (ads 3) ((va_up as 4 a) 3) ((va_up rs 4 r) 3) ++ (tkw G (ads 4) ((va_up as 4 a) 4) ((va_up rs 4 r) 4) ++ (tkw G (ads 5) ((va_up as 4 a) 5) ((va_up rs 4 r) 5) ++ (tkw G ad a r)))))))) _ := hP
    have hD : va_D A (pao G pd (min (sz + 1) 6) ((4 + 1) % 6) (fun k => some (ads k 0)) ++ (tkw G (ads 0) ((va_up as 4 a) 0) ((va_up rs 4 r) 0) ++ (tkw G (ads 1) ((va_up as 4 a) 1) ((va_up rs 4 r) 1) ++ (tkw G (ads 2) ((va_up as 4 a) 2) ((va_up rs 4 r) 2) ++ (tkw G (ads 3) ((va_up as 4 a) 3) ((va_up rs 4 r) 3) ++ (tkw G (ads 4) ((va_up as 4 a) 4) ((va_up rs 4 r) 4) ++ (tkw G (ads 5) ((va_up as 4 a) 5) ((va_up rs 4 r) 5) ++ (tkw G ad a r)))))))) := hD
    have hP : va_P G.1 vwCl (paw G pd (min (sz + 1) 6) ((4 + 1) % 6) ads (va_up as 4 a) (va_up rs 4 r) ++ tkw G ad a r) _ := wp_pm (List.Perm.of_eq (by simp only [paw, List.append_assoc])) hP
    have hD : va_D A (paw G pd (min (sz + 1) 6) ((4 + 1) % 6) ads (va_up as 4 a) (va_up rs 4 r) ++ tkw G ad a r) := wd_pm (List.Perm.of_eq (by simp only [paw, List.append_assoc])) hD
    exact re_v hx hb hr hlocks hS () hP hD trivial dX2_remember_41
  · refine lv_aload_n hx hb dX2_remember_0 rfl (lv_at hl 0 rfl) ?_
    refine va_get (D := G.1) (ci := 1) (v := .ref (pd 1)) (C := RX2) (T := TX2) (N := 3) hx hb hts inA2 hown hX.1 hP 0 rfl rfl 0 (by decide) (hts _ kw_141) (fun _ h9 => h9) rfl dX2_remember_1 ?_
    refine lv_aload_n hx hb dX2_remember_4 rfl (lv_at hl 0 rfl) ?_
    refine va_get (D := G.1) (ci := 1) (v := .int (nI 5)) (C := RX2) (T := TX2) (N := 3) hx hb hts inA2 hown hX.1 hP 0 rfl rfl 2 (by decide) (hts _ kw_144) (fun _ h9 => h9) rfl dX2_remember_5 ?_
    refine nv_aldT (f := (fun k => some (ads k 0))) (k := 5) (x := (ads 5) 0) hx hb hX hP 1 rfl (by omega) (by decide) rfl dX2_remember_8 ?_
    refine lv_aload_n hx hb dX2_remember_9 rfl (lv_at hl 1 rfl) ?_
    refine ca_Vv (ci := 3) (q := (RX4, TX4, 12)) (rest := []) (wr := pao G pd sz 5 (fun k => some (ads k 0)) ++ (tkw G (ads 0) (as 0) (rs 0) ++ (tkw G (ads 1) (as 1) (rs 1) ++ (tkw G (ads 2) (as 2) (rs 2) ++ (tkw G (ads 3) (as 3) (rs 3) ++ (tkw G (ads 4) (as 4) (rs 4))))))) F hX (mX4_become l G (ads 5) (as 5) (rs 5) ad a r) (cA_V hts kw_373 kw_3 kw_370 kw_371 kw_372 hdX4_become ⟨Nat.le_of_ble_eq_true rfl, Nat.le_of_ble_eq_true rfl⟩) rfl rfl rfl hl.1 rfl (Nat.le_of_ble_eq_true rfl) dX2_remember_10 ⟨Nat.le_of_ble_eq_true rfl, Nat.le_of_ble_eq_true rfl⟩ hP hD hS hA ((((List.Perm.append_left _ ((List.Perm.append_left _ ((List.Perm.append_left _ ((List.Perm.append_left _ ((List.Perm.append_left _ ((List.Perm.append_left _ (List.perm_append_comm)).trans (pm_sw _ _ _))).trans (pm_sw _ _ _))).trans (pm_sw _ _ _))).trans (pm_sw _ _ _))).trans (pm_sw _ _ _))).trans (pm_sw _ _ _)).trans ((List.Perm.append_left _ ((List.Perm.append_left _ ((List.Perm.append_left _ ((List.Perm.append_left _ ((List.Perm.append_left _ ((List.Perm.append_left _ (List.perm_append_comm)).trans (pm_sw _ _ _))).trans (pm_sw _ _ _))).trans (pm_sw _ _ _))).trans (pm_sw _ _ _))).trans (pm_sw _ _ _))).trans (pm_sw _ _ _))).trans (List.Perm.of_eq (List.append_assoc _ _ _).symm)) (fun u10 H locs hp10 hP hD hS => ?_)
    have hP : va_P G.1 vwCl (pao G pd sz 5 (fun k => some (ads k 0)) ++ (tkw G (ads 0) (as 0) (rs 0) ++ (tkw G (ads 1) (as 1) (rs 1) ++ (tkw G (ads 2) (as 2) (rs 2) ++ (tkw G (ads 3) (as 3) (rs 3) ++ (tkw G (ads 4) (as 4) (rs 4) ++ (tkw G (ads 5) a r ++ (tkw G ad a r)))))))) H := wp_pm ((((List.Perm.append_left _ ((List.Perm.append_left _ ((List.Perm.append_left _ ((List.Perm.append_left _ ((List.Perm.append_left _ ((List.Perm.append_left _ (List.perm_append_comm)).trans (pm_sw _ _ _))).trans (pm_sw _ _ _))).trans (pm_sw _ _ _))).trans (pm_sw _ _ _))).trans (pm_sw _ _ _))).trans (pm_sw _ _ _)).trans ((List.Perm.append_left _ ((List.Perm.append_left _ ((List.Perm.append_left _ ((List.Perm.append_left _ ((List.Perm.append_left _ ((List.Perm.append_left _ (List.perm_append_comm)).trans (pm_sw _ _ _))).trans (pm_sw _ _ _))).trans (pm_sw _ _ _))).trans (pm_sw _ _ _))).trans (pm_sw _ _ _))).trans (pm_sw _ _ _))).trans (List.Perm.of_eq (List.append_assoc _ _ _).symm)).symm hP
    have hD : va_D A (pao G pd sz 5 (fun k => some (ads k 0)) ++ (tkw G (ads 0) (as 0) (rs 0) ++ (tkw G (ads 1) (as 1) (rs 1) ++ (tkw G (ads 2) (as 2) (rs 2) ++ (tkw G (ads 3) (as 3) (rs 3) ++ (tkw G (ads 4) (as 4) (rs 4) ++ (tkw G (ads 5) a r ++ (tkw G ad a r)))))))) := wd_pm ((((List.Perm.append_left _ ((List.Perm.append_left _ ((List.Perm.append_left _ ((List.Perm.append_left _ ((List.Perm.append_left _ ((List.Perm.append_left _ (List.perm_append_comm)).trans (pm_sw _ _ _))).trans (pm_sw _ _ _))).trans (pm_sw _ _ _))).trans (pm_sw _ _ _))).trans (pm_sw _ _ _))).trans (pm_sw _ _ _)).trans ((List.Perm.append_left _ ((List.Perm.append_left _ ((List.Perm.append_left _ ((List.Perm.append_left _ ((List.Perm.append_left _ ((List.Perm.append_left _ (List.perm_append_comm)).trans (pm_sw _ _ _))).trans (pm_sw _ _ _))).trans (pm_sw _ _ _))).trans (pm_sw _ _ _))).trans (pm_sw _ _ _))).trans (pm_sw _ _ _))).trans (List.Perm.of_eq (List.append_assoc _ _ _).symm)).symm hD
    refine lv_aload_n hx hb dX2_remember_13 rfl (lv_at hl 0 rfl) ?_
    refine lv_aload_n hx hb dX2_remember_14 rfl (lv_at hl 0 rfl) ?_
    refine va_get (D := G.1) (ci := 1) (v := .int (nI 5)) (C := RX2) (T := TX2) (N := 3) hx hb hts inA2 hown hX.1 hP 0 rfl rfl 2 (by decide) (hts _ kw_144) (fun _ h9 => h9) rfl dX2_remember_15 ?_
    refine lv_iconst (v := (nI 1)) hx hb dX2_remember_18 (by decide) ?_
    refine lv_iadd hx hb dX2_remember_19 (ti (y := (nI 6)) (nI_add _ _) ?_)
    refine lv_bipush (v := (nI 6)) hx hb dX2_remember_20 (by decide) ?_
    refine lv_irem hx hb dX2_remember_22 (by decide) (ti (y := (nI (6 % 6))) (pk_rem (by decide) (by decide) (by decide)) ?_)
    refine va_put (D := G.1) (ci := 1) (v := .int (nI (6 % 6))) (ty := .int) (C := RX2) (T := TX2) (N := 3) hx hb hts inA2 tyX2 tyX2_ok nmX2 hown hX.1 hP hD hS 0 rfl rfl 2 (by decide) (hts _ kw_144) (fun _ h9 => h9) rfl (by decide +kernel) rfl rfl (Nat.le_of_ble_eq_true rfl) dX2_remember_23 (fun H locs hP hD hS => ?_)
    have hP : va_P G.1 vwCl (pao G pd sz (6 % 6) (fun k => some (ads k 0)) ++ (tkw G (ads 0) (as 0) (rs 0) ++ (tkw G (ads 1) (as 1) (rs 1) ++ (tkw G (ads 2) (as 2) (rs 2) ++ (tkw G (ads 3) (as 3) (rs 3) ++ (tkw G (ads 4) (as 4) (rs 4) ++ (tkw G (ads 5) a r ++ (tkw G ad a r)))))))) H := hP
    have hD : va_D A (pao G pd sz (6 % 6) (fun k => some (ads k 0)) ++ (tkw G (ads 0) (as 0) (rs 0) ++ (tkw G (ads 1) (as 1) (rs 1) ++ (tkw G (ads 2) (as 2) (rs 2) ++ (tkw G (ads 3) (as 3) (rs 3) ++ (tkw G (ads 4) (as 4) (rs 4) ++ (tkw G (ads 5) a r ++ (tkw G ad a r)))))))) := hD
    refine lv_aload_n hx hb dX2_remember_26 rfl (lv_at hl 0 rfl) ?_
    refine lv_aload_n hx hb dX2_remember_27 rfl (lv_at hl 0 rfl) ?_
    refine va_get (D := G.1) (ci := 1) (v := .int (nI sz)) (C := RX2) (T := TX2) (N := 3) hx hb hts inA2 hown hX.1 hP 0 rfl rfl 1 (by decide) (hts _ kw_142) (fun _ h9 => h9) rfl dX2_remember_28 ?_
    refine lv_iconst (v := (nI 1)) hx hb dX2_remember_31 (by decide) ?_
    refine lv_iadd hx hb dX2_remember_32 (ti (y := (nI (sz + 1))) (nI_add _ _) ?_)
    refine lv_bipush (v := (nI 6)) hx hb dX2_remember_33 (by decide) ?_
    refine va_mmin hx hb (hml.trans hl.1.symm) hown (hts _ kw_377) (hts _ kw_378) (hts _ kw_14) (hts _ kw_379) (by decide) (Nat.le_of_ble_eq_true rfl) (Nat.zero_le _) (Nat.zero_le _) dX2_remember_35 ?_
    refine ti (y := (nI (min (sz + 1) 6))) (qn_min (by omega) (by omega)) ?_
    refine va_put (D := G.1) (ci := 1) (v := .int (nI (min (sz + 1) 6))) (ty := .int) (C := RX2) (T := TX2) (N := 3) hx hb hts inA2 tyX2 tyX2_ok nmX2 hown hX.1 hP hD hS 0 rfl rfl 1 (by decide) (hts _ kw_142) (fun _ h9 => h9) rfl (by decide +kernel) rfl rfl (Nat.le_of_ble_eq_true rfl) dX2_remember_38 (fun H locs hP hD hS => ?_)
    have hP : va_P G.1 vwCl (pao G pd (min (sz + 1) 6) (6 % 6) (fun k => some (ads k 0)) ++ (tkw G (ads 0) (as 0) (rs 0) ++ (tkw G (ads 1) (as 1) (rs 1) ++ (tkw G (ads 2) (as 2) (rs 2) ++ (tkw G (ads 3) (as 3) (rs 3) ++ (tkw G (ads 4) (as 4) (rs 4) ++ (tkw G (ads 5) a r ++ (tkw G ad a r)))))))) H := hP
    have hD : va_D A (pao G pd (min (sz + 1) 6) (6 % 6) (fun k => some (ads k 0)) ++ (tkw G (ads 0) (as 0) (rs 0) ++ (tkw G (ads 1) (as 1) (rs 1) ++ (tkw G (ads 2) (as 2) (rs 2) ++ (tkw G (ads 3) (as 3) (rs 3) ++ (tkw G (ads 4) (as 4) (rs 4) ++ (tkw G (ads 5) a r ++ (tkw G ad a r)))))))) := hD
    have hP : va_P G.1 vwCl (pao G pd (min (sz + 1) 6) ((5 + 1) % 6) (fun k => some (ads k 0)) ++ (tkw G (ads 0) ((va_up as 5 a) 0) ((va_up rs 5 r) 0) ++ (tkw G (ads 1) ((va_up as 5 a) 1) ((va_up rs 5 r) 1) ++ (tkw G (ads 2) ((va_up as 5 a) 2) ((va_up rs 5 r) 2) ++ (tkw G (ads 3) ((va_up as 5 a) 3) ((va_up rs 5 r) 3) ++ (tkw G (ads 4) ((va_up as 5 a) 4) ((va_up rs 5 r) 4) ++ (tkw G (ads 5) ((va_up as 5 a) 5) ((va_up rs 5 r) 5) ++ (tkw G ad a r)))))))) _ := hP
    have hD : va_D A (pao G pd (min (sz + 1) 6) ((5 + 1) % 6) (fun k => some (ads k 0)) ++ (tkw G (ads 0) ((va_up as 5 a) 0) ((va_up rs 5 r) 0) ++ (tkw G (ads 1) ((va_up as 5 a) 1) ((va_up rs 5 r) 1) ++ (tkw G (ads 2) ((va_up as 5 a) 2) ((va_up rs 5 r) 2) ++ (tkw G (ads 3) ((va_up as 5 a) 3) ((va_up rs 5 r) 3) ++ (tkw G (ads 4) ((va_up as 5 a) 4) ((va_up rs 5 r) 4) ++ (tkw G (ads 5) ((va_up as 5 a) 5) ((va_up rs 5 r) 5) ++ (tkw G ad a r)))))))) := hD
    have hP : va_P G.1 vwCl (paw G pd (min (sz + 1) 6) ((5 + 1) % 6) ads (va_up as 5 a) (va_up rs 5 r) ++ tkw G ad a r) _ := wp_pm (List.Perm.of_eq (by simp only [paw, List.append_assoc])) hP
    have hD : va_D A (paw G pd (min (sz + 1) 6) ((5 + 1) % 6) ads (va_up as 5 a) (va_up rs 5 r) ++ tkw G ad a r) := wd_pm (List.Perm.of_eq (by simp only [paw, List.append_assoc])) hD
    exact re_v hx hb hr hlocks hS () hP hD trivial dX2_remember_41

theorem hdX2_recall : hdOK yX2_recall 1 := by decide +kernel
set_option maxHeartbeats 4000000 in
set_option maxRecDepth 100000 in
theorem mX2_recall_yes (l : Launch) (G : GG) (pd : Nat → Nat) (sz nx : Nat) (ads as : Nat → Nat → Nat) (rs : Nat → Nat → Nat → Nat) (ad : Nat → Nat) (a : Nat → Nat) (r : Nat → Nat → Nat) (hz : sz ≤ 6) (hz0 : 0 < sz) (hn : nx < 6) : Mi l yX2_recall cX2_recall 2 (some .boolean) (rmN 2 47) G [.ref (pd 0), .ref (ad 0)] (paw G pd sz nx ads as rs ++ tkw G ad a r) (fun (r9 : Int32) (_ : Unit) => r9 = (bI true)) (fun (_ : Unit) => paw G pd (sz - 1) ((nx + 6 - 1) % 6) ads as rs ++ tkw G ad (as ((nx + 6 - 1) % 6)) (rs ((nx + 6 - 1) % 6))) := by
  refine Mi.of (cc := cX2_recall) (nL := 2) (by decide) (Nat.le_of_ble_eq_true rfl) ?_
  intro p e s m below meth c A ls F hr hlocks hnm hX hA hD hP hS hl
  have F : CallFix p m c cX2_recall 2 s [.ref (pd 0), .ref (ad 0)].toArray wA RX2 := F
  obtain ⟨hx, hb, hml, hown, hts⟩ := id F
  have hl : lv_has ls 2 [(0, .ref (pd 0)), (1, .ref (ad 0))] := hl
  have hP : va_P G.1 vwCl (pao G pd sz nx (fun k => some (ads k 0)) ++ (tkw G (ads 0) (as 0) (rs 0) ++ (tkw G (ads 1) (as 1) (rs 1) ++ (tkw G (ads 2) (as 2) (rs 2) ++ (tkw G (ads 3) (as 3) (rs 3) ++ (tkw G (ads 4) (as 4) (rs 4) ++ (tkw G (ads 5) (as 5) (rs 5) ++ (tkw G ad a r)))))))) s.heap := wp_pm (List.Perm.of_eq (by simp only [paw, List.append_assoc])) hP
  have hD : va_D A (pao G pd sz nx (fun k => some (ads k 0)) ++ (tkw G (ads 0) (as 0) (rs 0) ++ (tkw G (ads 1) (as 1) (rs 1) ++ (tkw G (ads 2) (as 2) (rs 2) ++ (tkw G (ads 3) (as 3) (rs 3) ++ (tkw G (ads 4) (as 4) (rs 4) ++ (tkw G (ads 5) (as 5) (rs 5) ++ (tkw G ad a r)))))))) := wd_pm (List.Perm.of_eq (by simp only [paw, List.append_assoc])) hD
  refine lv_aload_n hx hb dX2_recall_0 rfl (lv_at hl 0 rfl) ?_
  refine va_get (D := G.1) (ci := 1) (v := .int (nI sz)) (C := RX2) (T := TX2) (N := 3) hx hb hts inA2 hown hX.1 hP 0 rfl rfl 1 (by decide) (hts _ kw_142) (fun _ h9 => h9) rfl dX2_recall_1 ?_
  refine nv_zne (x := sz) (tgt := 9) hx hb dX2_recall_4 (by decide) (by omega) (fun c4 => ?_) (fun c4 => ?_)
  · rcases (show nx = 0 ∨ nx = 1 ∨ nx = 2 ∨ nx = 3 ∨ nx = 4 ∨ nx = 5 by omega) with rfl | rfl | rfl | rfl | rfl | rfl
    · refine lv_aload_n hx hb dX2_recall_9 rfl (lv_at hl 0 rfl) ?_
      refine lv_aload_n hx hb dX2_recall_10 rfl (lv_at hl 0 rfl) ?_
      refine va_get (D := G.1) (ci := 1) (v := .int (nI 0)) (C := RX2) (T := TX2) (N := 3) hx hb hts inA2 hown hX.1 hP 0 rfl rfl 2 (by decide) (hts _ kw_144) (fun _ h9 => h9) rfl dX2_recall_11 ?_
      refine lv_bipush (v := (nI 6)) hx hb dX2_recall_14 (by decide) ?_
      refine lv_iadd hx hb dX2_recall_16 (ti (y := (nI 6)) (nI_add _ _) ?_)
      refine lv_iconst (v := (nI 1)) hx hb dX2_recall_17 (by decide) ?_
      refine lv_isub hx hb dX2_recall_18 (ti (y := (nI (6 - 1))) (pk_sub (by decide)) ?_)
      refine lv_bipush (v := (nI 6)) hx hb dX2_recall_19 (by decide) ?_
      refine lv_irem hx hb dX2_recall_21 (by decide) (ti (y := (nI ((6 - 1) % 6))) (pk_rem (by decide) (by decide) (by decide)) ?_)
      refine va_put (D := G.1) (ci := 1) (v := .int (nI ((6 - 1) % 6))) (ty := .int) (C := RX2) (T := TX2) (N := 3) hx hb hts inA2 tyX2 tyX2_ok nmX2 hown hX.1 hP hD hS 0 rfl rfl 2 (by decide) (hts _ kw_144) (fun _ h9 => h9) rfl (by decide +kernel) rfl rfl (Nat.le_of_ble_eq_true rfl) dX2_recall_22 (fun H locs hP hD hS => ?_)
      have hP : va_P G.1 vwCl (pao G pd sz ((6 - 1) % 6) (fun k => some (ads k 0)) ++ (tkw G (ads 0) (as 0) (rs 0) ++ (tkw G (ads 1) (as 1) (rs 1) ++ (tkw G (ads 2) (as 2) (rs 2) ++ (tkw G (ads 3) (as 3) (rs 3) ++ (tkw G (ads 4) (as 4) (rs 4) ++ (tkw G (ads 5) (as 5) (rs 5) ++ (tkw G ad a r)))))))) H := hP
      have hD : va_D A (pao G pd sz ((6 - 1) % 6) (fun k => some (ads k 0)) ++ (tkw G (ads 0) (as 0) (rs 0) ++ (tkw G (ads 1) (as 1) (rs 1) ++ (tkw G (ads 2) (as 2) (rs 2) ++ (tkw G (ads 3) (as 3) (rs 3) ++ (tkw G (ads 4) (as 4) (rs 4) ++ (tkw G (ads 5) (as 5) (rs 5) ++ (tkw G ad a r)))))))) := hD
      refine lv_aload_n hx hb dX2_recall_25 rfl (lv_at hl 0 rfl) ?_
      refine lv_dup hx hb dX2_recall_26 rfl ?_
      refine va_get (D := G.1) (ci := 1) (v := .int (nI sz)) (C := RX2) (T := TX2) (N := 3) hx hb hts inA2 hown hX.1 hP 0 rfl rfl 1 (by decide) (hts _ kw_142) (fun _ h9 => h9) rfl dX2_recall_27 ?_
      refine lv_iconst (v := (nI 1)) hx hb dX2_recall_30 (by decide) ?_
      refine lv_isub hx hb dX2_recall_31 (ti (y := (nI (sz - 1))) (pk_sub (by omega)) ?_)
      refine va_put (D := G.1) (ci := 1) (v := .int (nI (sz - 1))) (ty := .int) (C := RX2) (T := TX2) (N := 3) hx hb hts inA2 tyX2 tyX2_ok nmX2 hown hX.1 hP hD hS 0 rfl rfl 1 (by decide) (hts _ kw_142) (fun _ h9 => h9) rfl (by decide +kernel) rfl rfl (Nat.le_of_ble_eq_true rfl) dX2_recall_32 (fun H locs hP hD hS => ?_)
      have hP : va_P G.1 vwCl (pao G pd (sz - 1) ((6 - 1) % 6) (fun k => some (ads k 0)) ++ (tkw G (ads 0) (as 0) (rs 0) ++ (tkw G (ads 1) (as 1) (rs 1) ++ (tkw G (ads 2) (as 2) (rs 2) ++ (tkw G (ads 3) (as 3) (rs 3) ++ (tkw G (ads 4) (as 4) (rs 4) ++ (tkw G (ads 5) (as 5) (rs 5) ++ (tkw G ad a r)))))))) H := hP
      have hD : va_D A (pao G pd (sz - 1) ((6 - 1) % 6) (fun k => some (ads k 0)) ++ (tkw G (ads 0) (as 0) (rs 0) ++ (tkw G (ads 1) (as 1) (rs 1) ++ (tkw G (ads 2) (as 2) (rs 2) ++ (tkw G (ads 3) (as 3) (rs 3) ++ (tkw G (ads 4) (as 4) (rs 4) ++ (tkw G (ads 5) (as 5) (rs 5) ++ (tkw G ad a r)))))))) := hD
      refine lv_aload_n hx hb dX2_recall_35 rfl (lv_at hl 1 rfl) ?_
      refine lv_aload_n hx hb dX2_recall_36 rfl (lv_at hl 0 rfl) ?_
      refine va_get (D := G.1) (ci := 1) (v := .ref (pd 1)) (C := RX2) (T := TX2) (N := 3) hx hb hts inA2 hown hX.1 hP 0 rfl rfl 0 (by decide) (hts _ kw_141) (fun _ h9 => h9) rfl dX2_recall_37 ?_
      refine lv_aload_n hx hb dX2_recall_40 rfl (lv_at hl 0 rfl) ?_
      refine va_get (D := G.1) (ci := 1) (v := .int (nI ((6 - 1) % 6))) (C := RX2) (T := TX2) (N := 3) hx hb hts inA2 hown hX.1 hP 0 rfl rfl 2 (by decide) (hts _ kw_144) (fun _ h9 => h9) rfl dX2_recall_41 ?_
      refine nv_aldT (f := (fun k => some (ads k 0))) (k := (6 - 1) % 6) (x := (ads 5) 0) hx hb hX hP 1 rfl (by decide) (by decide) rfl dX2_recall_44 ?_
      refine ca_Vv (ci := 3) (q := (RX4, TX4, 12)) (rest := []) (wr := pao G pd (sz - 1) ((6 - 1) % 6) (fun k => some (ads k 0)) ++ (tkw G (ads 0) (as 0) (rs 0) ++ (tkw G (ads 1) (as 1) (rs 1) ++ (tkw G (ads 2) (as 2) (rs 2) ++ (tkw G (ads 3) (as 3) (rs 3) ++ (tkw G (ads 4) (as 4) (rs 4))))))) F hX (mX4_become l G ad a r (ads 5) (as 5) (rs 5)) (cA_V hts kw_373 kw_3 kw_370 kw_371 kw_372 hdX4_become ⟨Nat.le_of_ble_eq_true rfl, Nat.le_of_ble_eq_true rfl⟩) rfl rfl rfl hl.1 rfl (Nat.le_of_ble_eq_true rfl) dX2_recall_45 ⟨Nat.le_of_ble_eq_true rfl, Nat.le_of_ble_eq_true rfl⟩ hP hD hS hA ((((List.Perm.append_left _ ((List.Perm.append_left _ ((List.Perm.append_left _ ((List.Perm.append_left _ ((List.Perm.append_left _ (pm_sw _ _ _)).trans (pm_sw _ _ _))).trans (pm_sw _ _ _))).trans (pm_sw _ _ _))).trans (pm_sw _ _ _))).trans (pm_sw _ _ _)).trans ((List.Perm.append_left _ ((List.Perm.append_left _ ((List.Perm.append_left _ ((List.Perm.append_left _ ((List.Perm.append_left _ ((List.Perm.append_left _ (List.perm_append_comm)).trans (pm_sw _ _ _))).trans (pm_sw _ _ _))).trans (pm_sw _ _ _))).trans (pm_sw _ _ _))).trans (pm_sw _ _ _))).trans (pm_sw _ _ _))).trans (List.Perm.of_eq (List.append_assoc _ _ _).symm)) (fun u45 H locs hp45 hP hD hS => ?_)
      have hP : va_P G.1 vwCl (pao G pd (sz - 1) ((6 - 1) % 6) (fun k => some (ads k 0)) ++ (tkw G (ads 0) (as 0) (rs 0) ++ (tkw G (ads 1) (as 1) (rs 1) ++ (tkw G (ads 2) (as 2) (rs 2) ++ (tkw G (ads 3) (as 3) (rs 3) ++ (tkw G (ads 4) (as 4) (rs 4) ++ (tkw G (ads 5) (as 5) (rs 5) ++ (tkw G ad (as 5) (rs 5))))))))) H := wp_pm ((((List.Perm.append_left _ ((List.Perm.append_left _ ((List.Perm.append_left _ ((List.Perm.append_left _ ((List.Perm.append_left _ (pm_sw _ _ _)).trans (pm_sw _ _ _))).trans (pm_sw _ _ _))).trans (pm_sw _ _ _))).trans (pm_sw _ _ _))).trans (pm_sw _ _ _)).trans ((List.Perm.append_left _ ((List.Perm.append_left _ ((List.Perm.append_left _ ((List.Perm.append_left _ ((List.Perm.append_left _ ((List.Perm.append_left _ (List.perm_append_comm)).trans (pm_sw _ _ _))).trans (pm_sw _ _ _))).trans (pm_sw _ _ _))).trans (pm_sw _ _ _))).trans (pm_sw _ _ _))).trans (pm_sw _ _ _))).trans (List.Perm.of_eq (List.append_assoc _ _ _).symm)).symm hP
      have hD : va_D A (pao G pd (sz - 1) ((6 - 1) % 6) (fun k => some (ads k 0)) ++ (tkw G (ads 0) (as 0) (rs 0) ++ (tkw G (ads 1) (as 1) (rs 1) ++ (tkw G (ads 2) (as 2) (rs 2) ++ (tkw G (ads 3) (as 3) (rs 3) ++ (tkw G (ads 4) (as 4) (rs 4) ++ (tkw G (ads 5) (as 5) (rs 5) ++ (tkw G ad (as 5) (rs 5))))))))) := wd_pm ((((List.Perm.append_left _ ((List.Perm.append_left _ ((List.Perm.append_left _ ((List.Perm.append_left _ ((List.Perm.append_left _ (pm_sw _ _ _)).trans (pm_sw _ _ _))).trans (pm_sw _ _ _))).trans (pm_sw _ _ _))).trans (pm_sw _ _ _))).trans (pm_sw _ _ _)).trans ((List.Perm.append_left _ ((List.Perm.append_left _ ((List.Perm.append_left _ ((List.Perm.append_left _ ((List.Perm.append_left _ ((List.Perm.append_left _ (List.perm_append_comm)).trans (pm_sw _ _ _))).trans (pm_sw _ _ _))).trans (pm_sw _ _ _))).trans (pm_sw _ _ _))).trans (pm_sw _ _ _))).trans (pm_sw _ _ _))).trans (List.Perm.of_eq (List.append_assoc _ _ _).symm)).symm hD
      refine lv_iconst (v := (nI 1)) hx hb dX2_recall_48 (by decide) ?_
      have hP : va_P G.1 vwCl (pao G pd (sz - 1) ((0 + 6 - 1) % 6) (fun k => some (ads k 0)) ++ (tkw G (ads 0) (as 0) (rs 0) ++ (tkw G (ads 1) (as 1) (rs 1) ++ (tkw G (ads 2) (as 2) (rs 2) ++ (tkw G (ads 3) (as 3) (rs 3) ++ (tkw G (ads 4) (as 4) (rs 4) ++ (tkw G (ads 5) (as 5) (rs 5) ++ (tkw G ad (as ((0 + 6 - 1) % 6)) (rs ((0 + 6 - 1) % 6)))))))))) _ := hP
      have hD : va_D A (pao G pd (sz - 1) ((0 + 6 - 1) % 6) (fun k => some (ads k 0)) ++ (tkw G (ads 0) (as 0) (rs 0) ++ (tkw G (ads 1) (as 1) (rs 1) ++ (tkw G (ads 2) (as 2) (rs 2) ++ (tkw G (ads 3) (as 3) (rs 3) ++ (tkw G (ads 4) (as 4) (rs 4) ++ (tkw G (ads 5) (as 5) (rs 5) ++ (tkw G ad (as ((0 + 6 - 1) % 6)) (rs ((0 + 6 - 1) % 6)))))))))) := hD
      have hP : va_P G.1 vwCl (paw G pd (sz - 1) ((0 + 6 - 1) % 6) ads as rs ++ tkw G ad (as ((0 + 6 - 1) % 6)) (rs ((0 + 6 - 1) % 6))) _ := wp_pm (List.Perm.of_eq (by simp only [paw, List.append_assoc])) hP
      have hD : va_D A (paw G pd (sz - 1) ((0 + 6 - 1) % 6) ads as rs ++ tkw G ad (as ((0 + 6 - 1) % 6)) (rs ((0 + 6 - 1) % 6))) := wd_pm (List.Perm.of_eq (by simp only [paw, List.append_assoc])) hD
      exact re_z (v := (nI 1)) hx hb hr hlocks hS () hP hD rfl (by decide) dX2_recall_49
    · refine lv_aload_n hx hb dX2_recall_9 rfl (lv_at hl 0 rfl) ?_
      refine lv_aload_n hx hb dX2_recall_10 rfl (lv_at hl 0 rfl) ?_
      refine va_get (D := G.1) (ci := 1) (v := .int (nI 1)) (C := RX2) (T := TX2) (N := 3) hx hb hts inA2 hown hX.1 hP 0 rfl rfl 2 (by decide) (hts _ kw_144) (fun _ h9 => h9) rfl dX2_recall_11 ?_
      refine lv_bipush (v := (nI 6)) hx hb dX2_recall_14 (by decide) ?_
      refine lv_iadd hx hb dX2_recall_16 (ti (y := (nI 7)) (nI_add _ _) ?_)
      refine lv_iconst (v := (nI 1)) hx hb dX2_recall_17 (by decide) ?_
      refine lv_isub hx hb dX2_recall_18 (ti (y := (nI (7 - 1))) (pk_sub (by decide)) ?_)
      refine lv_bipush (v := (nI 6)) hx hb dX2_recall_19 (by decide) ?_
      refine lv_irem hx hb dX2_recall_21 (by decide) (ti (y := (nI ((7 - 1) % 6))) (pk_rem (by decide) (by decide) (by decide)) ?_)
      refine va_put (D := G.1) (ci := 1) (v := .int (nI ((7 - 1) % 6))) (ty := .int) (C := RX2) (T := TX2) (N := 3) hx hb hts inA2 tyX2 tyX2_ok nmX2 hown hX.1 hP hD hS 0 rfl rfl 2 (by decide) (hts _ kw_144) (fun _ h9 => h9) rfl (by decide +kernel) rfl rfl (Nat.le_of_ble_eq_true rfl) dX2_recall_22 (fun H locs hP hD hS => ?_)
      have hP : va_P G.1 vwCl (pao G pd sz ((7 - 1) % 6) (fun k => some (ads k 0)) ++ (tkw G (ads 0) (as 0) (rs 0) ++ (tkw G (ads 1) (as 1) (rs 1) ++ (tkw G (ads 2) (as 2) (rs 2) ++ (tkw G (ads 3) (as 3) (rs 3) ++ (tkw G (ads 4) (as 4) (rs 4) ++ (tkw G (ads 5) (as 5) (rs 5) ++ (tkw G ad a r)))))))) H := hP
      have hD : va_D A (pao G pd sz ((7 - 1) % 6) (fun k => some (ads k 0)) ++ (tkw G (ads 0) (as 0) (rs 0) ++ (tkw G (ads 1) (as 1) (rs 1) ++ (tkw G (ads 2) (as 2) (rs 2) ++ (tkw G (ads 3) (as 3) (rs 3) ++ (tkw G (ads 4) (as 4) (rs 4) ++ (tkw G (ads 5) (as 5) (rs 5) ++ (tkw G ad a r)))))))) := hD
      refine lv_aload_n hx hb dX2_recall_25 rfl (lv_at hl 0 rfl) ?_
      refine lv_dup hx hb dX2_recall_26 rfl ?_
      refine va_get (D := G.1) (ci := 1) (v := .int (nI sz)) (C := RX2) (T := TX2) (N := 3) hx hb hts inA2 hown hX.1 hP 0 rfl rfl 1 (by decide) (hts _ kw_142) (fun _ h9 => h9) rfl dX2_recall_27 ?_
      refine lv_iconst (v := (nI 1)) hx hb dX2_recall_30 (by decide) ?_
      refine lv_isub hx hb dX2_recall_31 (ti (y := (nI (sz - 1))) (pk_sub (by omega)) ?_)
      refine va_put (D := G.1) (ci := 1) (v := .int (nI (sz - 1))) (ty := .int) (C := RX2) (T := TX2) (N := 3) hx hb hts inA2 tyX2 tyX2_ok nmX2 hown hX.1 hP hD hS 0 rfl rfl 1 (by decide) (hts _ kw_142) (fun _ h9 => h9) rfl (by decide +kernel) rfl rfl (Nat.le_of_ble_eq_true rfl) dX2_recall_32 (fun H locs hP hD hS => ?_)
      have hP : va_P G.1 vwCl (pao G pd (sz - 1) ((7 - 1) % 6) (fun k => some (ads k 0)) ++ (tkw G (ads 0) (as 0) (rs 0) ++ (tkw G (ads 1) (as 1) (rs 1) ++ (tkw G (ads 2) (as 2) (rs 2) ++ (tkw G (ads 3) (as 3) (rs 3) ++ (tkw G (ads 4) (as 4) (rs 4) ++ (tkw G (ads 5) (as 5) (rs 5) ++ (tkw G ad a r)))))))) H := hP
      have hD : va_D A (pao G pd (sz - 1) ((7 - 1) % 6) (fun k => some (ads k 0)) ++ (tkw G (ads 0) (as 0) (rs 0) ++ (tkw G (ads 1) (as 1) (rs 1) ++ (tkw G (ads 2) (as 2) (rs 2) ++ (tkw G (ads 3) (as 3) (rs 3) ++ (tkw G (ads 4) (as 4) (rs 4) ++ (tkw G (ads 5) (as 5) (rs 5) ++ (tkw G ad a r)))))))) := hD
      refine lv_aload_n hx hb dX2_recall_35 rfl (lv_at hl 1 rfl) ?_
      refine lv_aload_n hx hb dX2_recall_36 rfl (lv_at hl 0 rfl) ?_
      refine va_get (D := G.1) (ci := 1) (v := .ref (pd 1)) (C := RX2) (T := TX2) (N := 3) hx hb hts inA2 hown hX.1 hP 0 rfl rfl 0 (by decide) (hts _ kw_141) (fun _ h9 => h9) rfl dX2_recall_37 ?_
      refine lv_aload_n hx hb dX2_recall_40 rfl (lv_at hl 0 rfl) ?_
      refine va_get (D := G.1) (ci := 1) (v := .int (nI ((7 - 1) % 6))) (C := RX2) (T := TX2) (N := 3) hx hb hts inA2 hown hX.1 hP 0 rfl rfl 2 (by decide) (hts _ kw_144) (fun _ h9 => h9) rfl dX2_recall_41 ?_
      refine nv_aldT (f := (fun k => some (ads k 0))) (k := (7 - 1) % 6) (x := (ads 0) 0) hx hb hX hP 1 rfl (by decide) (by decide) rfl dX2_recall_44 ?_
      refine ca_Vv (ci := 3) (q := (RX4, TX4, 12)) (rest := []) (wr := pao G pd (sz - 1) ((7 - 1) % 6) (fun k => some (ads k 0)) ++ (tkw G (ads 1) (as 1) (rs 1) ++ (tkw G (ads 2) (as 2) (rs 2) ++ (tkw G (ads 3) (as 3) (rs 3) ++ (tkw G (ads 4) (as 4) (rs 4) ++ (tkw G (ads 5) (as 5) (rs 5))))))) F hX (mX4_become l G ad a r (ads 0) (as 0) (rs 0)) (cA_V hts kw_373 kw_3 kw_370 kw_371 kw_372 hdX4_become ⟨Nat.le_of_ble_eq_true rfl, Nat.le_of_ble_eq_true rfl⟩) rfl rfl rfl hl.1 rfl (Nat.le_of_ble_eq_true rfl) dX2_recall_45 ⟨Nat.le_of_ble_eq_true rfl, Nat.le_of_ble_eq_true rfl⟩ hP hD hS hA (((pm_sw _ _ _).trans ((List.Perm.append_left _ ((List.Perm.append_left _ ((List.Perm.append_left _ ((List.Perm.append_left _ ((List.Perm.append_left _ ((List.Perm.append_left _ (List.perm_append_comm)).trans (pm_sw _ _ _))).trans (pm_sw _ _ _))).trans (pm_sw _ _ _))).trans (pm_sw _ _ _))).trans (pm_sw _ _ _))).trans (pm_sw _ _ _))).trans (List.Perm.of_eq (List.append_assoc _ _ _).symm)) (fun u45 H locs hp45 hP hD hS => ?_)
      have hP : va_P G.1 vwCl (pao G pd (sz - 1) ((7 - 1) % 6) (fun k => some (ads k 0)) ++ (tkw G (ads 0) (as 0) (rs 0) ++ (tkw G (ads 1) (as 1) (rs 1) ++ (tkw G (ads 2) (as 2) (rs 2) ++ (tkw G (ads 3) (as 3) (rs 3) ++ (tkw G (ads 4) (as 4) (rs 4) ++ (tkw G (ads 5) (as 5) (rs 5) ++ (tkw G ad (as 0) (rs 0))))))))) H := wp_pm (((pm_sw _ _ _).trans ((List.Perm.append_left _ ((List.Perm.append_left _ ((List.Perm.append_left _ ((List.Perm.append_left _ ((List.Perm.append_left _ ((List.Perm.append_left _ (List.perm_append_comm)).trans (pm_sw _ _ _))).trans (pm_sw _ _ _))).trans (pm_sw _ _ _))).trans (pm_sw _ _ _))).trans (pm_sw _ _ _))).trans (pm_sw _ _ _))).trans (List.Perm.of_eq (List.append_assoc _ _ _).symm)).symm hP
      have hD : va_D A (pao G pd (sz - 1) ((7 - 1) % 6) (fun k => some (ads k 0)) ++ (tkw G (ads 0) (as 0) (rs 0) ++ (tkw G (ads 1) (as 1) (rs 1) ++ (tkw G (ads 2) (as 2) (rs 2) ++ (tkw G (ads 3) (as 3) (rs 3) ++ (tkw G (ads 4) (as 4) (rs 4) ++ (tkw G (ads 5) (as 5) (rs 5) ++ (tkw G ad (as 0) (rs 0))))))))) := wd_pm (((pm_sw _ _ _).trans ((List.Perm.append_left _ ((List.Perm.append_left _ ((List.Perm.append_left _ ((List.Perm.append_left _ ((List.Perm.append_left _ ((List.Perm.append_left _ (List.perm_append_comm)).trans (pm_sw _ _ _))).trans (pm_sw _ _ _))).trans (pm_sw _ _ _))).trans (pm_sw _ _ _))).trans (pm_sw _ _ _))).trans (pm_sw _ _ _))).trans (List.Perm.of_eq (List.append_assoc _ _ _).symm)).symm hD
      refine lv_iconst (v := (nI 1)) hx hb dX2_recall_48 (by decide) ?_
      have hP : va_P G.1 vwCl (pao G pd (sz - 1) ((1 + 6 - 1) % 6) (fun k => some (ads k 0)) ++ (tkw G (ads 0) (as 0) (rs 0) ++ (tkw G (ads 1) (as 1) (rs 1) ++ (tkw G (ads 2) (as 2) (rs 2) ++ (tkw G (ads 3) (as 3) (rs 3) ++ (tkw G (ads 4) (as 4) (rs 4) ++ (tkw G (ads 5) (as 5) (rs 5) ++ (tkw G ad (as ((1 + 6 - 1) % 6)) (rs ((1 + 6 - 1) % 6)))))))))) _ := hP
      have hD : va_D A (pao G pd (sz - 1) ((1 + 6 - 1) % 6) (fun k => some (ads k 0)) ++ (tkw G (ads 0) (as 0) (rs 0) ++ (tkw G (ads 1) (as 1) (rs 1) ++ (tkw G (ads 2) (as 2) (rs 2) ++ (tkw G (ads 3) (as 3) (rs 3) ++ (tkw G (ads 4) (as 4) (rs 4) ++ (tkw G (ads 5) (as 5) (rs 5) ++ (tkw G ad (as ((1 + 6 - 1) % 6)) (rs ((1 + 6 - 1) % 6)))))))))) := hD
      have hP : va_P G.1 vwCl (paw G pd (sz - 1) ((1 + 6 - 1) % 6) ads as rs ++ tkw G ad (as ((1 + 6 - 1) % 6)) (rs ((1 + 6 - 1) % 6))) _ := wp_pm (List.Perm.of_eq (by simp only [paw, List.append_assoc])) hP
      have hD : va_D A (paw G pd (sz - 1) ((1 + 6 - 1) % 6) ads as rs ++ tkw G ad (as ((1 + 6 - 1) % 6)) (rs ((1 + 6 - 1) % 6))) := wd_pm (List.Perm.of_eq (by simp only [paw, List.append_assoc])) hD
      exact re_z (v := (nI 1)) hx hb hr hlocks hS () hP hD rfl (by decide) dX2_recall_49
    · refine lv_aload_n hx hb dX2_recall_9 rfl (lv_at hl 0 rfl) ?_
      refine lv_aload_n hx hb dX2_recall_10 rfl (lv_at hl 0 rfl) ?_
      refine va_get (D := G.1) (ci := 1) (v := .int (nI 2)) (C := RX2) (T := TX2) (N := 3) hx hb hts inA2 hown hX.1 hP 0 rfl rfl 2 (by decide) (hts _ kw_144) (fun _ h9 => h9) rfl dX2_recall_11 ?_
      refine lv_bipush (v := (nI 6)) hx hb dX2_recall_14 (by decide) ?_
      refine lv_iadd hx hb dX2_recall_16 (ti (y := (nI 8)) (nI_add _ _) ?_)
      refine lv_iconst (v := (nI 1)) hx hb dX2_recall_17 (by decide) ?_
      refine lv_isub hx hb dX2_recall_18 (ti (y := (nI (8 - 1))) (pk_sub (by decide)) ?_)
      refine lv_bipush (v := (nI 6)) hx hb dX2_recall_19 (by decide) ?_
      refine lv_irem hx hb dX2_recall_21 (by decide) (ti (y := (nI ((8 - 1) % 6))) (pk_rem (by decide) (by decide) (by decide)) ?_)
      refine va_put (D := G.1) (ci := 1) (v := .int (nI ((8 - 1) % 6))) (ty := .int) (C := RX2) (T := TX2) (N := 3) hx hb hts inA2 tyX2 tyX2_ok nmX2 hown hX.1 hP hD hS 0 rfl rfl 2 (by decide) (hts _ kw_144) (fun _ h9 => h9) rfl (by decide +kernel) rfl rfl (Nat.le_of_ble_eq_true rfl) dX2_recall_22 (fun H locs hP hD hS => ?_)
      have hP : va_P G.1 vwCl (pao G pd sz ((8 - 1) % 6) (fun k => some (ads k 0)) ++ (tkw G (ads 0) (as 0) (rs 0) ++ (tkw G (ads 1) (as 1) (rs 1) ++ (tkw G (ads 2) (as 2) (rs 2) ++ (tkw G (ads 3) (as 3) (rs 3) ++ (tkw G (ads 4) (as 4) (rs 4) ++ (tkw G (ads 5) (as 5) (rs 5) ++ (tkw G ad a r)))))))) H := hP
      have hD : va_D A (pao G pd sz ((8 - 1) % 6) (fun k => some (ads k 0)) ++ (tkw G (ads 0) (as 0) (rs 0) ++ (tkw G (ads 1) (as 1) (rs 1) ++ (tkw G (ads 2) (as 2) (rs 2) ++ (tkw G (ads 3) (as 3) (rs 3) ++ (tkw G (ads 4) (as 4) (rs 4) ++ (tkw G (ads 5) (as 5) (rs 5) ++ (tkw G ad a r)))))))) := hD
      refine lv_aload_n hx hb dX2_recall_25 rfl (lv_at hl 0 rfl) ?_
      refine lv_dup hx hb dX2_recall_26 rfl ?_
      refine va_get (D := G.1) (ci := 1) (v := .int (nI sz)) (C := RX2) (T := TX2) (N := 3) hx hb hts inA2 hown hX.1 hP 0 rfl rfl 1 (by decide) (hts _ kw_142) (fun _ h9 => h9) rfl dX2_recall_27 ?_
      refine lv_iconst (v := (nI 1)) hx hb dX2_recall_30 (by decide) ?_
      refine lv_isub hx hb dX2_recall_31 (ti (y := (nI (sz - 1))) (pk_sub (by omega)) ?_)
      refine va_put (D := G.1) (ci := 1) (v := .int (nI (sz - 1))) (ty := .int) (C := RX2) (T := TX2) (N := 3) hx hb hts inA2 tyX2 tyX2_ok nmX2 hown hX.1 hP hD hS 0 rfl rfl 1 (by decide) (hts _ kw_142) (fun _ h9 => h9) rfl (by decide +kernel) rfl rfl (Nat.le_of_ble_eq_true rfl) dX2_recall_32 (fun H locs hP hD hS => ?_)
      have hP : va_P G.1 vwCl (pao G pd (sz - 1) ((8 - 1) % 6) (fun k => some (ads k 0)) ++ (tkw G (ads 0) (as 0) (rs 0) ++ (tkw G (ads 1) (as 1) (rs 1) ++ (tkw G (ads 2) (as 2) (rs 2) ++ (tkw G (ads 3) (as 3) (rs 3) ++ (tkw G (ads 4) (as 4) (rs 4) ++ (tkw G (ads 5) (as 5) (rs 5) ++ (tkw G ad a r)))))))) H := hP
      have hD : va_D A (pao G pd (sz - 1) ((8 - 1) % 6) (fun k => some (ads k 0)) ++ (tkw G (ads 0) (as 0) (rs 0) ++ (tkw G (ads 1) (as 1) (rs 1) ++ (tkw G (ads 2) (as 2) (rs 2) ++ (tkw G (ads 3) (as 3) (rs 3) ++ (tkw G (ads 4) (as 4) (rs 4) ++ (tkw G (ads 5) (as 5) (rs 5) ++ (tkw G ad a r)))))))) := hD
      refine lv_aload_n hx hb dX2_recall_35 rfl (lv_at hl 1 rfl) ?_
      refine lv_aload_n hx hb dX2_recall_36 rfl (lv_at hl 0 rfl) ?_
      refine va_get (D := G.1) (ci := 1) (v := .ref (pd 1)) (C := RX2) (T := TX2) (N := 3) hx hb hts inA2 hown hX.1 hP 0 rfl rfl 0 (by decide) (hts _ kw_141) (fun _ h9 => h9) rfl dX2_recall_37 ?_
      refine lv_aload_n hx hb dX2_recall_40 rfl (lv_at hl 0 rfl) ?_
      refine va_get (D := G.1) (ci := 1) (v := .int (nI ((8 - 1) % 6))) (C := RX2) (T := TX2) (N := 3) hx hb hts inA2 hown hX.1 hP 0 rfl rfl 2 (by decide) (hts _ kw_144) (fun _ h9 => h9) rfl dX2_recall_41 ?_
      refine nv_aldT (f := (fun k => some (ads k 0))) (k := (8 - 1) % 6) (x := (ads 1) 0) hx hb hX hP 1 rfl (by decide) (by decide) rfl dX2_recall_44 ?_
      refine ca_Vv (ci := 3) (q := (RX4, TX4, 12)) (rest := []) (wr := pao G pd (sz - 1) ((8 - 1) % 6) (fun k => some (ads k 0)) ++ (tkw G (ads 0) (as 0) (rs 0) ++ (tkw G (ads 2) (as 2) (rs 2) ++ (tkw G (ads 3) (as 3) (rs 3) ++ (tkw G (ads 4) (as 4) (rs 4) ++ (tkw G (ads 5) (as 5) (rs 5))))))) F hX (mX4_become l G ad a r (ads 1) (as 1) (rs 1)) (cA_V hts kw_373 kw_3 kw_370 kw_371 kw_372 hdX4_become ⟨Nat.le_of_ble_eq_true rfl, Nat.le_of_ble_eq_true rfl⟩) rfl rfl rfl hl.1 rfl (Nat.le_of_ble_eq_true rfl) dX2_recall_45 ⟨Nat.le_of_ble_eq_true rfl, Nat.le_of_ble_eq_true rfl⟩ hP hD hS hA ((((List.Perm.append_left _ (pm_sw _ _ _)).trans (pm_sw _ _ _)).trans ((List.Perm.append_left _ ((List.Perm.append_left _ ((List.Perm.append_left _ ((List.Perm.append_left _ ((List.Perm.append_left _ ((List.Perm.append_left _ (List.perm_append_comm)).trans (pm_sw _ _ _))).trans (pm_sw _ _ _))).trans (pm_sw _ _ _))).trans (pm_sw _ _ _))).trans (pm_sw _ _ _))).trans (pm_sw _ _ _))).trans (List.Perm.of_eq (List.append_assoc _ _ _).symm)) (fun u45 H locs hp45 hP hD hS => ?_)
      have hP : va_P G.1 vwCl (pao G pd (sz - 1) ((8 - 1) % 6) (fun k => some (ads k 0)) ++ (tkw G (ads 0) (as 0) (rs 0) ++ (tkw G (ads 1) (as 1) (rs 1) ++ (tkw G (ads 2) (as 2) (rs 2) ++ (tkw G (ads 3) (as 3) (rs 3) ++ (tkw G (ads 4) (as 4) (rs 4) ++ (tkw G (ads 5) (as 5) (rs 5) ++ (tkw G ad (as 1) (rs 1))))))))) H := wp_pm ((((List.Perm.append_left _ (pm_sw _ _ _)).trans (pm_sw _ _ _)).trans ((List.Perm.append_left _ ((List.Perm.append_left _ ((List.Perm.append_left _ ((List.Perm.append_left _ ((List.Perm.append_left _ ((List.Perm.append_left _ (List.perm_append_comm)).trans (pm_sw _ _ _))).trans (pm_sw _ _ _))).trans (pm_sw _ _ _))).trans (pm_sw _ _ _))).trans (pm_sw _ _ _))).trans (pm_sw _ _ _))).trans (List.Perm.of_eq (List.append_assoc _ _ _).symm)).symm hP
      have hD : va_D A (pao G pd (sz - 1) ((8 - 1) % 6) (fun k => some (ads k 0)) ++ (tkw G (ads 0) (as 0) (rs 0) ++ (tkw G (ads 1) (as 1) (rs 1) ++ (tkw G (ads 2) (as 2) (rs 2) ++ (tkw G (ads 3) (as 3) (rs 3) ++ (tkw G (ads 4) (as 4) (rs 4) ++ (tkw G (ads 5) (as 5) (rs 5) ++ (tkw G ad (as 1) (rs 1))))))))) := wd_pm ((((List.Perm.append_left _ (pm_sw _ _ _)).trans (pm_sw _ _ _)).trans ((List.Perm.append_left _ ((List.Perm.append_left _ ((List.Perm.append_left _ ((List.Perm.append_left _ ((List.Perm.append_left _ ((List.Perm.append_left _ (List.perm_append_comm)).trans (pm_sw _ _ _))).trans (pm_sw _ _ _))).trans (pm_sw _ _ _))).trans (pm_sw _ _ _))).trans (pm_sw _ _ _))).trans (pm_sw _ _ _))).trans (List.Perm.of_eq (List.append_assoc _ _ _).symm)).symm hD
      refine lv_iconst (v := (nI 1)) hx hb dX2_recall_48 (by decide) ?_
      have hP : va_P G.1 vwCl (pao G pd (sz - 1) ((2 + 6 - 1) % 6) (fun k => some (ads k 0)) ++ (tkw G (ads 0) (as 0) (rs 0) ++ (tkw G (ads 1) (as 1) (rs 1) ++ (tkw G (ads 2) (as 2) (rs 2) ++ (tkw G (ads 3) (as 3) (rs 3) ++ (tkw G (ads 4) (as 4) (rs 4) ++ (tkw G (ads 5) (as 5) (rs 5) ++ (tkw G ad (as ((2 + 6 - 1) % 6)) (rs ((2 + 6 - 1) % 6)))))))))) _ := hP
      have hD : va_D A (pao G pd (sz - 1) ((2 + 6 - 1) % 6) (fun k => some (ads k 0)) ++ (tkw G (ads 0) (as 0) (rs 0) ++ (tkw G (ads 1) (as 1) (rs 1) ++ (tkw G (ads 2) (as 2) (rs 2) ++ (tkw G (ads 3) (as 3) (rs 3) ++ (tkw G (ads 4) (as 4) (rs 4) ++ (tkw G (ads 5) (as 5) (rs 5) ++ (tkw G ad (as ((2 + 6 - 1) % 6)) (rs ((2 + 6 - 1) % 6)))))))))) := hD
      have hP : va_P G.1 vwCl (paw G pd (sz - 1) ((2 + 6 - 1) % 6) ads as rs ++ tkw G ad (as ((2 + 6 - 1) % 6)) (rs ((2 + 6 - 1) % 6))) _ := wp_pm (List.Perm.of_eq (by simp only [paw, List.append_assoc])) hP
      have hD : va_D A (paw G pd (sz - 1) ((2 + 6 - 1) % 6) ads as rs ++ tkw G ad (as ((2 + 6 - 1) % 6)) (rs ((2 + 6 - 1) % 6))) := wd_pm (List.Perm.of_eq (by simp only [paw, List.append_assoc])) hD
      exact re_z (v := (nI 1)) hx hb hr hlocks hS () hP hD rfl (by decide) dX2_recall_49
    · refine lv_aload_n hx hb dX2_recall_9 rfl (lv_at hl 0 rfl) ?_
      refine lv_aload_n hx hb dX2_recall_10 rfl (lv_at hl 0 rfl) ?_
      refine va_get (D := G.1) (ci := 1) (v := .int (nI 3)) (C := RX2) (T := TX2) (N := 3) hx hb hts inA2 hown hX.1 hP 0 rfl rfl 2 (by decide) (hts _ kw_144) (fun _ h9 => h9) rfl dX2_recall_11 ?_
      refine lv_bipush (v := (nI 6)) hx hb dX2_recall_14 (by decide) ?_
      refine lv_iadd hx hb dX2_recall_16 (ti (y := (nI 9)) (nI_add _ _) ?_)
      refine lv_iconst (v := (nI 1)) hx hb dX2_recall_17 (by decide) ?_
      refine lv_isub hx hb dX2_recall_18 (ti (y := (nI (9 - 1))) (pk_sub (by decide)) ?_)
      refine lv_bipush (v := (nI 6)) hx hb dX2_recall_19 (by decide) ?_
      refine lv_irem hx hb dX2_recall_21 (by decide) (ti (y := (nI ((9 - 1) % 6))) (pk_rem (by decide) (by decide) (by decide)) ?_)
      refine va_put (D := G.1) (ci := 1) (v := .int (nI ((9 - 1) % 6))) (ty := .int) (C := RX2) (T := TX2) (N := 3) hx hb hts inA2 tyX2 tyX2_ok nmX2 hown hX.1 hP hD hS 0 rfl rfl 2 (by decide) (hts _ kw_144) (fun _ h9 => h9) rfl (by decide +kernel) rfl rfl (Nat.le_of_ble_eq_true rfl) dX2_recall_22 (fun H locs hP hD hS => ?_)
      have hP : va_P G.1 vwCl (pao G pd sz ((9 - 1) % 6) (fun k => some (ads k 0)) ++ (tkw G (ads 0) (as 0) (rs 0) ++ (tkw G (ads 1) (as 1) (rs 1) ++ (tkw G (ads 2) (as 2) (rs 2) ++ (tkw G (ads 3) (as 3) (rs 3) ++ (tkw G (ads 4) (as 4) (rs 4) ++ (tkw G (ads 5) (as 5) (rs 5) ++ (tkw G ad a r)))))))) H := hP
      have hD : va_D A (pao G pd sz ((9 - 1) % 6) (fun k => some (ads k 0)) ++ (tkw G (ads 0) (as 0) (rs 0) ++ (tkw G (ads 1) (as 1) (rs 1) ++ (tkw G (ads 2) (as 2) (rs 2) ++ (tkw G (ads 3) (as 3) (rs 3) ++ (tkw G (ads 4) (as 4) (rs 4) ++ (tkw G (ads 5) (as 5) (rs 5) ++ (tkw G ad a r)))))))) := hD
      refine lv_aload_n hx hb dX2_recall_25 rfl (lv_at hl 0 rfl) ?_
      refine lv_dup hx hb dX2_recall_26 rfl ?_
      refine va_get (D := G.1) (ci := 1) (v := .int (nI sz)) (C := RX2) (T := TX2) (N := 3) hx hb hts inA2 hown hX.1 hP 0 rfl rfl 1 (by decide) (hts _ kw_142) (fun _ h9 => h9) rfl dX2_recall_27 ?_
      refine lv_iconst (v := (nI 1)) hx hb dX2_recall_30 (by decide) ?_
      refine lv_isub hx hb dX2_recall_31 (ti (y := (nI (sz - 1))) (pk_sub (by omega)) ?_)
      refine va_put (D := G.1) (ci := 1) (v := .int (nI (sz - 1))) (ty := .int) (C := RX2) (T := TX2) (N := 3) hx hb hts inA2 tyX2 tyX2_ok nmX2 hown hX.1 hP hD hS 0 rfl rfl 1 (by decide) (hts _ kw_142) (fun _ h9 => h9) rfl (by decide +kernel) rfl rfl (Nat.le_of_ble_eq_true rfl) dX2_recall_32 (fun H locs hP hD hS => ?_)
      have hP : va_P G.1 vwCl (pao G pd (sz - 1) ((9 - 1) % 6) (fun k => some (ads k 0)) ++ (tkw G (ads 0) (as 0) (rs 0) ++ (tkw G (ads 1) (as 1) (rs 1) ++ (tkw G (ads 2) (as 2) (rs 2) ++ (tkw G (ads 3) (as 3) (rs 3) ++ (tkw G (ads 4) (as 4) (rs 4) ++ (tkw G (ads 5) (as 5) (rs 5) ++ (tkw G ad a r)))))))) H := hP
      have hD : va_D A (pao G pd (sz - 1) ((9 - 1) % 6) (fun k => some (ads k 0)) ++ (tkw G (ads 0) (as 0) (rs 0) ++ (tkw G (ads 1) (as 1) (rs 1) ++ (tkw G (ads 2) (as 2) (rs 2) ++ (tkw G (ads 3) (as 3) (rs 3) ++ (tkw G (ads 4) (as 4) (rs 4) ++ (tkw G (ads 5) (as 5) (rs 5) ++ (tkw G ad a r)))))))) := hD
      refine lv_aload_n hx hb dX2_recall_35 rfl (lv_at hl 1 rfl) ?_
      refine lv_aload_n hx hb dX2_recall_36 rfl (lv_at hl 0 rfl) ?_
      refine va_get (D := G.1) (ci := 1) (v := .ref (pd 1)) (C := RX2) (T := TX2) (N := 3) hx hb hts inA2 hown hX.1 hP 0 rfl rfl 0 (by decide) (hts _ kw_141) (fun _ h9 => h9) rfl dX2_recall_37 ?_
      refine lv_aload_n hx hb dX2_recall_40 rfl (lv_at hl 0 rfl) ?_
      refine va_get (D := G.1) (ci := 1) (v := .int (nI ((9 - 1) % 6))) (C := RX2) (T := TX2) (N := 3) hx hb hts inA2 hown hX.1 hP 0 rfl rfl 2 (by decide) (hts _ kw_144) (fun _ h9 => h9) rfl dX2_recall_41 ?_
      refine nv_aldT (f := (fun k => some (ads k 0))) (k := (9 - 1) % 6) (x := (ads 2) 0) hx hb hX hP 1 rfl (by decide) (by decide) rfl dX2_recall_44 ?_
      refine ca_Vv (ci := 3) (q := (RX4, TX4, 12)) (rest := []) (wr := pao G pd (sz - 1) ((9 - 1) % 6) (fun k => some (ads k 0)) ++ (tkw G (ads 0) (as 0) (rs 0) ++ (tkw G (ads 1) (as 1) (rs 1) ++ (tkw G (ads 3) (as 3) (rs 3) ++ (tkw G (ads 4) (as 4) (rs 4) ++ (tkw G (ads 5) (as 5) (rs 5))))))) F hX (mX4_become l G ad a r (ads 2) (as 2) (rs 2)) (cA_V hts kw_373 kw_3 kw_370 kw_371 kw_372 hdX4_become ⟨Nat.le_of_ble_eq_true rfl, Nat.le_of_ble_eq_true rfl⟩) rfl rfl rfl hl.1 rfl (Nat.le_of_ble_eq_true rfl) dX2_recall_45 ⟨Nat.le_of_ble_eq_true rfl, Nat.le_of_ble_eq_true rfl⟩ hP hD hS hA ((((List.Perm.append_left _ ((List.Perm.append_left _ (pm_sw _ _ _)).trans (pm_sw _ _ _))).trans (pm_sw _ _ _)).trans ((List.Perm.append_left _ ((List.Perm.append_left _ ((List.Perm.append_left _ ((List.Perm.append_left _ ((List.Perm.append_left _ ((List.Perm.append_left _ (List.perm_append_comm)).trans (pm_sw _ _ _))).trans (pm_sw _ _ _))).trans (pm_sw _ _ _))).trans (pm_sw _ _ _))).trans (pm_sw _ _ _))).trans (pm_sw _ _ _))).trans (List.Perm.of_eq (List.append_assoc _ _ _).symm)) (fun u45 H locs hp45 hP hD hS => ?_)
      have hP : va_P G.1 vwCl (pao G pd (sz - 1) ((9 - 1) % 6) (fun k => some (ads k 0)) ++ (tkw G (ads 0) (as 0) (rs 0) ++ (tkw G (ads 1) (as 1) (rs 1) ++ (tkw G (ads 2) (as 2) (rs 2) ++ (tkw G (ads 3) (as 3) (rs 3) ++ (tkw G (ads 4) (as 4) (rs 4) ++ (tkw G (ads 5) (as 5) (rs 5) ++ (tkw G ad (as 2) (rs 2))))))))) H := wp_pm ((((List.Perm.append_left _ ((List.Perm.append_left _ (pm_sw _ _ _)).trans (pm_sw _ _ _))).trans (pm_sw _ _ _)).trans ((List.Perm.append_left _ ((List.Perm.append_left _ ((List.Perm.append_left _ ((List.Perm.append_left _ ((List.Perm.append_left _ ((List.Perm.append_left _ (List.perm_append_comm)).trans (pm_sw _ _ _))).trans (pm_sw _ _ _))).trans (pm_sw _ _ _))).trans (pm_sw _ _ _))).trans (pm_sw _ _ _))).trans (pm_sw _ _ _))).trans (List.Perm.of_eq (List.append_assoc _ _ _).symm)).symm hP
      have hD : va_D A (pao G pd (sz - 1) ((9 - 1) % 6) (fun k => some (ads k 0)) ++ (tkw G (ads 0) (as 0) (rs 0) ++ (tkw G (ads 1) (as 1) (rs 1) ++ (tkw G (ads 2) (as 2) (rs 2) ++ (tkw G (ads 3) (as 3) (rs 3) ++ (tkw G (ads 4) (as 4) (rs 4) ++ (tkw G (ads 5) (as 5) (rs 5) ++ (tkw G ad (as 2) (rs 2))))))))) := wd_pm ((((List.Perm.append_left _ ((List.Perm.append_left _ (pm_sw _ _ _)).trans (pm_sw _ _ _))).trans (pm_sw _ _ _)).trans ((List.Perm.append_left _ ((List.Perm.append_left _ ((List.Perm.append_left _ ((List.Perm.append_left _ ((List.Perm.append_left _ ((List.Perm.append_left _ (List.perm_append_comm)).trans (pm_sw _ _ _))).trans (pm_sw _ _ _))).trans (pm_sw _ _ _))).trans (pm_sw _ _ _))).trans (pm_sw _ _ _))).trans (pm_sw _ _ _))).trans (List.Perm.of_eq (List.append_assoc _ _ _).symm)).symm hD
      refine lv_iconst (v := (nI 1)) hx hb dX2_recall_48 (by decide) ?_
      have hP : va_P G.1 vwCl (pao G pd (sz - 1) ((3 + 6 - 1) % 6) (fun k => some (ads k 0)) ++ (tkw G (ads 0) (as 0) (rs 0) ++ (tkw G (ads 1) (as 1) (rs 1) ++ (tkw G (ads 2) (as 2) (rs 2) ++ (tkw G (ads 3) (as 3) (rs 3) ++ (tkw G (ads 4) (as 4) (rs 4) ++ (tkw G (ads 5) (as 5) (rs 5) ++ (tkw G ad (as ((3 + 6 - 1) % 6)) (rs ((3 + 6 - 1) % 6)))))))))) _ := hP
      have hD : va_D A (pao G pd (sz - 1) ((3 + 6 - 1) % 6) (fun k => some (ads k 0)) ++ (tkw G (ads 0) (as 0) (rs 0) ++ (tkw G (ads 1) (as 1) (rs 1) ++ (tkw G (ads 2) (as 2) (rs 2) ++ (tkw G (ads 3) (as 3) (rs 3) ++ (tkw G (ads 4) (as 4) (rs 4) ++ (tkw G (ads 5) (as 5) (rs 5) ++ (tkw G ad (as ((3 + 6 - 1) % 6)) (rs ((3 + 6 - 1) % 6)))))))))) := hD
      have hP : va_P G.1 vwCl (paw G pd (sz - 1) ((3 + 6 - 1) % 6) ads as rs ++ tkw G ad (as ((3 + 6 - 1) % 6)) (rs ((3 + 6 - 1) % 6))) _ := wp_pm (List.Perm.of_eq (by simp only [paw, List.append_assoc])) hP
      have hD : va_D A (paw G pd (sz - 1) ((3 + 6 - 1) % 6) ads as rs ++ tkw G ad (as ((3 + 6 - 1) % 6)) (rs ((3 + 6 - 1) % 6))) := wd_pm (List.Perm.of_eq (by simp only [paw, List.append_assoc])) hD
      exact re_z (v := (nI 1)) hx hb hr hlocks hS () hP hD rfl (by decide) dX2_recall_49
    · refine lv_aload_n hx hb dX2_recall_9 rfl (lv_at hl 0 rfl) ?_
      refine lv_aload_n hx hb dX2_recall_10 rfl (lv_at hl 0 rfl) ?_
      refine va_get (D := G.1) (ci := 1) (v := .int (nI 4)) (C := RX2) (T := TX2) (N := 3) hx hb hts inA2 hown hX.1 hP 0 rfl rfl 2 (by decide) (hts _ kw_144) (fun _ h9 => h9) rfl dX2_recall_11 ?_
      refine lv_bipush (v := (nI 6)) hx hb dX2_recall_14 (by decide) ?_
      refine lv_iadd hx hb dX2_recall_16 (ti (y := (nI 10)) (nI_add _ _) ?_)
      refine lv_iconst (v := (nI 1)) hx hb dX2_recall_17 (by decide) ?_
      refine lv_isub hx hb dX2_recall_18 (ti (y := (nI (10 - 1))) (pk_sub (by decide)) ?_)
      refine lv_bipush (v := (nI 6)) hx hb dX2_recall_19 (by decide) ?_
      refine lv_irem hx hb dX2_recall_21 (by decide) (ti (y := (nI ((10 - 1) % 6))) (pk_rem (by decide) (by decide) (by decide)) ?_)
      refine va_put (D := G.1) (ci := 1) (v := .int (nI ((10 - 1) % 6))) (ty := .int) (C := RX2) (T := TX2) (N := 3) hx hb hts inA2 tyX2 tyX2_ok nmX2 hown hX.1 hP hD hS 0 rfl rfl 2 (by decide) (hts _ kw_144) (fun _ h9 => h9) rfl (by decide +kernel) rfl rfl (Nat.le_of_ble_eq_true rfl) dX2_recall_22 (fun H locs hP hD hS => ?_)
      have hP : va_P G.1 vwCl (pao G pd sz ((10 - 1) % 6) (fun k => some (ads k 0)) ++ (tkw G (ads 0) (as 0) (rs 0) ++ (tkw G (ads 1) (as 1) (rs 1) ++ (tkw G (ads 2) (as 2) (rs 2) ++ (tkw G (ads 3) (as 3) (rs 3) ++ (tkw G (ads 4) (as 4) (rs 4) ++ (tkw G (ads 5) (as 5) (rs 5) ++ (tkw G ad a r)))))))) H := hP
      have hD : va_D A (pao G pd sz ((10 - 1) % 6) (fun k => some (ads k 0)) ++ (tkw G (ads 0) (as 0) (rs 0) ++ (tkw G (ads 1) (as 1) (rs 1) ++ (tkw G (ads 2) (as 2) (rs 2) ++ (tkw G (ads 3) (as 3) (rs 3) ++ (tkw G (ads 4) (as 4) (rs 4) ++ (tkw G (ads 5) (as 5) (rs 5) ++ (tkw G ad a r)))))))) := hD
      refine lv_aload_n hx hb dX2_recall_25 rfl (lv_at hl 0 rfl) ?_
      refine lv_dup hx hb dX2_recall_26 rfl ?_
      refine va_get (D := G.1) (ci := 1) (v := .int (nI sz)) (C := RX2) (T := TX2) (N := 3) hx hb hts inA2 hown hX.1 hP 0 rfl rfl 1 (by decide) (hts _ kw_142) (fun _ h9 => h9) rfl dX2_recall_27 ?_
      refine lv_iconst (v := (nI 1)) hx hb dX2_recall_30 (by decide) ?_
      refine lv_isub hx hb dX2_recall_31 (ti (y := (nI (sz - 1))) (pk_sub (by omega)) ?_)
      refine va_put (D := G.1) (ci := 1) (v := .int (nI (sz - 1))) (ty := .int) (C := RX2) (T := TX2) (N := 3) hx hb hts inA2 tyX2 tyX2_ok nmX2 hown hX.1 hP hD hS 0 rfl rfl 1 (by decide) (hts _ kw_142) (fun _ h9 => h9) rfl (by decide +kernel) rfl rfl (Nat.le_of_ble_eq_true rfl) dX2_recall_32 (fun H locs hP hD hS => ?_)
      have hP : va_P G.1 vwCl (pao G pd (sz - 1) ((10 - 1) % 6) (fun k => some (ads k 0)) ++ (tkw G (ads 0) (as 0) (rs 0) ++ (tkw G (ads 1) (as 1) (rs 1) ++ (tkw G (ads 2) (as 2) (rs 2) ++ (tkw G (ads 3) (as 3) (rs 3) ++ (tkw G (ads 4) (as 4) (rs 4) ++ (tkw G (ads 5) (as 5) (rs 5) ++ (tkw G ad a r)))))))) H := hP
      have hD : va_D A (pao G pd (sz - 1) ((10 - 1) % 6) (fun k => some (ads k 0)) ++ (tkw G (ads 0) (as 0) (rs 0) ++ (tkw G (ads 1) (as 1) (rs 1) ++ (tkw G (ads 2) (as 2) (rs 2) ++ (tkw G (ads 3) (as 3) (rs 3) ++ (tkw G (ads 4) (as 4) (rs 4) ++ (tkw G (ads 5) (as 5) (rs 5) ++ (tkw G ad a r)))))))) := hD
      refine lv_aload_n hx hb dX2_recall_35 rfl (lv_at hl 1 rfl) ?_
      refine lv_aload_n hx hb dX2_recall_36 rfl (lv_at hl 0 rfl) ?_
      refine va_get (D := G.1) (ci := 1) (v := .ref (pd 1)) (C := RX2) (T := TX2) (N := 3) hx hb hts inA2 hown hX.1 hP 0 rfl rfl 0 (by decide) (hts _ kw_141) (fun _ h9 => h9) rfl dX2_recall_37 ?_
      refine lv_aload_n hx hb dX2_recall_40 rfl (lv_at hl 0 rfl) ?_
      refine va_get (D := G.1) (ci := 1) (v := .int (nI ((10 - 1) % 6))) (C := RX2) (T := TX2) (N := 3) hx hb hts inA2 hown hX.1 hP 0 rfl rfl 2 (by decide) (hts _ kw_144) (fun _ h9 => h9) rfl dX2_recall_41 ?_
      refine nv_aldT (f := (fun k => some (ads k 0))) (k := (10 - 1) % 6) (x := (ads 3) 0) hx hb hX hP 1 rfl (by decide) (by decide) rfl dX2_recall_44 ?_
      refine ca_Vv (ci := 3) (q := (RX4, TX4, 12)) (rest := []) (wr := pao G pd (sz - 1) ((10 - 1) % 6) (fun k => some (ads k 0)) ++ (tkw G (ads 0) (as 0) (rs 0) ++ (tkw G (ads 1) (as 1) (rs 1) ++ (tkw G (ads 2) (as 2) (rs 2) ++ (tkw G (ads 4) (as 4) (rs 4) ++ (tkw G (ads 5) (as 5) (rs 5))))))) F hX (mX4_become l G ad a r (ads 3) (as 3) (rs 3)) (cA_V hts kw_373 kw_3 kw_370 kw_371 kw_372 hdX4_become ⟨Nat.le_of_ble_eq_true rfl, Nat.le_of_ble_eq_true rfl⟩) rfl rfl rfl hl.1 rfl (Nat.le_of_ble_eq_true rfl) dX2_recall_45 ⟨Nat.le_of_ble_eq_true rfl, Nat.le_of_ble_eq_true rfl⟩ hP hD hS hA ((((List.Perm.append_left _ ((List.Perm.append_left _ ((List.Perm.append_left _ (pm_sw _ _ _)).trans (pm_sw _ _ _))).trans (pm_sw _ _ _))).trans (pm_sw _ _ _)).trans ((List.Perm.append_left _ ((List.Perm.append_left _ ((List.Perm.append_left _ ((List.Perm.append_left _ ((List.Perm.append_left _ ((List.Perm.append_left _ (List.perm_append_comm)).trans (pm_sw _ _ _))).trans (pm_sw _ _ _))).trans (pm_sw _ _ _))).trans (pm_sw _ _ _))).trans (pm_sw _ _ _))).trans (pm_sw _ _ _))).trans (List.Perm.of_eq (List.append_assoc _ _ _).symm)) (fun u45 H locs hp45 hP hD hS => ?_)
      have hP : va_P G.1 vwCl (pao G pd (sz - 1) ((10 - 1) % 6) (fun k => some (ads k 0)) ++ (tkw G (ads 0) (as 0) (rs 0) ++ (tkw G (ads 1) (as 1) (rs 1) ++ (tkw G (ads 2) (as 2) (rs 2) ++ (tkw G (ads 3) (as 3) (rs 3) ++ (tkw G (ads 4) (as 4) (rs 4) ++ (tkw G (ads 5) (as 5) (rs 5) ++ (tkw G ad (as 3) (rs 3))))))))) H := wp_pm ((((List.Perm.append_left _ ((List.Perm.append_left _ ((List.Perm.append_left _ (pm_sw _ _ _)).trans (pm_sw _ _ _))).trans (pm_sw _ _ _))).trans (pm_sw _ _ _)).trans ((List.Perm.append_left _ ((List.Perm.append_left _ ((List.Perm.append_left _ ((List.Perm.append_left _ ((List.Perm.append_left _ ((List.Perm.append_left _ (List.perm_append_comm)).trans (pm_sw _ _ _))).trans (pm_sw _ _ _))).trans (pm_sw _ _ _))).trans (pm_sw _ _ _))).trans (pm_sw _ _ _))).trans (pm_sw _ _ _))).trans (List.Perm.of_eq (List.append_assoc _ _ _).symm)).symm hP
      have hD : va_D A (pao G pd (sz - 1) ((10 - 1) % 6) (fun k => some (ads k 0)) ++ (tkw G (ads 0) (as 0) (rs 0) ++ (tkw G (ads 1) (as 1) (rs 1) ++ (tkw G (ads 2) (as 2) (rs 2) ++ (tkw G (ads 3) (as 3) (rs 3) ++ (tkw G (ads 4) (as 4) (rs 4) ++ (tkw G (ads 5) (as 5) (rs 5) ++ (tkw G ad (as 3) (rs 3))))))))) := wd_pm ((((List.Perm.append_left _ ((List.Perm.append_left _ ((List.Perm.append_left _ (pm_sw _ _ _)).trans (pm_sw _ _ _))).trans (pm_sw _ _ _))).trans (pm_sw _ _ _)).trans ((List.Perm.append_left _ ((List.Perm.append_left _ ((List.Perm.append_left _ ((List.Perm.append_left _ ((List.Perm.append_left _ ((List.Perm.append_left _ (List.perm_append_comm)).trans (pm_sw _ _ _))).trans (pm_sw _ _ _))).trans (pm_sw _ _ _))).trans (pm_sw _ _ _))).trans (pm_sw _ _ _))).trans (pm_sw _ _ _))).trans (List.Perm.of_eq (List.append_assoc _ _ _).symm)).symm hD
      refine lv_iconst (v := (nI 1)) hx hb dX2_recall_48 (by decide) ?_
      have hP : va_P G.1 vwCl (pao G pd (sz - 1) ((4 + 6 - 1) % 6) (fun k => some (ads k 0)) ++ (tkw G (ads 0) (as 0) (rs 0) ++ (tkw G (ads 1) (as 1) (rs 1) ++ (tkw G (ads 2) (as 2) (rs 2) ++ (tkw G (ads 3) (as 3) (rs 3) ++ (tkw G (ads 4) (as 4) (rs 4) ++ (tkw G (ads 5) (as 5) (rs 5) ++ (tkw G ad (as ((4 + 6 - 1) % 6)) (rs ((4 + 6 - 1) % 6)))))))))) _ := hP
      have hD : va_D A (pao G pd (sz - 1) ((4 + 6 - 1) % 6) (fun k => some (ads k 0)) ++ (tkw G (ads 0) (as 0) (rs 0) ++ (tkw G (ads 1) (as 1) (rs 1) ++ (tkw G (ads 2) (as 2) (rs 2) ++ (tkw G (ads 3) (as 3) (rs 3) ++ (tkw G (ads 4) (as 4) (rs 4) ++ (tkw G (ads 5) (as 5) (rs 5) ++ (tkw G ad (as ((4 + 6 - 1) % 6)) (rs ((4 + 6 - 1) % 6)))))))))) := hD
      have hP : va_P G.1 vwCl (paw G pd (sz - 1) ((4 + 6 - 1) % 6) ads as rs ++ tkw G ad (as ((4 + 6 - 1) % 6)) (rs ((4 + 6 - 1) % 6))) _ := wp_pm (List.Perm.of_eq (by simp only [paw, List.append_assoc])) hP
      have hD : va_D A (paw G pd (sz - 1) ((4 + 6 - 1) % 6) ads as rs ++ tkw G ad (as ((4 + 6 - 1) % 6)) (rs ((4 + 6 - 1) % 6))) := wd_pm (List.Perm.of_eq (by simp only [paw, List.append_assoc])) hD
      exact re_z (v := (nI 1)) hx hb hr hlocks hS () hP hD rfl (by decide) dX2_recall_49
    · refine lv_aload_n hx hb dX2_recall_9 rfl (lv_at hl 0 rfl) ?_
      refine lv_aload_n hx hb dX2_recall_10 rfl (lv_at hl 0 rfl) ?_
      refine va_get (D := G.1) (ci := 1) (v := .int (nI 5)) (C := RX2) (T := TX2) (N := 3) hx hb hts inA2 hown hX.1 hP 0 rfl rfl 2 (by decide) (hts _ kw_144) (fun _ h9 => h9) rfl dX2_recall_11 ?_
      refine lv_bipush (v := (nI 6)) hx hb dX2_recall_14 (by decide) ?_
      refine lv_iadd hx hb dX2_recall_16 (ti (y := (nI 11)) (nI_add _ _) ?_)
      refine lv_iconst (v := (nI 1)) hx hb dX2_recall_17 (by decide) ?_
      refine lv_isub hx hb dX2_recall_18 (ti (y := (nI (11 - 1))) (pk_sub (by decide)) ?_)
      refine lv_bipush (v := (nI 6)) hx hb dX2_recall_19 (by decide) ?_
      refine lv_irem hx hb dX2_recall_21 (by decide) (ti (y := (nI ((11 - 1) % 6))) (pk_rem (by decide) (by decide) (by decide)) ?_)
      refine va_put (D := G.1) (ci := 1) (v := .int (nI ((11 - 1) % 6))) (ty := .int) (C := RX2) (T := TX2) (N := 3) hx hb hts inA2 tyX2 tyX2_ok nmX2 hown hX.1 hP hD hS 0 rfl rfl 2 (by decide) (hts _ kw_144) (fun _ h9 => h9) rfl (by decide +kernel) rfl rfl (Nat.le_of_ble_eq_true rfl) dX2_recall_22 (fun H locs hP hD hS => ?_)
      have hP : va_P G.1 vwCl (pao G pd sz ((11 - 1) % 6) (fun k => some (ads k 0)) ++ (tkw G (ads 0) (as 0) (rs 0) ++ (tkw G (ads 1) (as 1) (rs 1) ++ (tkw G (ads 2) (as 2) (rs 2) ++ (tkw G (ads 3) (as 3) (rs 3) ++ (tkw G (ads 4) (as 4) (rs 4) ++ (tkw G (ads 5) (as 5) (rs 5) ++ (tkw G ad a r)))))))) H := hP
      have hD : va_D A (pao G pd sz ((11 - 1) % 6) (fun k => some (ads k 0)) ++ (tkw G (ads 0) (as 0) (rs 0) ++ (tkw G (ads 1) (as 1) (rs 1) ++ (tkw G (ads 2) (as 2) (rs 2) ++ (tkw G (ads 3) (as 3) (rs 3) ++ (tkw G (ads 4) (as 4) (rs 4) ++ (tkw G (ads 5) (as 5) (rs 5) ++ (tkw G ad a r)))))))) := hD
      refine lv_aload_n hx hb dX2_recall_25 rfl (lv_at hl 0 rfl) ?_
      refine lv_dup hx hb dX2_recall_26 rfl ?_
      refine va_get (D := G.1) (ci := 1) (v := .int (nI sz)) (C := RX2) (T := TX2) (N := 3) hx hb hts inA2 hown hX.1 hP 0 rfl rfl 1 (by decide) (hts _ kw_142) (fun _ h9 => h9) rfl dX2_recall_27 ?_
      refine lv_iconst (v := (nI 1)) hx hb dX2_recall_30 (by decide) ?_
      refine lv_isub hx hb dX2_recall_31 (ti (y := (nI (sz - 1))) (pk_sub (by omega)) ?_)
      refine va_put (D := G.1) (ci := 1) (v := .int (nI (sz - 1))) (ty := .int) (C := RX2) (T := TX2) (N := 3) hx hb hts inA2 tyX2 tyX2_ok nmX2 hown hX.1 hP hD hS 0 rfl rfl 1 (by decide) (hts _ kw_142) (fun _ h9 => h9) rfl (by decide +kernel) rfl rfl (Nat.le_of_ble_eq_true rfl) dX2_recall_32 (fun H locs hP hD hS => ?_)
      have hP : va_P G.1 vwCl (pao G pd (sz - 1) ((11 - 1) % 6) (fun k => some (ads k 0)) ++ (tkw G (ads 0) (as 0) (rs 0) ++ (tkw G (ads 1) (as 1) (rs 1) ++ (tkw G (ads 2) (as 2) (rs 2) ++ (tkw G (ads 3) (as 3) (rs 3) ++ (tkw G (ads 4) (as 4) (rs 4) ++ (tkw G (ads 5) (as 5) (rs 5) ++ (tkw G ad a r)))))))) H := hP
      have hD : va_D A (pao G pd (sz - 1) ((11 - 1) % 6) (fun k => some (ads k 0)) ++ (tkw G (ads 0) (as 0) (rs 0) ++ (tkw G (ads 1) (as 1) (rs 1) ++ (tkw G (ads 2) (as 2) (rs 2) ++ (tkw G (ads 3) (as 3) (rs 3) ++ (tkw G (ads 4) (as 4) (rs 4) ++ (tkw G (ads 5) (as 5) (rs 5) ++ (tkw G ad a r)))))))) := hD
      refine lv_aload_n hx hb dX2_recall_35 rfl (lv_at hl 1 rfl) ?_
      refine lv_aload_n hx hb dX2_recall_36 rfl (lv_at hl 0 rfl) ?_
      refine va_get (D := G.1) (ci := 1) (v := .ref (pd 1)) (C := RX2) (T := TX2) (N := 3) hx hb hts inA2 hown hX.1 hP 0 rfl rfl 0 (by decide) (hts _ kw_141) (fun _ h9 => h9) rfl dX2_recall_37 ?_
      refine lv_aload_n hx hb dX2_recall_40 rfl (lv_at hl 0 rfl) ?_
      refine va_get (D := G.1) (ci := 1) (v := .int (nI ((11 - 1) % 6))) (C := RX2) (T := TX2) (N := 3) hx hb hts inA2 hown hX.1 hP 0 rfl rfl 2 (by decide) (hts _ kw_144) (fun _ h9 => h9) rfl dX2_recall_41 ?_
      refine nv_aldT (f := (fun k => some (ads k 0))) (k := (11 - 1) % 6) (x := (ads 4) 0) hx hb hX hP 1 rfl (by decide) (by decide) rfl dX2_recall_44 ?_
      refine ca_Vv (ci := 3) (q := (RX4, TX4, 12)) (rest := []) (wr := pao G pd (sz - 1) ((11 - 1) % 6) (fun k => some (ads k 0)) ++ (tkw G (ads 0) (as 0) (rs 0) ++ (tkw G (ads 1) (as 1) (rs 1) ++ (tkw G (ads 2) (as 2) (rs 2) ++ (tkw G (ads 3) (as 3) (rs 3) ++ (tkw G (ads 5) (as 5) (rs 5))))))) F hX (mX4_become l G ad a r (ads 4) (as 4) (rs 4)) (cA_V hts kw_373 kw_3 kw_370 kw_371 kw_372 hdX4_become ⟨Nat.le_of_ble_eq_true rfl, Nat.le_of_ble_eq_true rfl⟩) rfl rfl rfl hl.1 rfl (Nat.le_of_ble_eq_true rfl) dX2_recall_45 ⟨Nat.le_of_ble_eq_true rfl, Nat.le_of_ble_eq_true rfl⟩ hP hD hS hA ((((List.Perm.append_left _ ((List.Perm.append_left _ ((List.Perm.append_left _ ((List.Perm.append_left _ (pm_sw _ _ _)).trans (pm_sw _ _ _))).trans (pm_sw _ _ _))).trans (pm_sw _ _ _))).trans (pm_sw _ _ _)).trans ((List.Perm.append_left _ ((List.Perm.append_left _ ((List.Perm.append_left _ ((List.Perm.append_left _ ((List.Perm.append_left _ ((List.Perm.append_left _ (List.perm_append_comm)).trans (pm_sw _ _ _))).trans (pm_sw _ _ _))).trans (pm_sw _ _ _))).trans (pm_sw _ _ _))).trans (pm_sw _ _ _))).trans (pm_sw _ _ _))).trans (List.Perm.of_eq (List.append_assoc _ _ _).symm)) (fun u45 H locs hp45 hP hD hS => ?_)
      have hP : va_P G.1 vwCl (pao G pd (sz - 1) ((11 - 1) % 6) (fun k => some (ads k 0)) ++ (tkw G (ads 0) (as 0) (rs 0) ++ (tkw G (ads 1) (as 1) (rs 1) ++ (tkw G (ads 2) (as 2) (rs 2) ++ (tkw G (ads 3) (as 3) (rs 3) ++ (tkw G (ads 4) (as 4) (rs 4) ++ (tkw G (ads 5) (as 5) (rs 5) ++ (tkw G ad (as 4) (rs 4))))))))) H := wp_pm ((((List.Perm.append_left _ ((List.Perm.append_left _ ((List.Perm.append_left _ ((List.Perm.append_left _ (pm_sw _ _ _)).trans (pm_sw _ _ _))).trans (pm_sw _ _ _))).trans (pm_sw _ _ _))).trans (pm_sw _ _ _)).trans ((List.Perm.append_left _ ((List.Perm.append_left _ ((List.Perm.append_left _ ((List.Perm.append_left _ ((List.Perm.append_left _ ((List.Perm.append_left _ (List.perm_append_comm)).trans (pm_sw _ _ _))).trans (pm_sw _ _ _))).trans (pm_sw _ _ _))).trans (pm_sw _ _ _))).trans (pm_sw _ _ _))).trans (pm_sw _ _ _))).trans (List.Perm.of_eq (List.append_assoc _ _ _).symm)).symm hP
      have hD : va_D A (pao G pd (sz - 1) ((11 - 1) % 6) (fun k => some (ads k 0)) ++ (tkw G (ads 0) (as 0) (rs 0) ++ (tkw G (ads 1) (as 1) (rs 1) ++ (tkw G (ads 2) (as 2) (rs 2) ++ (tkw G (ads 3) (as 3) (rs 3) ++ (tkw G (ads 4) (as 4) (rs 4) ++ (tkw G (ads 5) (as 5) (rs 5) ++ (tkw G ad (as 4) (rs 4))))))))) := wd_pm ((((List.Perm.append_left _ ((List.Perm.append_left _ ((List.Perm.append_left _ ((List.Perm.append_left _ (pm_sw _ _ _)).trans (pm_sw _ _ _))).trans (pm_sw _ _ _))).trans (pm_sw _ _ _))).trans (pm_sw _ _ _)).trans ((List.Perm.append_left _ ((List.Perm.append_left _ ((List.Perm.append_left _ ((List.Perm.append_left _ ((List.Perm.append_left _ ((List.Perm.append_left _ (List.perm_append_comm)).trans (pm_sw _ _ _))).trans (pm_sw _ _ _))).trans (pm_sw _ _ _))).trans (pm_sw _ _ _))).trans (pm_sw _ _ _))).trans (pm_sw _ _ _))).trans (List.Perm.of_eq (List.append_assoc _ _ _).symm)).symm hD
      refine lv_iconst (v := (nI 1)) hx hb dX2_recall_48 (by decide) ?_
      have hP : va_P G.1 vwCl (pao G pd (sz - 1) ((5 + 6 - 1) % 6) (fun k => some (ads k 0)) ++ (tkw G (ads 0) (as 0) (rs 0) ++ (tkw G (ads 1) (as 1) (rs 1) ++ (tkw G (ads 2) (as 2) (rs 2) ++ (tkw G (ads 3) (as 3) (rs 3) ++ (tkw G (ads 4) (as 4) (rs 4) ++ (tkw G (ads 5) (as 5) (rs 5) ++ (tkw G ad (as ((5 + 6 - 1) % 6)) (rs ((5 + 6 - 1) % 6)))))))))) _ := hP
      have hD : va_D A (pao G pd (sz - 1) ((5 + 6 - 1) % 6) (fun k => some (ads k 0)) ++ (tkw G (ads 0) (as 0) (rs 0) ++ (tkw G (ads 1) (as 1) (rs 1) ++ (tkw G (ads 2) (as 2) (rs 2) ++ (tkw G (ads 3) (as 3) (rs 3) ++ (tkw G (ads 4) (as 4) (rs 4) ++ (tkw G (ads 5) (as 5) (rs 5) ++ (tkw G ad (as ((5 + 6 - 1) % 6)) (rs ((5 + 6 - 1) % 6)))))))))) := hD
      have hP : va_P G.1 vwCl (paw G pd (sz - 1) ((5 + 6 - 1) % 6) ads as rs ++ tkw G ad (as ((5 + 6 - 1) % 6)) (rs ((5 + 6 - 1) % 6))) _ := wp_pm (List.Perm.of_eq (by simp only [paw, List.append_assoc])) hP
      have hD : va_D A (paw G pd (sz - 1) ((5 + 6 - 1) % 6) ads as rs ++ tkw G ad (as ((5 + 6 - 1) % 6)) (rs ((5 + 6 - 1) % 6))) := wd_pm (List.Perm.of_eq (by simp only [paw, List.append_assoc])) hD
      exact re_z (v := (nI 1)) hx hb hr hlocks hS () hP hD rfl (by decide) dX2_recall_49
  · exact absurd c4 (by omega)

set_option maxHeartbeats 4000000 in
set_option maxRecDepth 100000 in
theorem mX2_recall_no (l : Launch) (G : GG) (pd : Nat → Nat) (sz nx : Nat) (ads as : Nat → Nat → Nat) (rs : Nat → Nat → Nat → Nat) (ad : Nat → Nat) (a : Nat → Nat) (r : Nat → Nat → Nat) (hz : sz = 0) (hn : nx < 6) : Mi l yX2_recall cX2_recall 2 (some .boolean) (rmN 0 0) G [.ref (pd 0), .ref (ad 0)] (paw G pd sz nx ads as rs ++ tkw G ad a r) (fun (r9 : Int32) (_ : Unit) => r9 = (bI false)) (fun (_ : Unit) => paw G pd sz nx ads as rs ++ tkw G ad a r) := by
  refine Mi.of (cc := cX2_recall) (nL := 2) (by decide) (Nat.le_of_ble_eq_true rfl) ?_
  intro p e s m below meth c A ls F hr hlocks hnm hX hA hD hP hS hl
  have F : CallFix p m c cX2_recall 2 s [.ref (pd 0), .ref (ad 0)].toArray wA RX2 := F
  obtain ⟨hx, hb, hml, hown, hts⟩ := id F
  have hl : lv_has ls 2 [(0, .ref (pd 0)), (1, .ref (ad 0))] := hl
  have hP : va_P G.1 vwCl (pao G pd sz nx (fun k => some (ads k 0)) ++ (tkw G (ads 0) (as 0) (rs 0) ++ (tkw G (ads 1) (as 1) (rs 1) ++ (tkw G (ads 2) (as 2) (rs 2) ++ (tkw G (ads 3) (as 3) (rs 3) ++ (tkw G (ads 4) (as 4) (rs 4) ++ (tkw G (ads 5) (as 5) (rs 5) ++ (tkw G ad a r)))))))) s.heap := wp_pm (List.Perm.of_eq (by simp only [paw, List.append_assoc])) hP
  have hD : va_D A (pao G pd sz nx (fun k => some (ads k 0)) ++ (tkw G (ads 0) (as 0) (rs 0) ++ (tkw G (ads 1) (as 1) (rs 1) ++ (tkw G (ads 2) (as 2) (rs 2) ++ (tkw G (ads 3) (as 3) (rs 3) ++ (tkw G (ads 4) (as 4) (rs 4) ++ (tkw G (ads 5) (as 5) (rs 5) ++ (tkw G ad a r)))))))) := wd_pm (List.Perm.of_eq (by simp only [paw, List.append_assoc])) hD
  refine lv_aload_n hx hb dX2_recall_0 rfl (lv_at hl 0 rfl) ?_
  refine va_get (D := G.1) (ci := 1) (v := .int (nI sz)) (C := RX2) (T := TX2) (N := 3) hx hb hts inA2 hown hX.1 hP 0 rfl rfl 1 (by decide) (hts _ kw_142) (fun _ h9 => h9) rfl dX2_recall_1 ?_
  refine nv_zne (x := sz) (tgt := 9) hx hb dX2_recall_4 (by decide) (by omega) (fun c4 => ?_) (fun c4 => ?_)
  · exact absurd hz c4
  · refine lv_iconst (v := (nI 0)) hx hb dX2_recall_7 (by decide) ?_
    have hP : va_P G.1 vwCl (pao G pd sz nx (fun k => some (ads k 0)) ++ (tkw G (ads 0) (as 0) (rs 0) ++ (tkw G (ads 1) (as 1) (rs 1) ++ (tkw G (ads 2) (as 2) (rs 2) ++ (tkw G (ads 3) (as 3) (rs 3) ++ (tkw G (ads 4) (as 4) (rs 4) ++ (tkw G (ads 5) (as 5) (rs 5) ++ (tkw G ad a r)))))))) _ := hP
    have hD : va_D A (pao G pd sz nx (fun k => some (ads k 0)) ++ (tkw G (ads 0) (as 0) (rs 0) ++ (tkw G (ads 1) (as 1) (rs 1) ++ (tkw G (ads 2) (as 2) (rs 2) ++ (tkw G (ads 3) (as 3) (rs 3) ++ (tkw G (ads 4) (as 4) (rs 4) ++ (tkw G (ads 5) (as 5) (rs 5) ++ (tkw G ad a r)))))))) := hD
    have hP : va_P G.1 vwCl (paw G pd sz nx ads as rs ++ tkw G ad a r) _ := wp_pm (List.Perm.of_eq (by simp only [paw, List.append_assoc])) hP
    have hD : va_D A (paw G pd sz nx ads as rs ++ tkw G ad a r) := wd_pm (List.Perm.of_eq (by simp only [paw, List.append_assoc])) hD
    exact re_z (v := (nI 0)) hx hb hr hlocks hS () hP hD rfl (by decide) dX2_recall_8

theorem hdX2_drop : hdOK yX2_drop 0 := by decide +kernel
set_option maxHeartbeats 4000000 in
set_option maxRecDepth 100000 in
theorem mX2_drop (l : Launch) (G : GG) (pd : Nat → Nat) (sz nx : Nat) (ads as : Nat → Nat → Nat) (rs : Nat → Nat → Nat → Nat)  : Mv l yX2_drop cX2_drop 1 none (rmN 0 0) G [.ref (pd 0)] (paw G pd sz nx ads as rs) (fun (_ : Unit) => True) (fun (_ : Unit) => paw G pd 0 nx ads as rs) := by
  refine Mv.of (cc := cX2_drop) (nL := 1) (by decide) (Nat.le_of_ble_eq_true rfl) ?_
  intro p e s m below meth c A ls F hr hlocks hnm hX hA hD hP hS hl
  have F : CallFix p m c cX2_drop 1 s [.ref (pd 0)].toArray wA RX2 := F
  obtain ⟨hx, hb, hml, hown, hts⟩ := id F
  have hl : lv_has ls 1 [(0, .ref (pd 0))] := hl
  refine lv_aload_n hx hb dX2_drop_0 rfl (lv_at hl 0 rfl) ?_
  refine lv_iconst (v := (nI 0)) hx hb dX2_drop_1 (by decide) ?_
  refine va_put (D := G.1) (ci := 1) (v := .int (nI 0)) (ty := .int) (C := RX2) (T := TX2) (N := 3) hx hb hts inA2 tyX2 tyX2_ok nmX2 hown hX.1 hP hD hS 0 rfl rfl 1 (by decide) (hts _ kw_142) (fun _ h9 => h9) rfl (by decide +kernel) rfl rfl (Nat.le_of_ble_eq_true rfl) dX2_drop_2 (fun H locs hP hD hS => ?_)
  have hP : va_P G.1 vwCl (pao G pd 0 nx (fun k => some (ads k 0)) ++ (tkw G (ads 0) (as 0) (rs 0) ++ (tkw G (ads 1) (as 1) (rs 1) ++ (tkw G (ads 2) (as 2) (rs 2) ++ (tkw G (ads 3) (as 3) (rs 3) ++ (tkw G (ads 4) (as 4) (rs 4) ++ (tkw G (ads 5) (as 5) (rs 5)))))))) H := hP
  have hD : va_D A (pao G pd 0 nx (fun k => some (ads k 0)) ++ (tkw G (ads 0) (as 0) (rs 0) ++ (tkw G (ads 1) (as 1) (rs 1) ++ (tkw G (ads 2) (as 2) (rs 2) ++ (tkw G (ads 3) (as 3) (rs 3) ++ (tkw G (ads 4) (as 4) (rs 4) ++ (tkw G (ads 5) (as 5) (rs 5)))))))) := hD
  exact re_v hx hb hr hlocks hS () hP hD trivial dX2_drop_5

