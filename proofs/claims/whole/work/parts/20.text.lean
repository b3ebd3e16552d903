theorem hdX5_append : hdOK yX5_append 1 := by decide +kernel
set_option maxHeartbeats 4000000 in
set_option maxRecDepth 100000 in
theorem mX5_append_yes (l : Launch) (G : GG) (td z tl : Nat → Nat) (x : Nat) (hz : z 1 < 120) : Mi l yX5_append cX5_append 2 (some .boolean) (rmN 0 0) G [.ref (td 0), .int (nI x)] (txw G td z tl) (fun (r9 : Int32) (_ : Unit) => r9 = (bI true)) (fun (_ : Unit) => txw G td (va_up z 1 (z 1 + 1)) (va_up tl (z 1) x)) := by
  refine Mi.of (cc := cX5_append) (nL := 2) (by decide) (Nat.le_of_ble_eq_true rfl) ?_
  intro p e s m below meth c A ls F hr hlocks hnm hX hA hD hP hS hl
  have F : CallFix p m c cX5_append 2 s [.ref (td 0), .int (nI x)].toArray wA RX5 := F
  obtain ⟨hx, hb, hml, hown, hts⟩ := id F
  have hl : lv_has ls 2 [(0, .ref (td 0)), (1, .int (nI x))] := hl
  refine lv_aload_n hx hb dX5_append_0 rfl (lv_at hl 0 rfl) ?_
  refine va_get (D := G.1) (ci := 4) (v := .int (nI (z 1))) (C := RX5) (T := TX5) (N := 7) hx hb hts inA5 hown hX.1 hP 0 rfl rfl 1 (by decide) (hts _ kw_33) (fun _ h9 => h9) rfl dX5_append_1 ?_
  refine lv_bipush (v := (nI 120)) hx hb dX5_append_4 (by decide) ?_
  refine nv_lt (x := z 1) (y := 120) (tgt := 11) hx hb dX5_append_6 (by decide) (by omega) (by decide) (fun c6 => ?_) (fun c6 => ?_)
  · refine lv_aload_n hx hb dX5_append_11 rfl (lv_at hl 0 rfl) ?_
    refine va_get (D := G.1) (ci := 4) (v := .ref (td 1)) (C := RX5) (T := TX5) (N := 7) hx hb hts inA5 hown hX.1 hP 0 rfl rfl 0 (by decide) (hts _ kw_32) (fun _ h9 => h9) rfl dX5_append_12 ?_
    refine lv_aload_n hx hb dX5_append_15 rfl (lv_at hl 0 rfl) ?_
    refine va_get (D := G.1) (ci := 4) (v := .int (nI (z 1))) (C := RX5) (T := TX5) (N := 7) hx hb hts inA5 hown hX.1 hP 0 rfl rfl 1 (by decide) (hts _ kw_33) (fun _ h9 => h9) rfl dX5_append_16 ?_
    refine lv_iload_n hx hb dX5_append_19 rfl (lv_at hl 1 rfl) ?_
    refine nv_ast (f := tl) (k := z 1) (v := x) hx hb hX hP hD hS 1 rfl (by omega) (by decide) dX5_append_20 (fun H locs hP hD hS => ?_)
    have hP : va_P G.1 vwCl (txw G td z (va_up tl (z 1) x)) H := hP
    have hD : va_D A (txw G td z (va_up tl (z 1) x)) := hD
    refine lv_aload_n hx hb dX5_append_21 rfl (lv_at hl 0 rfl) ?_
    refine lv_dup hx hb dX5_append_22 rfl ?_
    refine va_get (D := G.1) (ci := 4) (v := .int (nI (z 1))) (C := RX5) (T := TX5) (N := 7) hx hb hts inA5 hown hX.1 hP 0 rfl rfl 1 (by decide) (hts _ kw_33) (fun _ h9 => h9) rfl dX5_append_23 ?_
    refine lv_iconst (v := (nI 1)) hx hb dX5_append_26 (by decide) ?_
    refine lv_iadd hx hb dX5_append_27 (ti (y := (nI ((z 1) + 1))) (nI_add _ _) ?_)
    refine va_put (D := G.1) (ci := 4) (v := .int (nI ((z 1) + 1))) (ty := .int) (C := RX5) (T := TX5) (N := 7) hx hb hts inA5 tyX5 tyX5_ok nmX5 hown hX.1 hP hD hS 0 rfl rfl 1 (by decide) (hts _ kw_33) (fun _ h9 => h9) rfl (by decide +kernel) rfl rfl (Nat.le_of_ble_eq_true rfl) dX5_append_28 (fun H locs hP hD hS => ?_)
    have hP : va_P G.1 vwCl (txw G td (va_up z 1 ((z 1) + 1)) (va_up tl (z 1) x)) H := hP
    have hD : va_D A (txw G td (va_up z 1 ((z 1) + 1)) (va_up tl (z 1) x)) := hD
    refine lv_iconst (v := (nI 1)) hx hb dX5_append_31 (by decide) ?_
    exact re_z (v := (nI 1)) hx hb hr hlocks hS () hP hD rfl (by decide) dX5_append_32
  · exact absurd c6 (by omega)

set_option maxHeartbeats 4000000 in
set_option maxRecDepth 100000 in
theorem mX5_append_no (l : Launch) (G : GG) (td z tl : Nat → Nat) (x : Nat) (hz : z 1 = 120) : Mi l yX5_append cX5_append 2 (some .boolean) (rmN 0 0) G [.ref (td 0), .int (nI x)] (txw G td z tl) (fun (r9 : Int32) (_ : Unit) => r9 = (bI false)) (fun (_ : Unit) => txw G td z tl) := by
  refine Mi.of (cc := cX5_append) (nL := 2) (by decide) (Nat.le_of_ble_eq_true rfl) ?_
  intro p e s m below meth c A ls F hr hlocks hnm hX hA hD hP hS hl
  have F : CallFix p m c cX5_append 2 s [.ref (td 0), .int (nI x)].toArray wA RX5 := F
  obtain ⟨hx, hb, hml, hown, hts⟩ := id F
  have hl : lv_has ls 2 [(0, .ref (td 0)), (1, .int (nI x))] := hl
  refine lv_aload_n hx hb dX5_append_0 rfl (lv_at hl 0 rfl) ?_
  refine va_get (D := G.1) (ci := 4) (v := .int (nI (z 1))) (C := RX5) (T := TX5) (N := 7) hx hb hts inA5 hown hX.1 hP 0 rfl rfl 1 (by decide) (hts _ kw_33) (fun _ h9 => h9) rfl dX5_append_1 ?_
  refine lv_bipush (v := (nI 120)) hx hb dX5_append_4 (by decide) ?_
  refine nv_lt (x := z 1) (y := 120) (tgt := 11) hx hb dX5_append_6 (by decide) (by omega) (by decide) (fun c6 => ?_) (fun c6 => ?_)
  · exact absurd c6 (by omega)
  · refine lv_iconst (v := (nI 0)) hx hb dX5_append_9 (by decide) ?_
    exact re_z (v := (nI 0)) hx hb hr hlocks hS () hP hD rfl (by decide) dX5_append_10

theorem hdX5_empty : hdOK yX5_empty 0 := by decide +kernel
set_option maxHeartbeats 4000000 in
set_option maxRecDepth 100000 in
theorem mX5_empty (l : Launch) (G : GG) (td z tl : Nat → Nat)  : Mi l yX5_empty cX5_empty 2 (some .int) (rmN 0 0) G [.ref (td 0)] (txw G td z tl) (fun (r9 : Int32) (_ : Unit) => r9 = (nI (z 1))) (fun (_ : Unit) => txw G td (va_up z 1 0) tl) := by
  refine Mi.of (cc := cX5_empty) (nL := 2) (by decide) (Nat.le_of_ble_eq_true rfl) ?_
  intro p e s m below meth c A ls F hr hlocks hnm hX hA hD hP hS hl
  have F : CallFix p m c cX5_empty 2 s [.ref (td 0)].toArray wA RX5 := F
  obtain ⟨hx, hb, hml, hown, hts⟩ := id F
  have hl : lv_has ls 2 [(0, .ref (td 0))] := hl
  refine lv_aload_n hx hb dX5_empty_0 rfl (lv_at hl 0 rfl) ?_
  refine va_get (D := G.1) (ci := 4) (v := .int (nI (z 1))) (C := RX5) (T := TX5) (N := 7) hx hb hts inA5 hown hX.1 hP 0 rfl rfl 1 (by decide) (hts _ kw_33) (fun _ h9 => h9) rfl dX5_empty_1 ?_
  refine lv_istore_n (lv' := [(1, .int (nI (z 1))), (0, .ref (td 0))]) hx hb dX5_empty_4 rfl hl (by decide) rfl (fun ls hl => ?_)
  refine lv_aload_n hx hb dX5_empty_5 rfl (lv_at hl 1 rfl) ?_
  refine lv_iconst (v := (nI 0)) hx hb dX5_empty_6 (by decide) ?_
  refine va_put (D := G.1) (ci := 4) (v := .int (nI 0)) (ty := .int) (C := RX5) (T := TX5) (N := 7) hx hb hts inA5 tyX5 tyX5_ok nmX5 hown hX.1 hP hD hS 0 rfl rfl 1 (by decide) (hts _ kw_33) (fun _ h9 => h9) rfl (by decide +kernel) rfl rfl (Nat.le_of_ble_eq_true rfl) dX5_empty_7 (fun H locs hP hD hS => ?_)
  have hP : va_P G.1 vwCl (txw G td (va_up z 1 0) tl) H := hP
  have hD : va_D A (txw G td (va_up z 1 0) tl) := hD
  refine lv_iload_n hx hb dX5_empty_10 rfl (lv_at hl 0 rfl) ?_
  exact re_i (v := (nI (z 1))) hx hb hr hlocks hS () hP hD rfl dX5_empty_11

theorem hdX5_isFigure : hdOK yX5_isFigure 1 := by decide +kernel
set_option maxHeartbeats 4000000 in
set_option maxRecDepth 100000 in
theorem mX5_isFigure (l : Launch) (G : GG) (td z tl : Nat → Nat) (j : Nat) (hj : j < 120) (h7 : ∀ j, tl j < 256) : Mi l yX5_isFigure cX5_isFigure 2 (some .boolean) (rmN 0 0) G [.ref (td 0), .int (nI j)] (txw G td z tl) (fun (r9 : Int32) (_ : Unit) => r9 = (bI (isD tl j))) (fun (_ : Unit) => txw G td z tl) := by
  refine Mi.of (cc := cX5_isFigure) (nL := 2) (by decide) (Nat.le_of_ble_eq_true rfl) ?_
  intro p e s m below meth c A ls F hr hlocks hnm hX hA hD hP hS hl
  have F : CallFix p m c cX5_isFigure 2 s [.ref (td 0), .int (nI j)].toArray wA RX5 := F
  obtain ⟨hx, hb, hml, hown, hts⟩ := id F
  have hl : lv_has ls 2 [(0, .ref (td 0)), (1, .int (nI j))] := hl
  have hj7 := h7 j
  refine lv_aload_n hx hb dX5_isFigure_0 rfl (lv_at hl 0 rfl) ?_
  refine va_get (D := G.1) (ci := 4) (v := .ref (td 1)) (C := RX5) (T := TX5) (N := 7) hx hb hts inA5 hown hX.1 hP 0 rfl rfl 0 (by decide) (hts _ kw_32) (fun _ h9 => h9) rfl dX5_isFigure_1 ?_
  refine lv_iload_n hx hb dX5_isFigure_4 rfl (lv_at hl 1 rfl) ?_
  refine nv_ald (f := tl) (k := j) hx hb hX hP 1 rfl (by omega) (by decide) dX5_isFigure_5 ?_
  refine lv_bipush (v := (nI 48)) hx hb dX5_isFigure_6 (by decide) ?_
  refine nv_lt (x := tl j) (y := 48) (tgt := 26) hx hb dX5_isFigure_8 (by decide) (by omega) (by decide) (fun c8 => ?_) (fun c8 => ?_)
  · refine lv_iconst (v := (nI 0)) hx hb dX5_isFigure_26 (by decide) ?_
    exact re_z (v := (nI 0)) hx hb hr hlocks hS () hP hD (by rw [isD, decide_eq_false (by omega)]; rfl) (by decide) dX5_isFigure_27
  · refine lv_aload_n hx hb dX5_isFigure_11 rfl (lv_at hl 0 rfl) ?_
    refine va_get (D := G.1) (ci := 4) (v := .ref (td 1)) (C := RX5) (T := TX5) (N := 7) hx hb hts inA5 hown hX.1 hP 0 rfl rfl 0 (by decide) (hts _ kw_32) (fun _ h9 => h9) rfl dX5_isFigure_12 ?_
    refine lv_iload_n hx hb dX5_isFigure_15 rfl (lv_at hl 1 rfl) ?_
    refine nv_ald (f := tl) (k := j) hx hb hX hP 1 rfl (by omega) (by decide) dX5_isFigure_16 ?_
    refine lv_bipush (v := (nI 57)) hx hb dX5_isFigure_17 (by decide) ?_
    refine nv_gt (x := tl j) (y := 57) (tgt := 26) hx hb dX5_isFigure_19 (by decide) (by omega) (by decide) (fun c19 => ?_) (fun c19 => ?_)
    · refine lv_iconst (v := (nI 0)) hx hb dX5_isFigure_26 (by decide) ?_
      exact re_z (v := (nI 0)) hx hb hr hlocks hS () hP hD (by rw [isD, decide_eq_false (by omega)]; rfl) (by decide) dX5_isFigure_27
    · refine lv_iconst (v := (nI 1)) hx hb dX5_isFigure_22 (by decide) ?_
      refine lv_goto (tgt := 27) hx hb dX5_isFigure_23 (by decide) ?_
      exact re_z (v := (nI 1)) hx hb hr hlocks hS () hP hD (by rw [isD, decide_eq_true (by omega)]; rfl) (by decide) dX5_isFigure_27

theorem hdX5_isSmallLetter : hdOK yX5_isSmallLetter 1 := by decide +kernel
set_option maxHeartbeats 4000000 in
set_option maxRecDepth 100000 in
theorem mX5_isSmallLetter (l : Launch) (G : GG) (td z tl : Nat → Nat) (j : Nat) (hj : j < 120) (h7 : ∀ j, tl j < 256) : Mi l yX5_isSmallLetter cX5_isSmallLetter 2 (some .boolean) (rmN 0 0) G [.ref (td 0), .int (nI j)] (txw G td z tl) (fun (r9 : Int32) (_ : Unit) => r9 = (bI (isL tl j))) (fun (_ : Unit) => txw G td z tl) := by
  refine Mi.of (cc := cX5_isSmallLetter) (nL := 2) (by decide) (Nat.le_of_ble_eq_true rfl) ?_
  intro p e s m below meth c A ls F hr hlocks hnm hX hA hD hP hS hl
  have F : CallFix p m c cX5_isSmallLetter 2 s [.ref (td 0), .int (nI j)].toArray wA RX5 := F
  obtain ⟨hx, hb, hml, hown, hts⟩ := id F
  have hl : lv_has ls 2 [(0, .ref (td 0)), (1, .int (nI j))] := hl
  have hj7 := h7 j
  refine lv_aload_n hx hb dX5_isSmallLetter_0 rfl (lv_at hl 0 rfl) ?_
  refine va_get (D := G.1) (ci := 4) (v := .ref (td 1)) (C := RX5) (T := TX5) (N := 7) hx hb hts inA5 hown hX.1 hP 0 rfl rfl 0 (by decide) (hts _ kw_32) (fun _ h9 => h9) rfl dX5_isSmallLetter_1 ?_
  refine lv_iload_n hx hb dX5_isSmallLetter_4 rfl (lv_at hl 1 rfl) ?_
  refine nv_ald (f := tl) (k := j) hx hb hX hP 1 rfl (by omega) (by decide) dX5_isSmallLetter_5 ?_
  refine lv_bipush (v := (nI 97)) hx hb dX5_isSmallLetter_6 (by decide) ?_
  refine nv_lt (x := tl j) (y := 97) (tgt := 26) hx hb dX5_isSmallLetter_8 (by decide) (by omega) (by decide) (fun c8 => ?_) (fun c8 => ?_)
  · refine lv_iconst (v := (nI 0)) hx hb dX5_isSmallLetter_26 (by decide) ?_
    exact re_z (v := (nI 0)) hx hb hr hlocks hS () hP hD (by rw [isL, decide_eq_false (by omega)]; rfl) (by decide) dX5_isSmallLetter_27
  · refine lv_aload_n hx hb dX5_isSmallLetter_11 rfl (lv_at hl 0 rfl) ?_
    refine va_get (D := G.1) (ci := 4) (v := .ref (td 1)) (C := RX5) (T := TX5) (N := 7) hx hb hts inA5 hown hX.1 hP 0 rfl rfl 0 (by decide) (hts _ kw_32) (fun _ h9 => h9) rfl dX5_isSmallLetter_12 ?_
    refine lv_iload_n hx hb dX5_isSmallLetter_15 rfl (lv_at hl 1 rfl) ?_
    refine nv_ald (f := tl) (k := j) hx hb hX hP 1 rfl (by omega) (by decide) dX5_isSmallLetter_16 ?_
    refine lv_bipush (v := (nI 122)) hx hb dX5_isSmallLetter_17 (by decide) ?_
    refine nv_gt (x := tl j) (y := 122) (tgt := 26) hx hb dX5_isSmallLetter_19 (by decide) (by omega) (by decide) (fun c19 => ?_) (fun c19 => ?_)
    · refine lv_iconst (v := (nI 0)) hx hb dX5_isSmallLetter_26 (by decide) ?_
      exact re_z (v := (nI 0)) hx hb hr hlocks hS () hP hD (by rw [isL, decide_eq_false (by omega)]; rfl) (by decide) dX5_isSmallLetter_27
    · refine lv_iconst (v := (nI 1)) hx hb dX5_isSmallLetter_22 (by decide) ?_
      refine lv_goto (tgt := 27) hx hb dX5_isSmallLetter_23 (by decide) ?_
      exact re_z (v := (nI 1)) hx hb hr hlocks hS () hP hD (by rw [isL, decide_eq_true (by omega)]; rfl) (by decide) dX5_isSmallLetter_27

theorem hdX5_takeToken : hdOK yX5_takeToken 0 := by decide +kernel
set_option maxHeartbeats 4000000 in
set_option maxRecDepth 100000 in
theorem mX5_takeToken (l : Launch) (G : GG) (td z tl : Nat → Nat) (hZ : XB z tl) : Mv l yX5_takeToken cX5_takeToken 1 none (rmN 1 21) G [.ref (td 0)] (txw G td z tl) (fun (_ : Unit) => True) (fun (_ : Unit) => txw G td (tok z tl) tl) := by
  refine Mv.of (cc := cX5_takeToken) (nL := 1) (by decide) (Nat.le_of_ble_eq_true rfl) ?_
  intro p e s m below meth c A ls F hr hlocks hnm hX hA hD hP hS hl
  have F : CallFix p m c cX5_takeToken 1 s [.ref (td 0)].toArray wA RX5 := F
  obtain ⟨hx, hb, hml, hown, hts⟩ := id F
  have hl : lv_has ls 1 [(0, .ref (td 0))] := hl
  obtain ⟨x1, x2, x3, x4, x5, x6, x7⟩ := id hZ
  refine lv_aload_n hx hb dX5_takeToken_0 rfl (lv_at hl 0 rfl) ?_
  refine lv_aload_n hx hb dX5_takeToken_1 rfl (lv_at hl 0 rfl) ?_
  refine va_get (D := G.1) (ci := 4) (v := .int (nI (z 3))) (C := RX5) (T := TX5) (N := 7) hx hb hts inA5 hown hX.1 hP 0 rfl rfl 3 (by decide) (hts _ kw_36) (fun _ h9 => h9) rfl dX5_takeToken_2 ?_
  refine va_put (D := G.1) (ci := 4) (v := .int (nI (z 3))) (ty := .int) (C := RX5) (T := TX5) (N := 7) hx hb hts inA5 tyX5 tyX5_ok nmX5 hown hX.1 hP hD hS 0 rfl rfl 2 (by decide) (hts _ kw_35) (fun _ h9 => h9) rfl (by decide +kernel) rfl rfl (Nat.le_of_ble_eq_true rfl) dX5_takeToken_5 (fun H locs hP hD hS => ?_)
  have hP : va_P G.1 vwCl (txw G td (va_up z 2 (z 3)) tl) H := hP
  have hD : va_D A (txw G td (va_up z 2 (z 3)) tl) := hD
  have lp8 : ∀ (n8 : Nat) (s9 : Nat), (z 1 - s9) < n8 → (s9 ≤ z 1) → (runP (isB tl) (z 1) (z 1 - s9) s9 = tS tl (z 1) (z 3)) → ∀ (H : Heap) (locs : List Loc), va_P G.1 vwCl (txw G td (va_up z 2 s9) tl) H → va_D A (txw G td (va_up z 2 s9) tl) → va_S A s.heap H locs → ∀ (ls : Array Slot), lv_has ls 1 [(0, .ref (td 0))] → WV p l e (rmN 1 21) s m [.ref (td 0)] below meth c H locs G A (fun (_ : Unit) => True) (fun (_ : Unit) => txw G td (tok z tl) tl) (F0 m 8 ls []) := by
    intro n8
    induction n8 with
    | zero => intro s9 h9; exact absurd h9 (Nat.not_lt_zero _)
    | succ n8 ih8 =>
      intro s9 hm8  h8 hi8 H locs hP hD hS ls hl
      refine lv_aload_n hx hb dX5_takeToken_8 rfl (lv_at hl 0 rfl) ?_
      refine va_get (D := G.1) (ci := 4) (v := .int (nI s9)) (C := RX5) (T := TX5) (N := 7) hx hb hts inA5 hown hX.1 hP 0 rfl rfl 2 (by decide) (hts _ kw_35) (fun _ h9 => h9) rfl dX5_takeToken_9 ?_
      refine lv_aload_n hx hb dX5_takeToken_12 rfl (lv_at hl 0 rfl) ?_
      refine va_get (D := G.1) (ci := 4) (v := .int (nI (z 1))) (C := RX5) (T := TX5) (N := 7) hx hb hts inA5 hown hX.1 hP 0 rfl rfl 1 (by decide) (hts _ kw_33) (fun _ h9 => h9) rfl dX5_takeToken_13 ?_
      refine nv_ge (x := s9) (y := z 1) (tgt := 46) hx hb dX5_takeToken_16 (by decide) (by omega) (by omega) (fun c16 => ?_) (fun c16 => ?_)
      · refine lv_aload_n hx hb dX5_takeToken_46 rfl (lv_at hl 0 rfl) ?_
        refine lv_aload_n hx hb dX5_takeToken_47 rfl (lv_at hl 0 rfl) ?_
        refine va_get (D := G.1) (ci := 4) (v := .int (nI s9)) (C := RX5) (T := TX5) (N := 7) hx hb hts inA5 hown hX.1 hP 0 rfl rfl 2 (by decide) (hts _ kw_35) (fun _ h9 => h9) rfl dX5_takeToken_48 ?_
        refine va_put (D := G.1) (ci := 4) (v := .int (nI s9)) (ty := .int) (C := RX5) (T := TX5) (N := 7) hx hb hts inA5 tyX5 tyX5_ok nmX5 hown hX.1 hP hD hS 0 rfl rfl 3 (by decide) (hts _ kw_36) (fun _ h9 => h9) rfl (by decide +kernel) rfl rfl (Nat.le_of_ble_eq_true rfl) dX5_takeToken_51 (fun H locs hP hD hS => ?_)
        have hP : va_P G.1 vwCl (txw G td (va_up (va_up z 2 s9) 3 s9) tl) H := hP
        have hD : va_D A (txw G td (va_up (va_up z 2 s9) 3 s9) tl) := hD
        refine lv_aload_n hx hb dX5_takeToken_54 rfl (lv_at hl 0 rfl) ?_
        refine va_get (D := G.1) (ci := 4) (v := .int (nI s9)) (C := RX5) (T := TX5) (N := 7) hx hb hts inA5 hown hX.1 hP 0 rfl rfl 2 (by decide) (hts _ kw_35) (fun _ h9 => h9) rfl dX5_takeToken_55 ?_
        refine lv_aload_n hx hb dX5_takeToken_58 rfl (lv_at hl 0 rfl) ?_
        refine va_get (D := G.1) (ci := 4) (v := .int (nI (z 1))) (C := RX5) (T := TX5) (N := 7) hx hb hts inA5 hown hX.1 hP 0 rfl rfl 1 (by decide) (hts _ kw_33) (fun _ h9 => h9) rfl dX5_takeToken_59 ?_
        refine nv_lt (x := s9) (y := z 1) (tgt := 73) hx hb dX5_takeToken_62 (by decide) (by omega) (by omega) (fun c62 => ?_) (fun c62 => ?_)
        · refine lv_aload_n hx hb dX5_takeToken_73 rfl (lv_at hl 0 rfl) ?_
          refine lv_aload_n hx hb dX5_takeToken_74 rfl (lv_at hl 0 rfl) ?_
          refine va_get (D := G.1) (ci := 4) (v := .int (nI s9)) (C := RX5) (T := TX5) (N := 7) hx hb hts inA5 hown hX.1 hP 0 rfl rfl 2 (by decide) (hts _ kw_35) (fun _ h9 => h9) rfl dX5_takeToken_75 ?_
          refine ca_Vi (ci := 4) (q := (RX5, TX5, 7)) (rest := []) (wr := ([] : va_W)) F hX (mX5_isFigure l G td (va_up (va_up z 2 s9) 3 s9) tl s9 (by omega) x7) (cA_V hts kw_258 kw_2 kw_255 kw_257 kp_1 hdX5_isFigure ⟨Nat.le_of_ble_eq_true rfl, Nat.le_of_ble_eq_true rfl⟩) rfl rfl rfl hl.1 rfl (Nat.le_of_ble_eq_true rfl) dX5_takeToken_78 ⟨Nat.le_of_ble_eq_true rfl, Nat.le_of_ble_eq_true rfl⟩ hP hD hS hA (pm_nil _) (fun r78 u78 H locs hp78 hP hD hS => ?_)
          have hP : va_P G.1 vwCl (txw G td (va_up (va_up z 2 s9) 3 s9) tl) H := wp_pm (pm_nil _).symm hP
          have hD : va_D A (txw G td (va_up (va_up z 2 s9) 3 s9) tl) := wd_pm (pm_nil _).symm hD
          subst hp78
          refine bv_eq (b := isD tl s9) (tgt := 127) hx hb dX5_takeToken_81 (by decide) (fun c81 => ?_) (fun c81 => ?_)
          · refine lv_aload_n hx hb dX5_takeToken_127 rfl (lv_at hl 0 rfl) ?_
            refine lv_aload_n hx hb dX5_takeToken_128 rfl (lv_at hl 0 rfl) ?_
            refine va_get (D := G.1) (ci := 4) (v := .int (nI s9)) (C := RX5) (T := TX5) (N := 7) hx hb hts inA5 hown hX.1 hP 0 rfl rfl 2 (by decide) (hts _ kw_35) (fun _ h9 => h9) rfl dX5_takeToken_129 ?_
            refine ca_Vi (ci := 4) (q := (RX5, TX5, 7)) (rest := []) (wr := ([] : va_W)) F hX (mX5_isSmallLetter l G td (va_up (va_up z 2 s9) 3 s9) tl s9 (by omega) x7) (cA_V hts kw_262 kw_2 kw_259 kw_261 kp_2 hdX5_isSmallLetter ⟨Nat.le_of_ble_eq_true rfl, Nat.le_of_ble_eq_true rfl⟩) rfl rfl rfl hl.1 rfl (Nat.le_of_ble_eq_true rfl) dX5_takeToken_132 ⟨Nat.le_of_ble_eq_true rfl, Nat.le_of_ble_eq_true rfl⟩ hP hD hS hA (pm_nil _) (fun r132 u132 H locs hp132 hP hD hS => ?_)
            have hP : va_P G.1 vwCl (txw G td (va_up (va_up z 2 s9) 3 s9) tl) H := wp_pm (pm_nil _).symm hP
            have hD : va_D A (txw G td (va_up (va_up z 2 s9) 3 s9) tl) := wd_pm (pm_nil _).symm hD
            subst hp132
            refine bv_eq (b := isL tl s9) (tgt := 181) hx hb dX5_takeToken_135 (by decide) (fun c135 => ?_) (fun c135 => ?_)
            · refine lv_aload_n hx hb dX5_takeToken_181 rfl (lv_at hl 0 rfl) ?_
              refine lv_dup hx hb dX5_takeToken_182 rfl ?_
              refine va_get (D := G.1) (ci := 4) (v := .int (nI s9)) (C := RX5) (T := TX5) (N := 7) hx hb hts inA5 hown hX.1 hP 0 rfl rfl 3 (by decide) (hts _ kw_36) (fun _ h9 => h9) rfl dX5_takeToken_183 ?_
              refine lv_iconst (v := (nI 1)) hx hb dX5_takeToken_186 (by decide) ?_
              refine lv_iadd hx hb dX5_takeToken_187 (ti (y := (nI (s9 + 1))) (nI_add _ _) ?_)
              refine va_put (D := G.1) (ci := 4) (v := .int (nI (s9 + 1))) (ty := .int) (C := RX5) (T := TX5) (N := 7) hx hb hts inA5 tyX5 tyX5_ok nmX5 hown hX.1 hP hD hS 0 rfl rfl 3 (by decide) (hts _ kw_36) (fun _ h9 => h9) rfl (by decide +kernel) rfl rfl (Nat.le_of_ble_eq_true rfl) dX5_takeToken_188 (fun H locs hP hD hS => ?_)
              have hP : va_P G.1 vwCl (txw G td (va_up (va_up z 2 s9) 3 (s9 + 1)) tl) H := hP
              have hD : va_D A (txw G td (va_up (va_up z 2 s9) 3 (s9 + 1)) tl) := hD
              refine lv_aload_n hx hb dX5_takeToken_191 rfl (lv_at hl 0 rfl) ?_
              refine lv_aload_n hx hb dX5_takeToken_192 rfl (lv_at hl 0 rfl) ?_
              refine va_get (D := G.1) (ci := 4) (v := .ref (td 1)) (C := RX5) (T := TX5) (N := 7) hx hb hts inA5 hown hX.1 hP 0 rfl rfl 0 (by decide) (hts _ kw_32) (fun _ h9 => h9) rfl dX5_takeToken_193 ?_
              refine lv_aload_n hx hb dX5_takeToken_196 rfl (lv_at hl 0 rfl) ?_
              refine va_get (D := G.1) (ci := 4) (v := .int (nI s9)) (C := RX5) (T := TX5) (N := 7) hx hb hts inA5 hown hX.1 hP 0 rfl rfl 2 (by decide) (hts _ kw_35) (fun _ h9 => h9) rfl dX5_takeToken_197 ?_
              refine nv_ald (f := tl) (k := s9) hx hb hX hP 1 rfl (by omega) (by decide) dX5_takeToken_200 ?_
              refine lv_bipush (v := (nI 59)) hx hb dX5_takeToken_201 (by decide) ?_
              refine nv_ne (x := tl s9) (y := 59) (tgt := 210) hx hb dX5_takeToken_203 (by decide) (by have := x7 s9; omega) (by decide) (fun c203 => ?_) (fun c203 => ?_)
              · refine lv_iconst (v := (nI 4)) hx hb dX5_takeToken_210 (by decide) ?_
                refine va_put (D := G.1) (ci := 4) (v := .int (nI 4)) (ty := .int) (C := RX5) (T := TX5) (N := 7) hx hb hts inA5 tyX5 tyX5_ok nmX5 hown hX.1 hP hD hS 0 rfl rfl 4 (by decide) (hts _ kw_37) (fun _ h9 => h9) rfl (by decide +kernel) rfl rfl (Nat.le_of_ble_eq_true rfl) dX5_takeToken_211 (fun H locs hP hD hS => ?_)
                have hP : va_P G.1 vwCl (txw G td (va_up (va_up (va_up z 2 s9) 3 (s9 + 1)) 4 4) tl) H := hP
                have hD : va_D A (txw G td (va_up (va_up (va_up z 2 s9) 3 (s9 + 1)) 4 4) tl) := hD
                have hs9 : tS tl (z 1) (z 3) = s9 := hi8.symm.trans (runP_end c16)
                have e7 : tok z tl = va_up (va_up (va_up z 2 s9) 3 (s9 + 1)) 4 4 := by unfold tok; rw [hs9, tE, if_neg (Nat.not_le.mpr c62), if_neg (by rw [c81]; decide), if_neg (by rw [c135]; decide), tK, if_neg (Nat.not_le.mpr c62), if_neg (by rw [c81]; decide), if_neg (by rw [c135]; decide), if_neg c203]
                have hP : va_P G.1 vwCl (txw G td (tok z tl) tl) H := by rw [e7]; exact hP
                have hD : va_D A (txw G td (tok z tl) tl) := by rw [e7]; exact hD
                exact re_v hx hb hr hlocks hS () hP hD trivial dX5_takeToken_214
              · refine lv_iconst (v := (nI 3)) hx hb dX5_takeToken_206 (by decide) ?_
                refine lv_goto (tgt := 211) hx hb dX5_takeToken_207 (by decide) ?_
                refine va_put (D := G.1) (ci := 4) (v := .int (nI 3)) (ty := .int) (C := RX5) (T := TX5) (N := 7) hx hb hts inA5 tyX5 tyX5_ok nmX5 hown hX.1 hP hD hS 0 rfl rfl 4 (by decide) (hts _ kw_37) (fun _ h9 => h9) rfl (by decide +kernel) rfl rfl (Nat.le_of_ble_eq_true rfl) dX5_takeToken_211 (fun H locs hP hD hS => ?_)
                have hP : va_P G.1 vwCl (txw G td (va_up (va_up (va_up z 2 s9) 3 (s9 + 1)) 4 3) tl) H := hP
                have hD : va_D A (txw G td (va_up (va_up (va_up z 2 s9) 3 (s9 + 1)) 4 3) tl) := hD
                have hs9 : tS tl (z 1) (z 3) = s9 := hi8.symm.trans (runP_end c16)
                have e7 : tok z tl = va_up (va_up (va_up z 2 s9) 3 (s9 + 1)) 4 3 := by unfold tok; rw [hs9, tE, if_neg (Nat.not_le.mpr c62), if_neg (by rw [c81]; decide), if_neg (by rw [c135]; decide), tK, if_neg (Nat.not_le.mpr c62), if_neg (by rw [c81]; decide), if_neg (by rw [c135]; decide), if_pos c203]
                have hP : va_P G.1 vwCl (txw G td (tok z tl) tl) H := by rw [e7]; exact hP
                have hD : va_D A (txw G td (tok z tl) tl) := by rw [e7]; exact hD
                exact re_v hx hb hr hlocks hS () hP hD trivial dX5_takeToken_214
            · have lp138 : ∀ (n138 : Nat) (e9 : Nat), (z 1 - e9) < n138 → (e9 ≤ z 1) → (runP (isL tl) (z 1) (z 1 - e9) e9 = runP (isL tl) (z 1) (z 1 - s9) s9) → ∀ (H : Heap) (locs : List Loc), va_P G.1 vwCl (txw G td (va_up (va_up z 2 s9) 3 e9) tl) H → va_D A (txw G td (va_up (va_up z 2 s9) 3 e9) tl) → va_S A s.heap H locs → ∀ (ls : Array Slot), lv_has ls 1 [(0, .ref (td 0))] → WV p l e (rmN 1 21) s m [.ref (td 0)] below meth c H locs G A (fun (_ : Unit) => True) (fun (_ : Unit) => txw G td (tok z tl) tl) (F0 m 138 ls []) := by
                intro n138
                induction n138 with
                | zero => intro e9 h9; exact absurd h9 (Nat.not_lt_zero _)
                | succ n138 ih138 =>
                  intro e9 hm138  h138 hi138 H locs hP hD hS ls hl
                  refine lv_aload_n hx hb dX5_takeToken_138 rfl (lv_at hl 0 rfl) ?_
                  refine va_get (D := G.1) (ci := 4) (v := .int (nI e9)) (C := RX5) (T := TX5) (N := 7) hx hb hts inA5 hown hX.1 hP 0 rfl rfl 3 (by decide) (hts _ kw_36) (fun _ h9 => h9) rfl dX5_takeToken_139 ?_
                  refine lv_aload_n hx hb dX5_takeToken_142 rfl (lv_at hl 0 rfl) ?_
                  refine va_get (D := G.1) (ci := 4) (v := .int (nI (z 1))) (C := RX5) (T := TX5) (N := 7) hx hb hts inA5 hown hX.1 hP 0 rfl rfl 1 (by decide) (hts _ kw_33) (fun _ h9 => h9) rfl dX5_takeToken_143 ?_
                  refine nv_ge (x := e9) (y := z 1) (tgt := 173) hx hb dX5_takeToken_146 (by decide) (by omega) (by omega) (fun c146 => ?_) (fun c146 => ?_)
                  · refine lv_aload_n hx hb dX5_takeToken_173 rfl (lv_at hl 0 rfl) ?_
                    refine lv_iconst (v := (nI 1)) hx hb dX5_takeToken_174 (by decide) ?_
                    refine va_put (D := G.1) (ci := 4) (v := .int (nI 1)) (ty := .int) (C := RX5) (T := TX5) (N := 7) hx hb hts inA5 tyX5 tyX5_ok nmX5 hown hX.1 hP hD hS 0 rfl rfl 4 (by decide) (hts _ kw_37) (fun _ h9 => h9) rfl (by decide +kernel) rfl rfl (Nat.le_of_ble_eq_true rfl) dX5_takeToken_175 (fun H locs hP hD hS => ?_)
                    have hP : va_P G.1 vwCl (txw G td (va_up (va_up (va_up z 2 s9) 3 e9) 4 1) tl) H := hP
                    have hD : va_D A (txw G td (va_up (va_up (va_up z 2 s9) 3 e9) 4 1) tl) := hD
                    refine lv_goto (tgt := 214) hx hb dX5_takeToken_178 (by decide) ?_
                    have hs9 : tS tl (z 1) (z 3) = s9 := hi8.symm.trans (runP_end c16)
                    have he9 : runP (isL tl) (z 1) (z 1 - s9) s9 = e9 := hi138.symm.trans (runP_end c146)
                    have e7 : tok z tl = va_up (va_up (va_up z 2 s9) 3 e9) 4 1 := by unfold tok; rw [hs9, tE, if_neg (Nat.not_le.mpr c62), if_neg (by rw [c81]; decide), if_pos c135, he9, tK, if_neg (Nat.not_le.mpr c62), if_neg (by rw [c81]; decide), if_pos c135]
                    have hP : va_P G.1 vwCl (txw G td (tok z tl) tl) H := by rw [e7]; exact hP
                    have hD : va_D A (txw G td (tok z tl) tl) := by rw [e7]; exact hD
                    exact re_v hx hb hr hlocks hS () hP hD trivial dX5_takeToken_214
                  · refine lv_aload_n hx hb dX5_takeToken_149 rfl (lv_at hl 0 rfl) ?_
                    refine lv_aload_n hx hb dX5_takeToken_150 rfl (lv_at hl 0 rfl) ?_
                    refine va_get (D := G.1) (ci := 4) (v := .int (nI e9)) (C := RX5) (T := TX5) (N := 7) hx hb hts inA5 hown hX.1 hP 0 rfl rfl 3 (by decide) (hts _ kw_36) (fun _ h9 => h9) rfl dX5_takeToken_151 ?_
                    refine ca_Vi (ci := 4) (q := (RX5, TX5, 7)) (rest := []) (wr := ([] : va_W)) F hX (mX5_isSmallLetter l G td (va_up (va_up z 2 s9) 3 e9) tl e9 (by omega) x7) (cA_V hts kw_262 kw_2 kw_259 kw_261 kp_2 hdX5_isSmallLetter ⟨Nat.le_of_ble_eq_true rfl, Nat.le_of_ble_eq_true rfl⟩) rfl rfl rfl hl.1 rfl (Nat.le_of_ble_eq_true rfl) dX5_takeToken_154 ⟨Nat.le_of_ble_eq_true rfl, Nat.le_of_ble_eq_true rfl⟩ hP hD hS hA (pm_nil _) (fun r154 u154 H locs hp154 hP hD hS => ?_)
                    have hP : va_P G.1 vwCl (txw G td (va_up (va_up z 2 s9) 3 e9) tl) H := wp_pm (pm_nil _).symm hP
                    have hD : va_D A (txw G td (va_up (va_up z 2 s9) 3 e9) tl) := wd_pm (pm_nil _).symm hD
                    subst hp154
                    refine bv_eq (b := isL tl e9) (tgt := 173) hx hb dX5_takeToken_157 (by decide) (fun c157 => ?_) (fun c157 => ?_)
                    · refine lv_aload_n hx hb dX5_takeToken_173 rfl (lv_at hl 0 rfl) ?_
                      refine lv_iconst (v := (nI 1)) hx hb dX5_takeToken_174 (by decide) ?_
                      refine va_put (D := G.1) (ci := 4) (v := .int (nI 1)) (ty := .int) (C := RX5) (T := TX5) (N := 7) hx hb hts inA5 tyX5 tyX5_ok nmX5 hown hX.1 hP hD hS 0 rfl rfl 4 (by decide) (hts _ kw_37) (fun _ h9 => h9) rfl (by decide +kernel) rfl rfl (Nat.le_of_ble_eq_true rfl) dX5_takeToken_175 (fun H locs hP hD hS => ?_)
                      have hP : va_P G.1 vwCl (txw G td (va_up (va_up (va_up z 2 s9) 3 e9) 4 1) tl) H := hP
                      have hD : va_D A (txw G td (va_up (va_up (va_up z 2 s9) 3 e9) 4 1) tl) := hD
                      refine lv_goto (tgt := 214) hx hb dX5_takeToken_178 (by decide) ?_
                      have hs9 : tS tl (z 1) (z 3) = s9 := hi8.symm.trans (runP_end c16)
                      have he9 : runP (isL tl) (z 1) (z 1 - s9) s9 = e9 := hi138.symm.trans (runP_stop c146 c157)
                      have e7 : tok z tl = va_up (va_up (va_up z 2 s9) 3 e9) 4 1 := by unfold tok; rw [hs9, tE, if_neg (Nat.not_le.mpr c62), if_neg (by rw [c81]; decide), if_pos c135, he9, tK, if_neg (Nat.not_le.mpr c62), if_neg (by rw [c81]; decide), if_pos c135]
                      have hP : va_P G.1 vwCl (txw G td (tok z tl) tl) H := by rw [e7]; exact hP
                      have hD : va_D A (txw G td (tok z tl) tl) := by rw [e7]; exact hD
                      exact re_v hx hb hr hlocks hS () hP hD trivial dX5_takeToken_214
                    · refine lv_aload_n hx hb dX5_takeToken_160 rfl (lv_at hl 0 rfl) ?_
                      refine lv_dup hx hb dX5_takeToken_161 rfl ?_
                      refine va_get (D := G.1) (ci := 4) (v := .int (nI e9)) (C := RX5) (T := TX5) (N := 7) hx hb hts inA5 hown hX.1 hP 0 rfl rfl 3 (by decide) (hts _ kw_36) (fun _ h9 => h9) rfl dX5_takeToken_162 ?_
                      refine lv_iconst (v := (nI 1)) hx hb dX5_takeToken_165 (by decide) ?_
                      refine lv_iadd hx hb dX5_takeToken_166 (ti (y := (nI (e9 + 1))) (nI_add _ _) ?_)
                      refine va_put (D := G.1) (ci := 4) (v := .int (nI (e9 + 1))) (ty := .int) (C := RX5) (T := TX5) (N := 7) hx hb hts inA5 tyX5 tyX5_ok nmX5 hown hX.1 hP hD hS 0 rfl rfl 3 (by decide) (hts _ kw_36) (fun _ h9 => h9) rfl (by decide +kernel) rfl rfl (Nat.le_of_ble_eq_true rfl) dX5_takeToken_167 (fun H locs hP hD hS => ?_)
                      have hP : va_P G.1 vwCl (txw G td (va_up (va_up z 2 s9) 3 (e9 + 1)) tl) H := hP
                      have hD : va_D A (txw G td (va_up (va_up z 2 s9) 3 (e9 + 1)) tl) := hD
                      refine lv_goto (tgt := 138) hx hb dX5_takeToken_170 (by decide) ?_
                      exact ih138 (e9 + 1) (by omega) (by omega) ((runP_step c146 c157).symm.trans hi138) _ _ hP hD hS ls (lv_sub hl [0] rfl)
              exact lp138 _ s9 (Nat.lt_succ_self _) (by omega) rfl _ _ hP hD hS ls (lv_sub hl [0] rfl)
          · have lp84 : ∀ (n84 : Nat) (e9 : Nat), (z 1 - e9) < n84 → (e9 ≤ z 1) → (runP (isD tl) (z 1) (z 1 - e9) e9 = runP (isD tl) (z 1) (z 1 - s9) s9) → ∀ (H : Heap) (locs : List Loc), va_P G.1 vwCl (txw G td (va_up (va_up z 2 s9) 3 e9) tl) H → va_D A (txw G td (va_up (va_up z 2 s9) 3 e9) tl) → va_S A s.heap H locs → ∀ (ls : Array Slot), lv_has ls 1 [(0, .ref (td 0))] → WV p l e (rmN 1 21) s m [.ref (td 0)] below meth c H locs G A (fun (_ : Unit) => True) (fun (_ : Unit) => txw G td (tok z tl) tl) (F0 m 84 ls []) := by
              intro n84
              induction n84 with
              | zero => intro e9 h9; exact absurd h9 (Nat.not_lt_zero _)
              | succ n84 ih84 =>
                intro e9 hm84  h84 hi84 H locs hP hD hS ls hl
                refine lv_aload_n hx hb dX5_takeToken_84 rfl (lv_at hl 0 rfl) ?_
                refine va_get (D := G.1) (ci := 4) (v := .int (nI e9)) (C := RX5) (T := TX5) (N := 7) hx hb hts inA5 hown hX.1 hP 0 rfl rfl 3 (by decide) (hts _ kw_36) (fun _ h9 => h9) rfl dX5_takeToken_85 ?_
                refine lv_aload_n hx hb dX5_takeToken_88 rfl (lv_at hl 0 rfl) ?_
                refine va_get (D := G.1) (ci := 4) (v := .int (nI (z 1))) (C := RX5) (T := TX5) (N := 7) hx hb hts inA5 hown hX.1 hP 0 rfl rfl 1 (by decide) (hts _ kw_33) (fun _ h9 => h9) rfl dX5_takeToken_89 ?_
                refine nv_ge (x := e9) (y := z 1) (tgt := 119) hx hb dX5_takeToken_92 (by decide) (by omega) (by omega) (fun c92 => ?_) (fun c92 => ?_)
                · refine lv_aload_n hx hb dX5_takeToken_119 rfl (lv_at hl 0 rfl) ?_
                  refine lv_iconst (v := (nI 2)) hx hb dX5_takeToken_120 (by decide) ?_
                  refine va_put (D := G.1) (ci := 4) (v := .int (nI 2)) (ty := .int) (C := RX5) (T := TX5) (N := 7) hx hb hts inA5 tyX5 tyX5_ok nmX5 hown hX.1 hP hD hS 0 rfl rfl 4 (by decide) (hts _ kw_37) (fun _ h9 => h9) rfl (by decide +kernel) rfl rfl (Nat.le_of_ble_eq_true rfl) dX5_takeToken_121 (fun H locs hP hD hS => ?_)
                  have hP : va_P G.1 vwCl (txw G td (va_up (va_up (va_up z 2 s9) 3 e9) 4 2) tl) H := hP
                  have hD : va_D A (txw G td (va_up (va_up (va_up z 2 s9) 3 e9) 4 2) tl) := hD
                  refine lv_goto (tgt := 214) hx hb dX5_takeToken_124 (by decide) ?_
                  have hs9 : tS tl (z 1) (z 3) = s9 := hi8.symm.trans (runP_end c16)
                  have he9 : runP (isD tl) (z 1) (z 1 - s9) s9 = e9 := hi84.symm.trans (runP_end c92)
                  have e7 : tok z tl = va_up (va_up (va_up z 2 s9) 3 e9) 4 2 := by unfold tok; rw [hs9, tE, if_neg (Nat.not_le.mpr c62), if_pos c81, he9, tK, if_neg (Nat.not_le.mpr c62), if_pos c81]
                  have hP : va_P G.1 vwCl (txw G td (tok z tl) tl) H := by rw [e7]; exact hP
                  have hD : va_D A (txw G td (tok z tl) tl) := by rw [e7]; exact hD
                  exact re_v hx hb hr hlocks hS () hP hD trivial dX5_takeToken_214
                · refine lv_aload_n hx hb dX5_takeToken_95 rfl (lv_at hl 0 rfl) ?_
                  refine lv_aload_n hx hb dX5_takeToken_96 rfl (lv_at hl 0 rfl) ?_
                  refine va_get (D := G.1) (ci := 4) (v := .int (nI e9)) (C := RX5) (T := TX5) (N := 7) hx hb hts inA5 hown hX.1 hP 0 rfl rfl 3 (by decide) (hts _ kw_36) (fun _ h9 => h9) rfl dX5_takeToken_97 ?_
                  refine ca_Vi (ci := 4) (q := (RX5, TX5, 7)) (rest := []) (wr := ([] : va_W)) F hX (mX5_isFigure l G td (va_up (va_up z 2 s9) 3 e9) tl e9 (by omega) x7) (cA_V hts kw_258 kw_2 kw_255 kw_257 kp_1 hdX5_isFigure ⟨Nat.le_of_ble_eq_true rfl, Nat.le_of_ble_eq_true rfl⟩) rfl rfl rfl hl.1 rfl (Nat.le_of_ble_eq_true rfl) dX5_takeToken_100 ⟨Nat.le_of_ble_eq_true rfl, Nat.le_of_ble_eq_true rfl⟩ hP hD hS hA (pm_nil _) (fun r100 u100 H locs hp100 hP hD hS => ?_)
                  have hP : va_P G.1 vwCl (txw G td (va_up (va_up z 2 s9) 3 e9) tl) H := wp_pm (pm_nil _).symm hP
                  have hD : va_D A (txw G td (va_up (va_up z 2 s9) 3 e9) tl) := wd_pm (pm_nil _).symm hD
                  subst hp100
                  refine bv_eq (b := isD tl e9) (tgt := 119) hx hb dX5_takeToken_103 (by decide) (fun c103 => ?_) (fun c103 => ?_)
                  · refine lv_aload_n hx hb dX5_takeToken_119 rfl (lv_at hl 0 rfl) ?_
                    refine lv_iconst (v := (nI 2)) hx hb dX5_takeToken_120 (by decide) ?_
                    refine va_put (D := G.1) (ci := 4) (v := .int (nI 2)) (ty := .int) (C := RX5) (T := TX5) (N := 7) hx hb hts inA5 tyX5 tyX5_ok nmX5 hown hX.1 hP hD hS 0 rfl rfl 4 (by decide) (hts _ kw_37) (fun _ h9 => h9) rfl (by decide +kernel) rfl rfl (Nat.le_of_ble_eq_true rfl) dX5_takeToken_121 (fun H locs hP hD hS => ?_)
                    have hP : va_P G.1 vwCl (txw G td (va_up (va_up (va_up z 2 s9) 3 e9) 4 2) tl) H := hP
                    have hD : va_D A (txw G td (va_up (va_up (va_up z 2 s9) 3 e9) 4 2) tl) := hD
                    refine lv_goto (tgt := 214) hx hb dX5_takeToken_124 (by decide) ?_
                    have hs9 : tS tl (z 1) (z 3) = s9 := hi8.symm.trans (runP_end c16)
                    have he9 : runP (isD tl) (z 1) (z 1 - s9) s9 = e9 := hi84.symm.trans (runP_stop c92 c103)
                    have e7 : tok z tl = va_up (va_up (va_up z 2 s9) 3 e9) 4 2 := by unfold tok; rw [hs9, tE, if_neg (Nat.not_le.mpr c62), if_pos c81, he9, tK, if_neg (Nat.not_le.mpr c62), if_pos c81]
                    have hP : va_P G.1 vwCl (txw G td (tok z tl) tl) H := by rw [e7]; exact hP
                    have hD : va_D A (txw G td (tok z tl) tl) := by rw [e7]; exact hD
                    exact re_v hx hb hr hlocks hS () hP hD trivial dX5_takeToken_214
                  · refine lv_aload_n hx hb dX5_takeToken_106 rfl (lv_at hl 0 rfl) ?_
                    refine lv_dup hx hb dX5_takeToken_107 rfl ?_
                    refine va_get (D := G.1) (ci := 4) (v := .int (nI e9)) (C := RX5) (T := TX5) (N := 7) hx hb hts inA5 hown hX.1 hP 0 rfl rfl 3 (by decide) (hts _ kw_36) (fun _ h9 => h9) rfl dX5_takeToken_108 ?_
                    refine lv_iconst (v := (nI 1)) hx hb dX5_takeToken_111 (by decide) ?_
                    refine lv_iadd hx hb dX5_takeToken_112 (ti (y := (nI (e9 + 1))) (nI_add _ _) ?_)
                    refine va_put (D := G.1) (ci := 4) (v := .int (nI (e9 + 1))) (ty := .int) (C := RX5) (T := TX5) (N := 7) hx hb hts inA5 tyX5 tyX5_ok nmX5 hown hX.1 hP hD hS 0 rfl rfl 3 (by decide) (hts _ kw_36) (fun _ h9 => h9) rfl (by decide +kernel) rfl rfl (Nat.le_of_ble_eq_true rfl) dX5_takeToken_113 (fun H locs hP hD hS => ?_)
                    have hP : va_P G.1 vwCl (txw G td (va_up (va_up z 2 s9) 3 (e9 + 1)) tl) H := hP
                    have hD : va_D A (txw G td (va_up (va_up z 2 s9) 3 (e9 + 1)) tl) := hD
                    refine lv_goto (tgt := 84) hx hb dX5_takeToken_116 (by decide) ?_
                    exact ih84 (e9 + 1) (by omega) (by omega) ((runP_step c92 c103).symm.trans hi84) _ _ hP hD hS ls (lv_sub hl [0] rfl)
            exact lp84 _ s9 (Nat.lt_succ_self _) (by omega) rfl _ _ hP hD hS ls (lv_sub hl [0] rfl)
        · refine lv_aload_n hx hb dX5_takeToken_65 rfl (lv_at hl 0 rfl) ?_
          refine lv_iconst (v := (nI 0)) hx hb dX5_takeToken_66 (by decide) ?_
          refine va_put (D := G.1) (ci := 4) (v := .int (nI 0)) (ty := .int) (C := RX5) (T := TX5) (N := 7) hx hb hts inA5 tyX5 tyX5_ok nmX5 hown hX.1 hP hD hS 0 rfl rfl 4 (by decide) (hts _ kw_37) (fun _ h9 => h9) rfl (by decide +kernel) rfl rfl (Nat.le_of_ble_eq_true rfl) dX5_takeToken_67 (fun H locs hP hD hS => ?_)
          have hP : va_P G.1 vwCl (txw G td (va_up (va_up (va_up z 2 s9) 3 s9) 4 0) tl) H := hP
          have hD : va_D A (txw G td (va_up (va_up (va_up z 2 s9) 3 s9) 4 0) tl) := hD
          refine lv_goto (tgt := 214) hx hb dX5_takeToken_70 (by decide) ?_
          have hs9 : tS tl (z 1) (z 3) = s9 := hi8.symm.trans (runP_end c16)
          have e7 : tok z tl = va_up (va_up (va_up z 2 s9) 3 s9) 4 0 := by unfold tok; rw [hs9, tE, if_pos c62, tK, if_pos c62]
          have hP : va_P G.1 vwCl (txw G td (tok z tl) tl) H := by rw [e7]; exact hP
          have hD : va_D A (txw G td (tok z tl) tl) := by rw [e7]; exact hD
          exact re_v hx hb hr hlocks hS () hP hD trivial dX5_takeToken_214
      · refine lv_aload_n hx hb dX5_takeToken_19 rfl (lv_at hl 0 rfl) ?_
        refine va_get (D := G.1) (ci := 4) (v := .ref (td 1)) (C := RX5) (T := TX5) (N := 7) hx hb hts inA5 hown hX.1 hP 0 rfl rfl 0 (by decide) (hts _ kw_32) (fun _ h9 => h9) rfl dX5_takeToken_20 ?_
        refine lv_aload_n hx hb dX5_takeToken_23 rfl (lv_at hl 0 rfl) ?_
        refine va_get (D := G.1) (ci := 4) (v := .int (nI s9)) (C := RX5) (T := TX5) (N := 7) hx hb hts inA5 hown hX.1 hP 0 rfl rfl 2 (by decide) (hts _ kw_35) (fun _ h9 => h9) rfl dX5_takeToken_24 ?_
        refine nv_ald (f := tl) (k := s9) hx hb hX hP 1 rfl (by omega) (by decide) dX5_takeToken_27 ?_
        refine lv_bipush (v := (nI 32)) hx hb dX5_takeToken_28 (by decide) ?_
        refine nv_ne (x := tl s9) (y := 32) (tgt := 46) hx hb dX5_takeToken_30 (by decide) (by have := x7 s9; omega) (by decide) (fun c30 => ?_) (fun c30 => ?_)
        · refine lv_aload_n hx hb dX5_takeToken_46 rfl (lv_at hl 0 rfl) ?_
          refine lv_aload_n hx hb dX5_takeToken_47 rfl (lv_at hl 0 rfl) ?_
          refine va_get (D := G.1) (ci := 4) (v := .int (nI s9)) (C := RX5) (T := TX5) (N := 7) hx hb hts inA5 hown hX.1 hP 0 rfl rfl 2 (by decide) (hts _ kw_35) (fun _ h9 => h9) rfl dX5_takeToken_48 ?_
          refine va_put (D := G.1) (ci := 4) (v := .int (nI s9)) (ty := .int) (C := RX5) (T := TX5) (N := 7) hx hb hts inA5 tyX5 tyX5_ok nmX5 hown hX.1 hP hD hS 0 rfl rfl 3 (by decide) (hts _ kw_36) (fun _ h9 => h9) rfl (by decide +kernel) rfl rfl (Nat.le_of_ble_eq_true rfl) dX5_takeToken_51 (fun H locs hP hD hS => ?_)
          have hP : va_P G.1 vwCl (txw G td (va_up (va_up z 2 s9) 3 s9) tl) H := hP
          have hD : va_D A (txw G td (va_up (va_up z 2 s9) 3 s9) tl) := hD
          refine lv_aload_n hx hb dX5_takeToken_54 rfl (lv_at hl 0 rfl) ?_
          refine va_get (D := G.1) (ci := 4) (v := .int (nI s9)) (C := RX5) (T := TX5) (N := 7) hx hb hts inA5 hown hX.1 hP 0 rfl rfl 2 (by decide) (hts _ kw_35) (fun _ h9 => h9) rfl dX5_takeToken_55 ?_
          refine lv_aload_n hx hb dX5_takeToken_58 rfl (lv_at hl 0 rfl) ?_
          refine va_get (D := G.1) (ci := 4) (v := .int (nI (z 1))) (C := RX5) (T := TX5) (N := 7) hx hb hts inA5 hown hX.1 hP 0 rfl rfl 1 (by decide) (hts _ kw_33) (fun _ h9 => h9) rfl dX5_takeToken_59 ?_
          refine nv_lt (x := s9) (y := z 1) (tgt := 73) hx hb dX5_takeToken_62 (by decide) (by omega) (by omega) (fun c62 => ?_) (fun c62 => ?_)
          · refine lv_aload_n hx hb dX5_takeToken_73 rfl (lv_at hl 0 rfl) ?_
            refine lv_aload_n hx hb dX5_takeToken_74 rfl (lv_at hl 0 rfl) ?_
            refine va_get (D := G.1) (ci := 4) (v := .int (nI s9)) (C := RX5) (T := TX5) (N := 7) hx hb hts inA5 hown hX.1 hP 0 rfl rfl 2 (by decide) (hts _ kw_35) (fun _ h9 => h9) rfl dX5_takeToken_75 ?_
            refine ca_Vi (ci := 4) (q := (RX5, TX5, 7)) (rest := []) (wr := ([] : va_W)) F hX (mX5_isFigure l G td (va_up (va_up z 2 s9) 3 s9) tl s9 (by omega) x7) (cA_V hts kw_258 kw_2 kw_255 kw_257 kp_1 hdX5_isFigure ⟨Nat.le_of_ble_eq_true rfl, Nat.le_of_ble_eq_true rfl⟩) rfl rfl rfl hl.1 rfl (Nat.le_of_ble_eq_true rfl) dX5_takeToken_78 ⟨Nat.le_of_ble_eq_true rfl, Nat.le_of_ble_eq_true rfl⟩ hP hD hS hA (pm_nil _) (fun r78 u78 H locs hp78 hP hD hS => ?_)
            have hP : va_P G.1 vwCl (txw G td (va_up (va_up z 2 s9) 3 s9) tl) H := wp_pm (pm_nil _).symm hP
            have hD : va_D A (txw G td (va_up (va_up z 2 s9) 3 s9) tl) := wd_pm (pm_nil _).symm hD
            subst hp78
            refine bv_eq (b := isD tl s9) (tgt := 127) hx hb dX5_takeToken_81 (by decide) (fun c81 => ?_) (fun c81 => ?_)
            · refine lv_aload_n hx hb dX5_takeToken_127 rfl (lv_at hl 0 rfl) ?_
              refine lv_aload_n hx hb dX5_takeToken_128 rfl (lv_at hl 0 rfl) ?_
              refine va_get (D := G.1) (ci := 4) (v := .int (nI s9)) (C := RX5) (T := TX5) (N := 7) hx hb hts inA5 hown hX.1 hP 0 rfl rfl 2 (by decide) (hts _ kw_35) (fun _ h9 => h9) rfl dX5_takeToken_129 ?_
              refine ca_Vi (ci := 4) (q := (RX5, TX5, 7)) (rest := []) (wr := ([] : va_W)) F hX (mX5_isSmallLetter l G td (va_up (va_up z 2 s9) 3 s9) tl s9 (by omega) x7) (cA_V hts kw_262 kw_2 kw_259 kw_261 kp_2 hdX5_isSmallLetter ⟨Nat.le_of_ble_eq_true rfl, Nat.le_of_ble_eq_true rfl⟩) rfl rfl rfl hl.1 rfl (Nat.le_of_ble_eq_true rfl) dX5_takeToken_132 ⟨Nat.le_of_ble_eq_true rfl, Nat.le_of_ble_eq_true rfl⟩ hP hD hS hA (pm_nil _) (fun r132 u132 H locs hp132 hP hD hS => ?_)
              have hP : va_P G.1 vwCl (txw G td (va_up (va_up z 2 s9) 3 s9) tl) H := wp_pm (pm_nil _).symm hP
              have hD : va_D A (txw G td (va_up (va_up z 2 s9) 3 s9) tl) := wd_pm (pm_nil _).symm hD
              subst hp132
              refine bv_eq (b := isL tl s9) (tgt := 181) hx hb dX5_takeToken_135 (by decide) (fun c135 => ?_) (fun c135 => ?_)
              · refine lv_aload_n hx hb dX5_takeToken_181 rfl (lv_at hl 0 rfl) ?_
                refine lv_dup hx hb dX5_takeToken_182 rfl ?_
                refine va_get (D := G.1) (ci := 4) (v := .int (nI s9)) (C := RX5) (T := TX5) (N := 7) hx hb hts inA5 hown hX.1 hP 0 rfl rfl 3 (by decide) (hts _ kw_36) (fun _ h9 => h9) rfl dX5_takeToken_183 ?_
                refine lv_iconst (v := (nI 1)) hx hb dX5_takeToken_186 (by decide) ?_
                refine lv_iadd hx hb dX5_takeToken_187 (ti (y := (nI (s9 + 1))) (nI_add _ _) ?_)
                refine va_put (D := G.1) (ci := 4) (v := .int (nI (s9 + 1))) (ty := .int) (C := RX5) (T := TX5) (N := 7) hx hb hts inA5 tyX5 tyX5_ok nmX5 hown hX.1 hP hD hS 0 rfl rfl 3 (by decide) (hts _ kw_36) (fun _ h9 => h9) rfl (by decide +kernel) rfl rfl (Nat.le_of_ble_eq_true rfl) dX5_takeToken_188 (fun H locs hP hD hS => ?_)
                have hP : va_P G.1 vwCl (txw G td (va_up (va_up z 2 s9) 3 (s9 + 1)) tl) H := hP
                have hD : va_D A (txw G td (va_up (va_up z 2 s9) 3 (s9 + 1)) tl) := hD
                refine lv_aload_n hx hb dX5_takeToken_191 rfl (lv_at hl 0 rfl) ?_
                refine lv_aload_n hx hb dX5_takeToken_192 rfl (lv_at hl 0 rfl) ?_
                refine va_get (D := G.1) (ci := 4) (v := .ref (td 1)) (C := RX5) (T := TX5) (N := 7) hx hb hts inA5 hown hX.1 hP 0 rfl rfl 0 (by decide) (hts _ kw_32) (fun _ h9 => h9) rfl dX5_takeToken_193 ?_
                refine lv_aload_n hx hb dX5_takeToken_196 rfl (lv_at hl 0 rfl) ?_
                refine va_get (D := G.1) (ci := 4) (v := .int (nI s9)) (C := RX5) (T := TX5) (N := 7) hx hb hts inA5 hown hX.1 hP 0 rfl rfl 2 (by decide) (hts _ kw_35) (fun _ h9 => h9) rfl dX5_takeToken_197 ?_
                refine nv_ald (f := tl) (k := s9) hx hb hX hP 1 rfl (by omega) (by decide) dX5_takeToken_200 ?_
                refine lv_bipush (v := (nI 59)) hx hb dX5_takeToken_201 (by decide) ?_
                refine nv_ne (x := tl s9) (y := 59) (tgt := 210) hx hb dX5_takeToken_203 (by decide) (by have := x7 s9; omega) (by decide) (fun c203 => ?_) (fun c203 => ?_)
                · refine lv_iconst (v := (nI 4)) hx hb dX5_takeToken_210 (by decide) ?_
                  refine va_put (D := G.1) (ci := 4) (v := .int (nI 4)) (ty := .int) (C := RX5) (T := TX5) (N := 7) hx hb hts inA5 tyX5 tyX5_ok nmX5 hown hX.1 hP hD hS 0 rfl rfl 4 (by decide) (hts _ kw_37) (fun _ h9 => h9) rfl (by decide +kernel) rfl rfl (Nat.le_of_ble_eq_true rfl) dX5_takeToken_211 (fun H locs hP hD hS => ?_)
                  have hP : va_P G.1 vwCl (txw G td (va_up (va_up (va_up z 2 s9) 3 (s9 + 1)) 4 4) tl) H := hP
                  have hD : va_D A (txw G td (va_up (va_up (va_up z 2 s9) 3 (s9 + 1)) 4 4) tl) := hD
                  have hs9 : tS tl (z 1) (z 3) = s9 := hi8.symm.trans (runP_stop c16 (decide_eq_false c30))
                  have e7 : tok z tl = va_up (va_up (va_up z 2 s9) 3 (s9 + 1)) 4 4 := by unfold tok; rw [hs9, tE, if_neg (Nat.not_le.mpr c62), if_neg (by rw [c81]; decide), if_neg (by rw [c135]; decide), tK, if_neg (Nat.not_le.mpr c62), if_neg (by rw [c81]; decide), if_neg (by rw [c135]; decide), if_neg c203]
                  have hP : va_P G.1 vwCl (txw G td (tok z tl) tl) H := by rw [e7]; exact hP
                  have hD : va_D A (txw G td (tok z tl) tl) := by rw [e7]; exact hD
                  exact re_v hx hb hr hlocks hS () hP hD trivial dX5_takeToken_214
                · refine lv_iconst (v := (nI 3)) hx hb dX5_takeToken_206 (by decide) ?_
                  refine lv_goto (tgt := 211) hx hb dX5_takeToken_207 (by decide) ?_
                  refine va_put (D := G.1) (ci := 4) (v := .int (nI 3)) (ty := .int) (C := RX5) (T := TX5) (N := 7) hx hb hts inA5 tyX5 tyX5_ok nmX5 hown hX.1 hP hD hS 0 rfl rfl 4 (by decide) (hts _ kw_37) (fun _ h9 => h9) rfl (by decide +kernel) rfl rfl (Nat.le_of_ble_eq_true rfl) dX5_takeToken_211 (fun H locs hP hD hS => ?_)
                  have hP : va_P G.1 vwCl (txw G td (va_up (va_up (va_up z 2 s9) 3 (s9 + 1)) 4 3) tl) H := hP
                  have hD : va_D A (txw G td (va_up (va_up (va_up z 2 s9) 3 (s9 + 1)) 4 3) tl) := hD
                  have hs9 : tS tl (z 1) (z 3) = s9 := hi8.symm.trans (runP_stop c16 (decide_eq_false c30))
                  have e7 : tok z tl = va_up (va_up (va_up z 2 s9) 3 (s9 + 1)) 4 3 := by unfold tok; rw [hs9, tE, if_neg (Nat.not_le.mpr c62), if_neg (by rw [c81]; decide), if_neg (by rw [c135]; decide), tK, if_neg (Nat.not_le.mpr c62), if_neg (by rw [c81]; decide), if_neg (by rw [c135]; decide), if_pos c203]
                  have hP : va_P G.1 vwCl (txw G td (tok z tl) tl) H := by rw [e7]; exact hP
                  have hD : va_D A (txw G td (tok z tl) tl) := by rw [e7]; exact hD
                  exact re_v hx hb hr hlocks hS () hP hD trivial dX5_takeToken_214
              · have lp138 : ∀ (n138 : Nat) (e9 : Nat), (z 1 - e9) < n138 → (e9 ≤ z 1) → (runP (isL tl) (z 1) (z 1 - e9) e9 = runP (isL tl) (z 1) (z 1 - s9) s9) → ∀ (H : Heap) (locs : List Loc), va_P G.1 vwCl (txw G td (va_up (va_up z 2 s9) 3 e9) tl) H → va_D A (txw G td (va_up (va_up z 2 s9) 3 e9) tl) → va_S A s.heap H locs → ∀ (ls : Array Slot), lv_has ls 1 [(0, .ref (td 0))] → WV p l e (rmN 1 21) s m [.ref (td 0)] below meth c H locs G A (fun (_ : Unit) => True) (fun (_ : Unit) => txw G td (tok z tl) tl) (F0 m 138 ls []) := by
                  intro n138
                  induction n138 with
                  | zero => intro e9 h9; exact absurd h9 (Nat.not_lt_zero _)
                  | succ n138 ih138 =>
                    intro e9 hm138  h138 hi138 H locs hP hD hS ls hl
                    refine lv_aload_n hx hb dX5_takeToken_138 rfl (lv_at hl 0 rfl) ?_
                    refine va_get (D := G.1) (ci := 4) (v := .int (nI e9)) (C := RX5) (T := TX5) (N := 7) hx hb hts inA5 hown hX.1 hP 0 rfl rfl 3 (by decide) (hts _ kw_36) (fun _ h9 => h9) rfl dX5_takeToken_139 ?_
                    refine lv_aload_n hx hb dX5_takeToken_142 rfl (lv_at hl 0 rfl) ?_
                    refine va_get (D := G.1) (ci := 4) (v := .int (nI (z 1))) (C := RX5) (T := TX5) (N := 7) hx hb hts inA5 hown hX.1 hP 0 rfl rfl 1 (by decide) (hts _ kw_33) (fun _ h9 => h9) rfl dX5_takeToken_143 ?_
                    refine nv_ge (x := e9) (y := z 1) (tgt := 173) hx hb dX5_takeToken_146 (by decide) (by omega) (by omega) (fun c146 => ?_) (fun c146 => ?_)
                    · refine lv_aload_n hx hb dX5_takeToken_173 rfl (lv_at hl 0 rfl) ?_
                      refine lv_iconst (v := (nI 1)) hx hb dX5_takeToken_174 (by decide) ?_
                      refine va_put (D := G.1) (ci := 4) (v := .int (nI 1)) (ty := .int) (C := RX5) (T := TX5) (N := 7) hx hb hts inA5 tyX5 tyX5_ok nmX5 hown hX.1 hP hD hS 0 rfl rfl 4 (by decide) (hts _ kw_37) (fun _ h9 => h9) rfl (by decide +kernel) rfl rfl (Nat.le_of_ble_eq_true rfl) dX5_takeToken_175 (fun H locs hP hD hS => ?_)
                      have hP : va_P G.1 vwCl (txw G td (va_up (va_up (va_up z 2 s9) 3 e9) 4 1) tl) H := hP
                      have hD : va_D A (txw G td (va_up (va_up (va_up z 2 s9) 3 e9) 4 1) tl) := hD
                      refine lv_goto (tgt := 214) hx hb dX5_takeToken_178 (by decide) ?_
                      have hs9 : tS tl (z 1) (z 3) = s9 := hi8.symm.trans (runP_stop c16 (decide_eq_false c30))
                      have he9 : runP (isL tl) (z 1) (z 1 - s9) s9 = e9 := hi138.symm.trans (runP_end c146)
                      have e7 : tok z tl = va_up (va_up (va_up z 2 s9) 3 e9) 4 1 := by unfold tok; rw [hs9, tE, if_neg (Nat.not_le.mpr c62), if_neg (by rw [c81]; decide), if_pos c135, he9, tK, if_neg (Nat.not_le.mpr c62), if_neg (by rw [c81]; decide), if_pos c135]
                      have hP : va_P G.1 vwCl (txw G td (tok z tl) tl) H := by rw [e7]; exact hP
                      have hD : va_D A (txw G td (tok z tl) tl) := by rw [e7]; exact hD
                      exact re_v hx hb hr hlocks hS () hP hD trivial dX5_takeToken_214
                    · refine lv_aload_n hx hb dX5_takeToken_149 rfl (lv_at hl 0 rfl) ?_
                      refine lv_aload_n hx hb dX5_takeToken_150 rfl (lv_at hl 0 rfl) ?_
                      refine va_get (D := G.1) (ci := 4) (v := .int (nI e9)) (C := RX5) (T := TX5) (N := 7) hx hb hts inA5 hown hX.1 hP 0 rfl rfl 3 (by decide) (hts _ kw_36) (fun _ h9 => h9) rfl dX5_takeToken_151 ?_
                      refine ca_Vi (ci := 4) (q := (RX5, TX5, 7)) (rest := []) (wr := ([] : va_W)) F hX (mX5_isSmallLetter l G td (va_up (va_up z 2 s9) 3 e9) tl e9 (by omega) x7) (cA_V hts kw_262 kw_2 kw_259 kw_261 kp_2 hdX5_isSmallLetter ⟨Nat.le_of_ble_eq_true rfl, Nat.le_of_ble_eq_true rfl⟩) rfl rfl rfl hl.1 rfl (Nat.le_of_ble_eq_true rfl) dX5_takeToken_154 ⟨Nat.le_of_ble_eq_true rfl, Nat.le_of_ble_eq_true rfl⟩ hP hD hS hA (pm_nil _) (fun r154 u154 H locs hp154 hP hD hS => ?_)
                      have hP : va_P G.1 vwCl (txw G td (va_up (va_up z 2 s9) 3 e9) tl) H := wp_pm (pm_nil _).symm hP
                      have hD : va_D A (txw G td (va_up (va_up z 2 s9) 3 e9) tl) := wd_pm (pm_nil _).symm hD
                      subst hp154
                      refine bv_eq (b := isL tl e9) (tgt := 173) hx hb dX5_takeToken_157 (by decide) (fun c157 => ?_) (fun c157 => ?_)
                      · refine lv_aload_n hx hb dX5_takeToken_173 rfl (lv_at hl 0 rfl) ?_
                        refine lv_iconst (v := (nI 1)) hx hb dX5_takeToken_174 (by decide) ?_
                        refine va_put (D := G.1) (ci := 4) (v := .int (nI 1)) (ty := .int) (C := RX5) (T := TX5) (N := 7) hx hb hts inA5 tyX5 tyX5_ok nmX5 hown hX.1 hP hD hS 0 rfl rfl 4 (by decide) (hts _ kw_37) (fun _ h9 => h9) rfl (by decide +kernel) rfl rfl (Nat.le_of_ble_eq_true rfl) dX5_takeToken_175 (fun H locs hP hD hS => ?_)
                        have hP : va_P G.1 vwCl (txw G td (va_up (va_up (va_up z 2 s9) 3 e9) 4 1) tl) H := hP
                        have hD : va_D A (txw G td (va_up (va_up (va_up z 2 s9) 3 e9) 4 1) tl) := hD
                        refine lv_goto (tgt := 214) hx hb dX5_takeToken_178 (by decide) ?_
                        have hs9 : tS tl (z 1) (z 3) = s9 := hi8.symm.trans (runP_stop c16 (decide_eq_false c30))
                        have he9 : runP (isL tl) (z 1) (z 1 - s9) s9 = e9 := hi138.symm.trans (runP_stop c146 c157)
                        have e7 : tok z tl = va_up (va_up (va_up z 2 s9) 3 e9) 4 1 := by unfold tok; rw [hs9, tE, if_neg (Nat.not_le.mpr c62), if_neg (by rw [c81]; decide), if_pos c135, he9, tK, if_neg (Nat.not_le.mpr c62), if_neg (by rw [c81]; decide), if_pos c135]
                        have hP : va_P G.1 vwCl (txw G td (tok z tl) tl) H := by rw [e7]; exact hP
                        have hD : va_D A (txw G td (tok z tl) tl) := by rw [e7]; exact hD
                        exact re_v hx hb hr hlocks hS () hP hD trivial dX5_takeToken_214
                      · refine lv_aload_n hx hb dX5_takeToken_160 rfl (lv_at hl 0 rfl) ?_
                        refine lv_dup hx hb dX5_takeToken_161 rfl ?_
                        refine va_get (D := G.1) (ci := 4) (v := .int (nI e9)) (C := RX5) (T := TX5) (N := 7) hx hb hts inA5 hown hX.1 hP 0 rfl rfl 3 (by decide) (hts _ kw_36) (fun _ h9 => h9) rfl dX5_takeToken_162 ?_
                        refine lv_iconst (v := (nI 1)) hx hb dX5_takeToken_165 (by decide) ?_
                        refine lv_iadd hx hb dX5_takeToken_166 (ti (y := (nI (e9 + 1))) (nI_add _ _) ?_)
                        refine va_put (D := G.1) (ci := 4) (v := .int (nI (e9 + 1))) (ty := .int) (C := RX5) (T := TX5) (N := 7) hx hb hts inA5 tyX5 tyX5_ok nmX5 hown hX.1 hP hD hS 0 rfl rfl 3 (by decide) (hts _ kw_36) (fun _ h9 => h9) rfl (by decide +kernel) rfl rfl (Nat.le_of_ble_eq_true rfl) dX5_takeToken_167 (fun H locs hP hD hS => ?_)
                        have hP : va_P G.1 vwCl (txw G td (va_up (va_up z 2 s9) 3 (e9 + 1)) tl) H := hP
                        have hD : va_D A (txw G td (va_up (va_up z 2 s9) 3 (e9 + 1)) tl) := hD
                        refine lv_goto (tgt := 138) hx hb dX5_takeToken_170 (by decide) ?_
                        exact ih138 (e9 + 1) (by omega) (by omega) ((runP_step c146 c157).symm.trans hi138) _ _ hP hD hS ls (lv_sub hl [0] rfl)
                exact lp138 _ s9 (Nat.lt_succ_self _) (by omega) rfl _ _ hP hD hS ls (lv_sub hl [0] rfl)
            · have lp84 : ∀ (n84 : Nat) (e9 : Nat), (z 1 - e9) < n84 → (e9 ≤ z 1) → (runP (isD tl) (z 1) (z 1 - e9) e9 = runP (isD tl) (z 1) (z 1 - s9) s9) → ∀ (H : Heap) (locs : List Loc), va_P G.1 vwCl (txw G td (va_up (va_up z 2 s9) 3 e9) tl) H → va_D A (txw G td (va_up (va_up z 2 s9) 3 e9) tl) → va_S A s.heap H locs → ∀ (ls : Array Slot), lv_has ls 1 [(0, .ref (td 0))] → WV p l e (rmN 1 21) s m [.ref (td 0)] below meth c H locs G A (fun (_ : Unit) => True) (fun (_ : Unit) => txw G td (tok z tl) tl) (F0 m 84 ls []) := by
                intro n84
                induction n84 with
                | zero => intro e9 h9; exact absurd h9 (Nat.not_lt_zero _)
                | succ n84 ih84 =>
                  intro e9 hm84  h84 hi84 H locs hP hD hS ls hl
                  refine lv_aload_n hx hb dX5_takeToken_84 rfl (lv_at hl 0 rfl) ?_
                  refine va_get (D := G.1) (ci := 4) (v := .int (nI e9)) (C := RX5) (T := TX5) (N := 7) hx hb hts inA5 hown hX.1 hP 0 rfl rfl 3 (by decide) (hts _ kw_36) (fun _ h9 => h9) rfl dX5_takeToken_85 ?_
                  refine lv_aload_n hx hb dX5_takeToken_88 rfl (lv_at hl 0 rfl) ?_
                  refine va_get (D := G.1) (ci := 4) (v := .int (nI (z 1))) (C := RX5) (T := TX5) (N := 7) hx hb hts inA5 hown hX.1 hP 0 rfl rfl 1 (by decide) (hts _ kw_33) (fun _ h9 => h9) rfl dX5_takeToken_89 ?_
                  refine nv_ge (x := e9) (y := z 1) (tgt := 119) hx hb dX5_takeToken_92 (by decide) (by omega) (by omega) (fun c92 => ?_) (fun c92 => ?_)
                  · refine lv_aload_n hx hb dX5_takeToken_119 rfl (lv_at hl 0 rfl) ?_
                    refine lv_iconst (v := (nI 2)) hx hb dX5_takeToken_120 (by decide) ?_
                    refine va_put (D := G.1) (ci := 4) (v := .int (nI 2)) (ty := .int) (C := RX5) (T := TX5) (N := 7) hx hb hts inA5 tyX5 tyX5_ok nmX5 hown hX.1 hP hD hS 0 rfl rfl 4 (by decide) (hts _ kw_37) (fun _ h9 => h9) rfl (by decide +kernel) rfl rfl (Nat.le_of_ble_eq_true rfl) dX5_takeToken_121 (fun H locs hP hD hS => ?_)
                    have hP : va_P G.1 vwCl (txw G td (va_up (va_up (va_up z 2 s9) 3 e9) 4 2) tl) H := hP
                    have hD : va_D A (txw G td (va_up (va_up (va_up z 2 s9) 3 e9) 4 2) tl) := hD
                    refine lv_goto (tgt := 214) hx hb dX5_takeToken_124 (by decide) ?_
                    have hs9 : tS tl (z 1) (z 3) = s9 := hi8.symm.trans (runP_stop c16 (decide_eq_false c30))
                    have he9 : runP (isD tl) (z 1) (z 1 - s9) s9 = e9 := hi84.symm.trans (runP_end c92)
                    have e7 : tok z tl = va_up (va_up (va_up z 2 s9) 3 e9) 4 2 := by unfold tok; rw [hs9, tE, if_neg (Nat.not_le.mpr c62), if_pos c81, he9, tK, if_neg (Nat.not_le.mpr c62), if_pos c81]
                    have hP : va_P G.1 vwCl (txw G td (tok z tl) tl) H := by rw [e7]; exact hP
                    have hD : va_D A (txw G td (tok z tl) tl) := by rw [e7]; exact hD
                    exact re_v hx hb hr hlocks hS () hP hD trivial dX5_takeToken_214
                  · refine lv_aload_n hx hb dX5_takeToken_95 rfl (lv_at hl 0 rfl) ?_
                    refine lv_aload_n hx hb dX5_takeToken_96 rfl (lv_at hl 0 rfl) ?_
                    refine va_get (D := G.1) (ci := 4) (v := .int (nI e9)) (C := RX5) (T := TX5) (N := 7) hx hb hts inA5 hown hX.1 hP 0 rfl rfl 3 (by decide) (hts _ kw_36) (fun _ h9 => h9) rfl dX5_takeToken_97 ?_
                    refine ca_Vi (ci := 4) (q := (RX5, TX5, 7)) (rest := []) (wr := ([] : va_W)) F hX (mX5_isFigure l G td (va_up (va_up z 2 s9) 3 e9) tl e9 (by omega) x7) (cA_V hts kw_258 kw_2 kw_255 kw_257 kp_1 hdX5_isFigure ⟨Nat.le_of_ble_eq_true rfl, Nat.le_of_ble_eq_true rfl⟩) rfl rfl rfl hl.1 rfl (Nat.le_of_ble_eq_true rfl) dX5_takeToken_100 ⟨Nat.le_of_ble_eq_true rfl, Nat.le_of_ble_eq_true rfl⟩ hP hD hS hA (pm_nil _) (fun r100 u100 H locs hp100 hP hD hS => ?_)
                    have hP : va_P G.1 vwCl (txw G td (va_up (va_up z 2 s9) 3 e9) tl) H := wp_pm (pm_nil _).symm hP
                    have hD : va_D A (txw G td (va_up (va_up z 2 s9) 3 e9) tl) := wd_pm (pm_nil _).symm hD
                    subst hp100
                    refine bv_eq (b := isD tl e9) (tgt := 119) hx hb dX5_takeToken_103 (by decide) (fun c103 => ?_) (fun c103 => ?_)
                    · refine lv_aload_n hx hb dX5_takeToken_119 rfl (lv_at hl 0 rfl) ?_
                      refine lv_iconst (v := (nI 2)) hx hb dX5_takeToken_120 (by decide) ?_
                      refine va_put (D := G.1) (ci := 4) (v := .int (nI 2)) (ty := .int) (C := RX5) (T := TX5) (N := 7) hx hb hts inA5 tyX5 tyX5_ok nmX5 hown hX.1 hP hD hS 0 rfl rfl 4 (by decide) (hts _ kw_37) (fun _ h9 => h9) rfl (by decide +kernel) rfl rfl (Nat.le_of_ble_eq_true rfl) dX5_takeToken_121 (fun H locs hP hD hS => ?_)
                      have hP : va_P G.1 vwCl (txw G td (va_up (va_up (va_up z 2 s9) 3 e9) 4 2) tl) H := hP
                      have hD : va_D A (txw G td (va_up (va_up (va_up z 2 s9) 3 e9) 4 2) tl) := hD
                      refine lv_goto (tgt := 214) hx hb dX5_takeToken_124 (by decide) ?_
                      have hs9 : tS tl (z 1) (z 3) = s9 := hi8.symm.trans (runP_stop c16 (decide_eq_false c30))
                      have he9 : runP (isD tl) (z 1) (z 1 - s9) s9 = e9 := hi84.symm.trans (runP_stop c92 c103)
                      have e7 : tok z tl = va_up (va_up (va_up z 2 s9) 3 e9) 4 2 := by unfold tok; rw [hs9, tE, if_neg (Nat.not_le.mpr c62), if_pos c81, he9, tK, if_neg (Nat.not_le.mpr c62), if_pos c81]
                      have hP : va_P G.1 vwCl (txw G td (tok z tl) tl) H := by rw [e7]; exact hP
                      have hD : va_D A (txw G td (tok z tl) tl) := by rw [e7]; exact hD
                      exact re_v hx hb hr hlocks hS () hP hD trivial dX5_takeToken_214
                    · refine lv_aload_n hx hb dX5_takeToken_106 rfl (lv_at hl 0 rfl) ?_
                      refine lv_dup hx hb dX5_takeToken_107 rfl ?_
                      refine va_get (D := G.1) (ci := 4) (v := .int (nI e9)) (C := RX5) (T := TX5) (N := 7) hx hb hts inA5 hown hX.1 hP 0 rfl rfl 3 (by decide) (hts _ kw_36) (fun _ h9 => h9) rfl dX5_takeToken_108 ?_
                      refine lv_iconst (v := (nI 1)) hx hb dX5_takeToken_111 (by decide) ?_
                      refine lv_iadd hx hb dX5_takeToken_112 (ti (y := (nI (e9 + 1))) (nI_add _ _) ?_)
                      refine va_put (D := G.1) (ci := 4) (v := .int (nI (e9 + 1))) (ty := .int) (C := RX5) (T := TX5) (N := 7) hx hb hts inA5 tyX5 tyX5_ok nmX5 hown hX.1 hP hD hS 0 rfl rfl 3 (by decide) (hts _ kw_36) (fun _ h9 => h9) rfl (by decide +kernel) rfl rfl (Nat.le_of_ble_eq_true rfl) dX5_takeToken_113 (fun H locs hP hD hS => ?_)
                      have hP : va_P G.1 vwCl (txw G td (va_up (va_up z 2 s9) 3 (e9 + 1)) tl) H := hP
                      have hD : va_D A (txw G td (va_up (va_up z 2 s9) 3 (e9 + 1)) tl) := hD
                      refine lv_goto (tgt := 84) hx hb dX5_takeToken_116 (by decide) ?_
                      exact ih84 (e9 + 1) (by omega) (by omega) ((runP_step c92 c103).symm.trans hi84) _ _ hP hD hS ls (lv_sub hl [0] rfl)
              exact lp84 _ s9 (Nat.lt_succ_self _) (by omega) rfl _ _ hP hD hS ls (lv_sub hl [0] rfl)
          · refine lv_aload_n hx hb dX5_takeToken_65 rfl (lv_at hl 0 rfl) ?_
            refine lv_iconst (v := (nI 0)) hx hb dX5_takeToken_66 (by decide) ?_
            refine va_put (D := G.1) (ci := 4) (v := .int (nI 0)) (ty := .int) (C := RX5) (T := TX5) (N := 7) hx hb hts inA5 tyX5 tyX5_ok nmX5 hown hX.1 hP hD hS 0 rfl rfl 4 (by decide) (hts _ kw_37) (fun _ h9 => h9) rfl (by decide +kernel) rfl rfl (Nat.le_of_ble_eq_true rfl) dX5_takeToken_67 (fun H locs hP hD hS => ?_)
            have hP : va_P G.1 vwCl (txw G td (va_up (va_up (va_up z 2 s9) 3 s9) 4 0) tl) H := hP
            have hD : va_D A (txw G td (va_up (va_up (va_up z 2 s9) 3 s9) 4 0) tl) := hD
            refine lv_goto (tgt := 214) hx hb dX5_takeToken_70 (by decide) ?_
            have hs9 : tS tl (z 1) (z 3) = s9 := hi8.symm.trans (runP_stop c16 (decide_eq_false c30))
            have e7 : tok z tl = va_up (va_up (va_up z 2 s9) 3 s9) 4 0 := by unfold tok; rw [hs9, tE, if_pos c62, tK, if_pos c62]
            have hP : va_P G.1 vwCl (txw G td (tok z tl) tl) H := by rw [e7]; exact hP
            have hD : va_D A (txw G td (tok z tl) tl) := by rw [e7]; exact hD
            exact re_v hx hb hr hlocks hS () hP hD trivial dX5_takeToken_214
        · refine lv_aload_n hx hb dX5_takeToken_33 rfl (lv_at hl 0 rfl) ?_
          refine lv_dup hx hb dX5_takeToken_34 rfl ?_
          refine va_get (D := G.1) (ci := 4) (v := .int (nI s9)) (C := RX5) (T := TX5) (N := 7) hx hb hts inA5 hown hX.1 hP 0 rfl rfl 2 (by decide) (hts _ kw_35) (fun _ h9 => h9) rfl dX5_takeToken_35 ?_
          refine lv_iconst (v := (nI 1)) hx hb dX5_takeToken_38 (by decide) ?_
          refine lv_iadd hx hb dX5_takeToken_39 (ti (y := (nI (s9 + 1))) (nI_add _ _) ?_)
          refine va_put (D := G.1) (ci := 4) (v := .int (nI (s9 + 1))) (ty := .int) (C := RX5) (T := TX5) (N := 7) hx hb hts inA5 tyX5 tyX5_ok nmX5 hown hX.1 hP hD hS 0 rfl rfl 2 (by decide) (hts _ kw_35) (fun _ h9 => h9) rfl (by decide +kernel) rfl rfl (Nat.le_of_ble_eq_true rfl) dX5_takeToken_40 (fun H locs hP hD hS => ?_)
          have hP : va_P G.1 vwCl (txw G td (va_up z 2 (s9 + 1)) tl) H := hP
          have hD : va_D A (txw G td (va_up z 2 (s9 + 1)) tl) := hD
          refine lv_goto (tgt := 8) hx hb dX5_takeToken_43 (by decide) ?_
          exact ih8 (s9 + 1) (by omega) (by omega) ((runP_step c16 (decide_eq_true c30)).symm.trans hi8) _ _ hP hD hS ls (lv_sub hl [0] rfl)
  exact lp8 _ (z 3) (Nat.lt_succ_self _) x3 rfl _ _ hP hD hS ls (lv_sub hl [0] rfl)

theorem hdX5_takeSemicolon : hdOK yX5_takeSemicolon 0 := by decide +kernel
set_option maxHeartbeats 4000000 in
set_option maxRecDepth 100000 in
theorem mX5_takeSemicolon (l : Launch) (G : GG) (td z tl : Nat → Nat) (hZ : XB z tl) : Mi l yX5_takeSemicolon cX5_takeSemicolon 1 (some .boolean) (rmN 2 41) G [.ref (td 0)] (txw G td z tl) (fun (r9 : Int32) (_ : Unit) => r9 = (bI (decide (tok z tl 4 = 3)))) (fun (_ : Unit) => txw G td (tok z tl) tl) := by
  refine Mi.of (cc := cX5_takeSemicolon) (nL := 1) (by decide) (Nat.le_of_ble_eq_true rfl) ?_
  intro p e s m below meth c A ls F hr hlocks hnm hX hA hD hP hS hl
  have F : CallFix p m c cX5_takeSemicolon 1 s [.ref (td 0)].toArray wA RX5 := F
  obtain ⟨hx, hb, hml, hown, hts⟩ := id F
  have hl : lv_has ls 1 [(0, .ref (td 0))] := hl
  obtain ⟨x1, x2, x3, x4, x5, x6, x7⟩ := id hZ
  have y4 := hZ.tok.2.2.2.1
  refine lv_aload_n hx hb dX5_takeSemicolon_0 rfl (lv_at hl 0 rfl) ?_
  refine ca_Vv (ci := 4) (q := (RX5, TX5, 7)) (rest := []) (wr := ([] : va_W)) F hX (mX5_takeToken l G td z tl  hZ) (cA_V hts kw_254 kw_2 kw_251 kw_253 kp_0 hdX5_takeToken ⟨Nat.le_of_ble_eq_true rfl, Nat.le_of_ble_eq_true rfl⟩) rfl rfl rfl hl.1 rfl (Nat.le_of_ble_eq_true rfl) dX5_takeSemicolon_1 ⟨Nat.le_of_ble_eq_true rfl, Nat.le_of_ble_eq_true rfl⟩ hP hD hS hA (pm_nil _) (fun u1 H locs hp1 hP hD hS => ?_)
  have hP : va_P G.1 vwCl (txw G td (tok z tl) tl) H := wp_pm (pm_nil _).symm hP
  have hD : va_D A (txw G td (tok z tl) tl) := wd_pm (pm_nil _).symm hD
  refine lv_aload_n hx hb dX5_takeSemicolon_4 rfl (lv_at hl 0 rfl) ?_
  refine va_get (D := G.1) (ci := 4) (v := .int (nI ((tok z tl) 4))) (C := RX5) (T := TX5) (N := 7) hx hb hts inA5 hown hX.1 hP 0 rfl rfl 4 (by decide) (hts _ kw_37) (fun _ h9 => h9) rfl dX5_takeSemicolon_5 ?_
  refine lv_iconst (v := (nI 3)) hx hb dX5_takeSemicolon_8 (by decide) ?_
  refine nv_ne (x := (tok z tl) 4) (y := 3) (tgt := 16) hx hb dX5_takeSemicolon_9 (by decide) (by omega) (by decide) (fun c9 => ?_) (fun c9 => ?_)
  · refine lv_iconst (v := (nI 0)) hx hb dX5_takeSemicolon_16 (by decide) ?_
    exact re_z (v := (nI 0)) hx hb hr hlocks hS () hP hD (by rw [decide_eq_false c9]; rfl) (by decide) dX5_takeSemicolon_17
  · refine lv_iconst (v := (nI 1)) hx hb dX5_takeSemicolon_12 (by decide) ?_
    refine lv_goto (tgt := 17) hx hb dX5_takeSemicolon_13 (by decide) ?_
    exact re_z (v := (nI 1)) hx hb hr hlocks hS () hP hD (by rw [decide_eq_true c9]; rfl) (by decide) dX5_takeSemicolon_17

theorem hdX5_takeFigure : hdOK yX5_takeFigure 2 := by decide +kernel
set_option maxHeartbeats 4000000 in
set_option maxRecDepth 100000 in
theorem mX5_takeFigure (l : Launch) (G : GG) (td z tl : Nat → Nat) (lo hi : Nat) (hZ : XB z tl) (hlo : lo ≤ 9) (hhi : hi ≤ 9) : Mi l yX5_takeFigure cX5_takeFigure 3 (some .boolean) (rmN 2 41) G [.ref (td 0), .int (nI lo), .int (nI hi)] (txw G td z tl) (fun (r9 : Int32) (_ : Unit) => r9 = (bI (fgB z tl lo hi))) (fun (_ : Unit) => txw G td (fgz z tl) tl) := by
  refine Mi.of (cc := cX5_takeFigure) (nL := 3) (by decide) (Nat.le_of_ble_eq_true rfl) ?_
  intro p e s m below meth c A ls F hr hlocks hnm hX hA hD hP hS hl
  have F : CallFix p m c cX5_takeFigure 3 s [.ref (td 0), .int (nI lo), .int (nI hi)].toArray wA RX5 := F
  obtain ⟨hx, hb, hml, hown, hts⟩ := id F
  have hl : lv_has ls 3 [(0, .ref (td 0)), (1, .int (nI lo)), (2, .int (nI hi))] := hl
  obtain ⟨x1, x2, x3, x4, x5, x6, x7⟩ := id hZ
  obtain ⟨y1, y2, y3, y4, y5, y6, y7⟩ := hZ.tok
  have hle := tok_le hZ
  refine lv_aload_n hx hb dX5_takeFigure_0 rfl (lv_at hl 0 rfl) ?_
  refine ca_Vv (ci := 4) (q := (RX5, TX5, 7)) (rest := []) (wr := ([] : va_W)) F hX (mX5_takeToken l G td z tl  hZ) (cA_V hts kw_254 kw_2 kw_251 kw_253 kp_0 hdX5_takeToken ⟨Nat.le_of_ble_eq_true rfl, Nat.le_of_ble_eq_true rfl⟩) rfl rfl rfl hl.1 rfl (Nat.le_of_ble_eq_true rfl) dX5_takeFigure_1 ⟨Nat.le_of_ble_eq_true rfl, Nat.le_of_ble_eq_true rfl⟩ hP hD hS hA (pm_nil _) (fun u1 H locs hp1 hP hD hS => ?_)
  have hP : va_P G.1 vwCl (txw G td (tok z tl) tl) H := wp_pm (pm_nil _).symm hP
  have hD : va_D A (txw G td (tok z tl) tl) := wd_pm (pm_nil _).symm hD
  refine lv_aload_n hx hb dX5_takeFigure_4 rfl (lv_at hl 0 rfl) ?_
  refine va_get (D := G.1) (ci := 4) (v := .int (nI ((tok z tl) 4))) (C := RX5) (T := TX5) (N := 7) hx hb hts inA5 hown hX.1 hP 0 rfl rfl 4 (by decide) (hts _ kw_37) (fun _ h9 => h9) rfl dX5_takeFigure_5 ?_
  refine lv_iconst (v := (nI 2)) hx hb dX5_takeFigure_8 (by decide) ?_
  refine nv_ne (x := (tok z tl) 4) (y := 2) (tgt := 25) hx hb dX5_takeFigure_9 (by decide) (by omega) (by decide) (fun c9 => ?_) (fun c9 => ?_)
  · refine lv_iconst (v := (nI 0)) hx hb dX5_takeFigure_25 (by decide) ?_
    have e8 : fgO z tl = none := if_neg (fun h => c9 h.1)
    have e7 : fgz z tl = tok z tl := by unfold fgz; rw [e8]
    have hP : va_P G.1 vwCl (txw G td (fgz z tl) tl) H := by rw [e7]; exact hP
    have hD : va_D A (txw G td (fgz z tl) tl) := by rw [e7]; exact hD
    exact re_z (v := (nI 0)) hx hb hr hlocks hS () hP hD (by unfold fgB; rw [e8]; rfl) (by decide) dX5_takeFigure_26
  · refine lv_aload_n hx hb dX5_takeFigure_12 rfl (lv_at hl 0 rfl) ?_
    refine va_get (D := G.1) (ci := 4) (v := .int (nI ((tok z tl) 3))) (C := RX5) (T := TX5) (N := 7) hx hb hts inA5 hown hX.1 hP 0 rfl rfl 3 (by decide) (hts _ kw_36) (fun _ h9 => h9) rfl dX5_takeFigure_13 ?_
    refine lv_aload_n hx hb dX5_takeFigure_16 rfl (lv_at hl 0 rfl) ?_
    refine va_get (D := G.1) (ci := 4) (v := .int (nI ((tok z tl) 2))) (C := RX5) (T := TX5) (N := 7) hx hb hts inA5 hown hX.1 hP 0 rfl rfl 2 (by decide) (hts _ kw_35) (fun _ h9 => h9) rfl dX5_takeFigure_17 ?_
    refine lv_isub hx hb dX5_takeFigure_20 (ti (y := (nI (((tok z tl) 3) - ((tok z tl) 2)))) (pk_sub hle.1) ?_)
    refine lv_iconst (v := (nI 1)) hx hb dX5_takeFigure_21 (by decide) ?_
    refine nv_eq (x := ((tok z tl) 3) - ((tok z tl) 2)) (y := 1) (tgt := 27) hx hb dX5_takeFigure_22 (by decide) (by omega) (by decide) (fun c22 => ?_) (fun c22 => ?_)
    · refine lv_aload_n hx hb dX5_takeFigure_27 rfl (lv_at hl 0 rfl) ?_
      refine lv_aload_n hx hb dX5_takeFigure_28 rfl (lv_at hl 0 rfl) ?_
      refine va_get (D := G.1) (ci := 4) (v := .ref (td 1)) (C := RX5) (T := TX5) (N := 7) hx hb hts inA5 hown hX.1 hP 0 rfl rfl 0 (by decide) (hts _ kw_32) (fun _ h9 => h9) rfl dX5_takeFigure_29 ?_
      refine lv_aload_n hx hb dX5_takeFigure_32 rfl (lv_at hl 0 rfl) ?_
      refine va_get (D := G.1) (ci := 4) (v := .int (nI ((tok z tl) 2))) (C := RX5) (T := TX5) (N := 7) hx hb hts inA5 hown hX.1 hP 0 rfl rfl 2 (by decide) (hts _ kw_35) (fun _ h9 => h9) rfl dX5_takeFigure_33 ?_
      refine nv_ald (f := tl) (k := (tok z tl) 2) hx hb hX hP 1 rfl (by have := tok_lt (z := z) (tl := tl) (by omega); omega) (by decide) dX5_takeFigure_36 ?_
      refine lv_bipush (v := (nI 48)) hx hb dX5_takeFigure_37 (by decide) ?_
      refine lv_isub hx hb dX5_takeFigure_39 (ti (y := (nI ((tl ((tok z tl) 2)) - 48))) (pk_sub (tok_dig c9).1) ?_)
      refine va_put (D := G.1) (ci := 4) (v := .int (nI ((tl ((tok z tl) 2)) - 48))) (ty := .int) (C := RX5) (T := TX5) (N := 7) hx hb hts inA5 tyX5 tyX5_ok nmX5 hown hX.1 hP hD hS 0 rfl rfl 5 (by decide) (hts _ kw_38) (fun _ h9 => h9) rfl (by decide +kernel) rfl rfl (Nat.le_of_ble_eq_true rfl) dX5_takeFigure_40 (fun H locs hP hD hS => ?_)
      have hP : va_P G.1 vwCl (txw G td (va_up (tok z tl) 5 ((tl ((tok z tl) 2)) - 48)) tl) H := hP
      have hD : va_D A (txw G td (va_up (tok z tl) 5 ((tl ((tok z tl) 2)) - 48)) tl) := hD
      refine lv_aload_n hx hb dX5_takeFigure_43 rfl (lv_at hl 0 rfl) ?_
      refine va_get (D := G.1) (ci := 4) (v := .int (nI ((tl ((tok z tl) 2)) - 48))) (C := RX5) (T := TX5) (N := 7) hx hb hts inA5 hown hX.1 hP 0 rfl rfl 5 (by decide) (hts _ kw_38) (fun _ h9 => h9) rfl dX5_takeFigure_44 ?_
      refine lv_iload_n hx hb dX5_takeFigure_47 rfl (lv_at hl 1 rfl) ?_
      refine nv_lt (x := (tl ((tok z tl) 2)) - 48) (y := lo) (tgt := 63) hx hb dX5_takeFigure_48 (by decide) (by have := x7 (tok z tl 2); omega) (by omega) (fun c48 => ?_) (fun c48 => ?_)
      · refine lv_iconst (v := (nI 0)) hx hb dX5_takeFigure_63 (by decide) ?_
        have e8 : fgO z tl = some (tl (tok z tl 2) - 48) := if_pos ⟨c9, c22⟩
        have e7 : fgz z tl = va_up (tok z tl) 5 ((tl ((tok z tl) 2)) - 48) := by unfold fgz; rw [e8]
        have hP : va_P G.1 vwCl (txw G td (fgz z tl) tl) H := by rw [e7]; exact hP
        have hD : va_D A (txw G td (fgz z tl) tl) := by rw [e7]; exact hD
        exact re_z (v := (nI 0)) hx hb hr hlocks hS () hP hD (by unfold fgB; rw [e8]; dsimp only; rw [decide_eq_false (by omega)]; rfl) (by decide) dX5_takeFigure_64
      · refine lv_aload_n hx hb dX5_takeFigure_51 rfl (lv_at hl 0 rfl) ?_
        refine va_get (D := G.1) (ci := 4) (v := .int (nI ((tl ((tok z tl) 2)) - 48))) (C := RX5) (T := TX5) (N := 7) hx hb hts inA5 hown hX.1 hP 0 rfl rfl 5 (by decide) (hts _ kw_38) (fun _ h9 => h9) rfl dX5_takeFigure_52 ?_
        refine lv_iload_n hx hb dX5_takeFigure_55 rfl (lv_at hl 2 rfl) ?_
        refine nv_gt (x := (tl ((tok z tl) 2)) - 48) (y := hi) (tgt := 63) hx hb dX5_takeFigure_56 (by decide) (by have := x7 (tok z tl 2); omega) (by omega) (fun c56 => ?_) (fun c56 => ?_)
        · refine lv_iconst (v := (nI 0)) hx hb dX5_takeFigure_63 (by decide) ?_
          have e8 : fgO z tl = some (tl (tok z tl 2) - 48) := if_pos ⟨c9, c22⟩
          have e7 : fgz z tl = va_up (tok z tl) 5 ((tl ((tok z tl) 2)) - 48) := by unfold fgz; rw [e8]
          have hP : va_P G.1 vwCl (txw G td (fgz z tl) tl) H := by rw [e7]; exact hP
          have hD : va_D A (txw G td (fgz z tl) tl) := by rw [e7]; exact hD
          exact re_z (v := (nI 0)) hx hb hr hlocks hS () hP hD (by unfold fgB; rw [e8]; dsimp only; rw [decide_eq_false (by omega)]; rfl) (by decide) dX5_takeFigure_64
        · refine lv_iconst (v := (nI 1)) hx hb dX5_takeFigure_59 (by decide) ?_
          refine lv_goto (tgt := 64) hx hb dX5_takeFigure_60 (by decide) ?_
          have e8 : fgO z tl = some (tl (tok z tl 2) - 48) := if_pos ⟨c9, c22⟩
          have e7 : fgz z tl = va_up (tok z tl) 5 ((tl ((tok z tl) 2)) - 48) := by unfold fgz; rw [e8]
          have hP : va_P G.1 vwCl (txw G td (fgz z tl) tl) H := by rw [e7]; exact hP
          have hD : va_D A (txw G td (fgz z tl) tl) := by rw [e7]; exact hD
          exact re_z (v := (nI 1)) hx hb hr hlocks hS () hP hD (by unfold fgB; rw [e8]; dsimp only; rw [decide_eq_true (by omega)]; rfl) (by decide) dX5_takeFigure_64
    · refine lv_iconst (v := (nI 0)) hx hb dX5_takeFigure_25 (by decide) ?_
      have e8 : fgO z tl = none := if_neg (fun h => c22 h.2)
      have e7 : fgz z tl = tok z tl := by unfold fgz; rw [e8]
      have hP : va_P G.1 vwCl (txw G td (fgz z tl) tl) H := by rw [e7]; exact hP
      have hD : va_D A (txw G td (fgz z tl) tl) := by rw [e7]; exact hD
      exact re_z (v := (nI 0)) hx hb hr hlocks hS () hP hD (by unfold fgB; rw [e8]; rfl) (by decide) dX5_takeFigure_26

theorem hdX4_addLink : hdOK yX4_addLink 3 := by decide +kernel
set_option maxHeartbeats 4000000 in
set_option maxRecDepth 100000 in
theorem mX4_addLink (l : Launch) (G : GG) (ad : Nat → Nat) (a : Nat → Nat) (r : Nat → Nat → Nat) (x y co : Nat) (h3 : a 3 < 12) : Mv l yX4_addLink cX4_addLink 4 none (rmN 0 0) G [.ref (ad 0), .int (nI x), .int (nI y), .int (nI co)] (tkw G ad a r) (fun (_ : Unit) => True) (fun (_ : Unit) => tkw G ad (va_up a 3 (a 3 + 1)) (adR a r x y co)) := by
  refine Mv.of (cc := cX4_addLink) (nL := 4) (by decide) (Nat.le_of_ble_eq_true rfl) ?_
  intro p e s m below meth c A ls F hr hlocks hnm hX hA hD hP hS hl
  have F : CallFix p m c cX4_addLink 4 s [.ref (ad 0), .int (nI x), .int (nI y), .int (nI co)].toArray wA RX4 := F
  obtain ⟨hx, hb, hml, hown, hts⟩ := id F
  have hl : lv_has ls 4 [(0, .ref (ad 0)), (1, .int (nI x)), (2, .int (nI y)), (3, .int (nI co))] := hl
  refine lv_aload_n hx hb dX4_addLink_0 rfl (lv_at hl 0 rfl) ?_
  refine va_get (D := G.1) (ci := 3) (v := .int (nI (a 3))) (C := RX4) (T := TX4) (N := 12) hx hb hts inA4 hown hX.1 hP 0 rfl rfl 3 (by decide) (hts _ kw_76) (fun _ h9 => h9) rfl dX4_addLink_1 ?_
  refine lv_bipush (v := (nI 12)) hx hb dX4_addLink_4 (by decide) ?_
  refine nv_ge (x := a 3) (y := 12) (tgt := 49) hx hb dX4_addLink_6 (by decide) (by omega) (by decide) (fun c6 => ?_) (fun c6 => ?_)
  · exact absurd c6 (by omega)
  · refine lv_aload_n hx hb dX4_addLink_9 rfl (lv_at hl 0 rfl) ?_
    refine va_get (D := G.1) (ci := 3) (v := .ref (ad 1)) (C := RX4) (T := TX4) (N := 12) hx hb hts inA4 hown hX.1 hP 0 rfl rfl 4 (by decide) (hts _ kw_82) (fun _ h9 => h9) rfl dX4_addLink_10 ?_
    refine lv_aload_n hx hb dX4_addLink_13 rfl (lv_at hl 0 rfl) ?_
    refine va_get (D := G.1) (ci := 3) (v := .int (nI (a 3))) (C := RX4) (T := TX4) (N := 12) hx hb hts inA4 hown hX.1 hP 0 rfl rfl 3 (by decide) (hts _ kw_76) (fun _ h9 => h9) rfl dX4_addLink_14 ?_
    refine lv_iload_n hx hb dX4_addLink_17 rfl (lv_at hl 1 rfl) ?_
    refine nv_ast (f := r 0) (k := a 3) (v := x) hx hb hX hP hD hS 1 rfl (by omega) (by decide) dX4_addLink_18 (fun H locs hP hD hS => ?_)
    have hP : va_P G.1 vwCl (tkw G ad a (va_up r 0 (va_up (r 0) (a 3) x))) H := hP
    have hD : va_D A (tkw G ad a (va_up r 0 (va_up (r 0) (a 3) x))) := hD
    refine lv_aload_n hx hb dX4_addLink_19 rfl (lv_at hl 0 rfl) ?_
    refine va_get (D := G.1) (ci := 3) (v := .ref (ad 2)) (C := RX4) (T := TX4) (N := 12) hx hb hts inA4 hown hX.1 hP 0 rfl rfl 5 (by decide) (hts _ kw_85) (fun _ h9 => h9) rfl dX4_addLink_20 ?_
    refine lv_aload_n hx hb dX4_addLink_23 rfl (lv_at hl 0 rfl) ?_
    refine va_get (D := G.1) (ci := 3) (v := .int (nI (a 3))) (C := RX4) (T := TX4) (N := 12) hx hb hts inA4 hown hX.1 hP 0 rfl rfl 3 (by decide) (hts _ kw_76) (fun _ h9 => h9) rfl dX4_addLink_24 ?_
    refine lv_iload_n hx hb dX4_addLink_27 rfl (lv_at hl 2 rfl) ?_
    refine nv_ast (f := r 1) (k := a 3) (v := y) hx hb hX hP hD hS 2 rfl (by omega) (by decide) dX4_addLink_28 (fun H locs hP hD hS => ?_)
    have hP : va_P G.1 vwCl (tkw G ad a (va_up (va_up r 0 (va_up (r 0) (a 3) x)) 1 (va_up (r 1) (a 3) y))) H := hP
    have hD : va_D A (tkw G ad a (va_up (va_up r 0 (va_up (r 0) (a 3) x)) 1 (va_up (r 1) (a 3) y))) := hD
    refine lv_aload_n hx hb dX4_addLink_29 rfl (lv_at hl 0 rfl) ?_
    refine va_get (D := G.1) (ci := 3) (v := .ref (ad 3)) (C := RX4) (T := TX4) (N := 12) hx hb hts inA4 hown hX.1 hP 0 rfl rfl 6 (by decide) (hts _ kw_88) (fun _ h9 => h9) rfl dX4_addLink_30 ?_
    refine lv_aload_n hx hb dX4_addLink_33 rfl (lv_at hl 0 rfl) ?_
    refine va_get (D := G.1) (ci := 3) (v := .int (nI (a 3))) (C := RX4) (T := TX4) (N := 12) hx hb hts inA4 hown hX.1 hP 0 rfl rfl 3 (by decide) (hts _ kw_76) (fun _ h9 => h9) rfl dX4_addLink_34 ?_
    refine lv_iload_n hx hb dX4_addLink_37 rfl (lv_at hl 3 rfl) ?_
    refine nv_ast (f := r 2) (k := a 3) (v := co) hx hb hX hP hD hS 3 rfl (by omega) (by decide) dX4_addLink_38 (fun H locs hP hD hS => ?_)
    have hP : va_P G.1 vwCl (tkw G ad a (va_up (va_up (va_up r 0 (va_up (r 0) (a 3) x)) 1 (va_up (r 1) (a 3) y)) 2 (va_up (r 2) (a 3) co))) H := hP
    have hD : va_D A (tkw G ad a (va_up (va_up (va_up r 0 (va_up (r 0) (a 3) x)) 1 (va_up (r 1) (a 3) y)) 2 (va_up (r 2) (a 3) co))) := hD
    refine lv_aload_n hx hb dX4_addLink_39 rfl (lv_at hl 0 rfl) ?_
    refine lv_dup hx hb dX4_addLink_40 rfl ?_
    refine va_get (D := G.1) (ci := 3) (v := .int (nI (a 3))) (C := RX4) (T := TX4) (N := 12) hx hb hts inA4 hown hX.1 hP 0 rfl rfl 3 (by decide) (hts _ kw_76) (fun _ h9 => h9) rfl dX4_addLink_41 ?_
    refine lv_iconst (v := (nI 1)) hx hb dX4_addLink_44 (by decide) ?_
    refine lv_iadd hx hb dX4_addLink_45 (ti (y := (nI ((a 3) + 1))) (nI_add _ _) ?_)
    refine va_put (D := G.1) (ci := 3) (v := .int (nI ((a 3) + 1))) (ty := .int) (C := RX4) (T := TX4) (N := 12) hx hb hts inA4 tyX4 tyX4_ok nmX4 hown hX.1 hP hD hS 0 rfl rfl 3 (by decide) (hts _ kw_76) (fun _ h9 => h9) rfl (by decide +kernel) rfl rfl (Nat.le_of_ble_eq_true rfl) dX4_addLink_46 (fun H locs hP hD hS => ?_)
    have hP : va_P G.1 vwCl (tkw G ad (va_up a 3 ((a 3) + 1)) (va_up (va_up (va_up r 0 (va_up (r 0) (a 3) x)) 1 (va_up (r 1) (a 3) y)) 2 (va_up (r 2) (a 3) co))) H := hP
    have hD : va_D A (tkw G ad (va_up a 3 ((a 3) + 1)) (va_up (va_up (va_up r 0 (va_up (r 0) (a 3) x)) 1 (va_up (r 1) (a 3) y)) 2 (va_up (r 2) (a 3) co))) := hD
    exact re_v hx hb hr hlocks hS () hP hD trivial dX4_addLink_49

theorem hdX5_readNodes : hdOK yX5_readNodes 1 := by decide +kernel
set_option maxHeartbeats 4000000 in
set_option maxRecDepth 100000 in
theorem mX5_readNodes (l : Launch) (G : GG) (td z tl : Nat → Nat) (ad : Nat → Nat) (a : Nat → Nat) (r : Nat → Nat → Nat) (hZ : XB z tl) : Mi l yX5_readNodes cX5_readNodes 2 (some .boolean) (rmN 3 63) G [.ref (td 0), .ref (ad 0)] (txw G td z tl ++ (tkw G ad a r)) (fun (r9 : Int32) (_ : Unit) => r9 = (bI ((ndP z a tl).1))) (fun (_ : Unit) => txw G td (ndP z a tl).2.1 tl ++ (tkw G ad (ndP z a tl).2.2 r)) := by
  refine Mi.of (cc := cX5_readNodes) (nL := 2) (by decide) (Nat.le_of_ble_eq_true rfl) ?_
  intro p e s m below meth c A ls F hr hlocks hnm hX hA hD hP hS hl
  have F : CallFix p m c cX5_readNodes 2 s [.ref (td 0), .ref (ad 0)].toArray wA RX5 := F
  obtain ⟨hx, hb, hml, hown, hts⟩ := id F
  have hl : lv_has ls 2 [(0, .ref (td 0)), (1, .ref (ad 0))] := hl
  obtain ⟨x1, x2, x3, x4, x5, x6, x7⟩ := id hZ
  refine lv_aload_n hx hb dX5_readNodes_0 rfl (lv_at hl 0 rfl) ?_
  refine lv_iconst (v := (nI 2)) hx hb dX5_readNodes_1 (by decide) ?_
  refine lv_bipush (v := (nI 7)) hx hb dX5_readNodes_2 (by decide) ?_
  refine ca_Vi (ci := 4) (q := (RX5, TX5, 7)) (rest := []) (wr := tkw G ad a r) F hX (mX5_takeFigure l G td z tl 2 7 hZ (by decide) (by decide)) (cA_V hts kw_327 kw_2 kw_324 kw_326 kp_6 hdX5_takeFigure ⟨Nat.le_of_ble_eq_true rfl, Nat.le_of_ble_eq_true rfl⟩) rfl rfl rfl hl.1 rfl (Nat.le_of_ble_eq_true rfl) dX5_readNodes_4 ⟨Nat.le_of_ble_eq_true rfl, Nat.le_of_ble_eq_true rfl⟩ hP hD hS hA (List.Perm.refl _) (fun r4 u4 H locs hp4 hP hD hS => ?_)
  have hP : va_P G.1 vwCl (txw G td (fgz z tl) tl ++ (tkw G ad a r)) H := wp_pm (List.Perm.refl _).symm hP
  have hD : va_D A (txw G td (fgz z tl) tl ++ (tkw G ad a r)) := wd_pm (List.Perm.refl _).symm hD
  subst hp4
  refine bv_ne (b := fgB z tl 2 7) (tgt := 12) hx hb dX5_readNodes_7 (by decide) (fun c7 => ?_) (fun c7 => ?_)
  · refine lv_aload_n hx hb dX5_readNodes_12 rfl (lv_at hl 1 rfl) ?_
    refine lv_aload_n hx hb dX5_readNodes_13 rfl (lv_at hl 0 rfl) ?_
    refine va_get (D := G.1) (ci := 4) (v := .int (nI ((fgz z tl) 5))) (C := RX5) (T := TX5) (N := 7) hx hb hts inA5 hown hX.1 hP 0 rfl rfl 5 (by decide) (hts _ kw_38) (fun _ h9 => h9) rfl dX5_readNodes_14 ?_
    refine va_put (D := G.1) (ci := 3) (v := .int (nI ((fgz z tl) 5))) (ty := .int) (C := RX4) (T := TX4) (N := 12) hx hb hts inA4 tyX4 tyX4_ok nmX4 hown hX.1 hP hD hS 2 rfl rfl 0 (by decide) (hts _ kw_66) (fun _ h9 => h9) rfl (by decide +kernel) rfl rfl (Nat.le_of_ble_eq_true rfl) dX5_readNodes_17 (fun H locs hP hD hS => ?_)
    have hP : va_P G.1 vwCl (txw G td (fgz z tl) tl ++ (tkw G ad (va_up a 0 ((fgz z tl) 5)) r)) H := hP
    have hD : va_D A (txw G td (fgz z tl) tl ++ (tkw G ad (va_up a 0 ((fgz z tl) 5)) r)) := hD
    refine lv_iconst (v := (nI 1)) hx hb dX5_readNodes_20 (by decide) ?_
    have e7 : ndP z a tl = (true, fgz z tl, va_up a 0 ((fgz z tl) 5)) := by unfold ndP; rw [if_pos c7]
    have hP : va_P G.1 vwCl (txw G td (ndP z a tl).2.1 tl ++ (tkw G ad (ndP z a tl).2.2 r)) H := by rw [e7]; exact hP
    have hD : va_D A (txw G td (ndP z a tl).2.1 tl ++ (tkw G ad (ndP z a tl).2.2 r)) := by rw [e7]; exact hD
    exact re_z (v := (nI 1)) hx hb hr hlocks hS () hP hD (by rw [e7]; rfl) (by decide) dX5_readNodes_21
  · refine lv_iconst (v := (nI 0)) hx hb dX5_readNodes_10 (by decide) ?_
    have e7 : ndP z a tl = (false, fgz z tl, a) := by unfold ndP; rw [if_neg (by rw [c7]; decide)]
    have hP : va_P G.1 vwCl (txw G td (ndP z a tl).2.1 tl ++ (tkw G ad (ndP z a tl).2.2 r)) H := by rw [e7]; exact hP
    have hD : va_D A (txw G td (ndP z a tl).2.1 tl ++ (tkw G ad (ndP z a tl).2.2 r)) := by rw [e7]; exact hD
    exact re_z (v := (nI 0)) hx hb hr hlocks hS () hP hD (by rw [e7]; rfl) (by decide) dX5_readNodes_11

theorem hdX5_readSource : hdOK yX5_readSource 1 := by decide +kernel
set_option maxHeartbeats 4000000 in
set_option maxRecDepth 100000 in
theorem mX5_readSource (l : Launch) (G : GG) (td z tl : Nat → Nat) (ad : Nat → Nat) (a : Nat → Nat) (r : Nat → Nat → Nat) (hZ : XB z tl) (h0 : 1 ≤ a 0) (h07 : a 0 ≤ 7) : Mi l yX5_readSource cX5_readSource 2 (some .boolean) (rmN 3 63) G [.ref (td 0), .ref (ad 0)] (txw G td z tl ++ (tkw G ad a r)) (fun (r9 : Int32) (_ : Unit) => r9 = (bI ((srP z a tl).1))) (fun (_ : Unit) => txw G td (srP z a tl).2.1 tl ++ (tkw G ad (srP z a tl).2.2 r)) := by
  refine Mi.of (cc := cX5_readSource) (nL := 2) (by decide) (Nat.le_of_ble_eq_true rfl) ?_
  intro p e s m below meth c A ls F hr hlocks hnm hX hA hD hP hS hl
  have F : CallFix p m c cX5_readSource 2 s [.ref (td 0), .ref (ad 0)].toArray wA RX5 := F
  obtain ⟨hx, hb, hml, hown, hts⟩ := id F
  have hl : lv_has ls 2 [(0, .ref (td 0)), (1, .ref (ad 0))] := hl
  obtain ⟨x1, x2, x3, x4, x5, x6, x7⟩ := id hZ
  refine lv_aload_n hx hb dX5_readSource_0 rfl (lv_at hl 0 rfl) ?_
  refine lv_iconst (v := (nI 0)) hx hb dX5_readSource_1 (by decide) ?_
  refine lv_aload_n hx hb dX5_readSource_2 rfl (lv_at hl 1 rfl) ?_
  refine va_get (D := G.1) (ci := 3) (v := .int (nI (a 0))) (C := RX4) (T := TX4) (N := 12) hx hb hts inA4 hown hX.1 hP 2 rfl rfl 0 (by decide) (hts _ kw_66) (fun _ h9 => h9) rfl dX5_readSource_3 ?_
  refine lv_iconst (v := (nI 1)) hx hb dX5_readSource_6 (by decide) ?_
  refine lv_isub hx hb dX5_readSource_7 (ti (y := (nI ((a 0) - 1))) (pk_sub (by omega)) ?_)
  refine ca_Vi (ci := 4) (q := (RX5, TX5, 7)) (rest := []) (wr := tkw G ad a r) F hX (mX5_takeFigure l G td z tl 0 ((a 0) - 1) hZ (by decide) (by omega)) (cA_V hts kw_327 kw_2 kw_324 kw_326 kp_6 hdX5_takeFigure ⟨Nat.le_of_ble_eq_true rfl, Nat.le_of_ble_eq_true rfl⟩) rfl rfl rfl hl.1 rfl (Nat.le_of_ble_eq_true rfl) dX5_readSource_8 ⟨Nat.le_of_ble_eq_true rfl, Nat.le_of_ble_eq_true rfl⟩ hP hD hS hA (List.Perm.refl _) (fun r8 u8 H locs hp8 hP hD hS => ?_)
  have hP : va_P G.1 vwCl (txw G td (fgz z tl) tl ++ (tkw G ad a r)) H := wp_pm (List.Perm.refl _).symm hP
  have hD : va_D A (txw G td (fgz z tl) tl ++ (tkw G ad a r)) := wd_pm (List.Perm.refl _).symm hD
  subst hp8
  refine bv_ne (b := fgB z tl 0 ((a 0) - 1)) (tgt := 16) hx hb dX5_readSource_11 (by decide) (fun c11 => ?_) (fun c11 => ?_)
  · refine lv_aload_n hx hb dX5_readSource_16 rfl (lv_at hl 1 rfl) ?_
    refine lv_aload_n hx hb dX5_readSource_17 rfl (lv_at hl 0 rfl) ?_
    refine va_get (D := G.1) (ci := 4) (v := .int (nI ((fgz z tl) 5))) (C := RX5) (T := TX5) (N := 7) hx hb hts inA5 hown hX.1 hP 0 rfl rfl 5 (by decide) (hts _ kw_38) (fun _ h9 => h9) rfl dX5_readSource_18 ?_
    refine va_put (D := G.1) (ci := 3) (v := .int (nI ((fgz z tl) 5))) (ty := .int) (C := RX4) (T := TX4) (N := 12) hx hb hts inA4 tyX4 tyX4_ok nmX4 hown hX.1 hP hD hS 2 rfl rfl 1 (by decide) (hts _ kw_70) (fun _ h9 => h9) rfl (by decide +kernel) rfl rfl (Nat.le_of_ble_eq_true rfl) dX5_readSource_21 (fun H locs hP hD hS => ?_)
    have hP : va_P G.1 vwCl (txw G td (fgz z tl) tl ++ (tkw G ad (va_up a 1 ((fgz z tl) 5)) r)) H := hP
    have hD : va_D A (txw G td (fgz z tl) tl ++ (tkw G ad (va_up a 1 ((fgz z tl) 5)) r)) := hD
    refine lv_aload_n hx hb dX5_readSource_24 rfl (lv_at hl 0 rfl) ?_
    refine lv_iconst (v := (nI 1)) hx hb dX5_readSource_25 (by decide) ?_
    refine va_put (D := G.1) (ci := 4) (v := .int (nI 1)) (ty := .boolean) (C := RX5) (T := TX5) (N := 7) hx hb hts inA5 tyX5 tyX5_ok nmX5 hown hX.1 hP hD hS 0 rfl rfl 6 (by decide) (hts _ kw_39) (fun _ h9 => h9) rfl (by decide +kernel) (by decide) (by decide) (Nat.le_of_ble_eq_true rfl) dX5_readSource_26 (fun H locs hP hD hS => ?_)
    have hP : va_P G.1 vwCl (txw G td (va_up (fgz z tl) 6 1) tl ++ (tkw G ad (va_up a 1 ((fgz z tl) 5)) r)) H := hP
    have hD : va_D A (txw G td (va_up (fgz z tl) 6 1) tl ++ (tkw G ad (va_up a 1 ((fgz z tl) 5)) r)) := hD
    refine lv_iconst (v := (nI 1)) hx hb dX5_readSource_29 (by decide) ?_
    have e7 : srP z a tl = (true, va_up (fgz z tl) 6 1, va_up a 1 ((fgz z tl) 5)) := by unfold srP; rw [if_pos c11]
    have hP : va_P G.1 vwCl (txw G td (srP z a tl).2.1 tl ++ (tkw G ad (srP z a tl).2.2 r)) H := by rw [e7]; exact hP
    have hD : va_D A (txw G td (srP z a tl).2.1 tl ++ (tkw G ad (srP z a tl).2.2 r)) := by rw [e7]; exact hD
    exact re_z (v := (nI 1)) hx hb hr hlocks hS () hP hD (by rw [e7]; rfl) (by decide) dX5_readSource_30
  · refine lv_iconst (v := (nI 0)) hx hb dX5_readSource_14 (by decide) ?_
    have e7 : srP z a tl = (false, fgz z tl, a) := by unfold srP; rw [if_neg (by rw [c11]; decide)]
    have hP : va_P G.1 vwCl (txw G td (srP z a tl).2.1 tl ++ (tkw G ad (srP z a tl).2.2 r)) H := by rw [e7]; exact hP
    have hD : va_D A (txw G td (srP z a tl).2.1 tl ++ (tkw G ad (srP z a tl).2.2 r)) := by rw [e7]; exact hD
    exact re_z (v := (nI 0)) hx hb hr hlocks hS () hP hD (by rw [e7]; rfl) (by decide) dX5_readSource_15

theorem hdX5_readLimit : hdOK yX5_readLimit 1 := by decide +kernel
set_option maxHeartbeats 4000000 in
set_option maxRecDepth 100000 in
theorem mX5_readLimit (l : Launch) (G : GG) (td z tl : Nat → Nat) (ad : Nat → Nat) (a : Nat → Nat) (r : Nat → Nat → Nat) (hZ : XB z tl) : Mi l yX5_readLimit cX5_readLimit 2 (some .boolean) (rmN 3 63) G [.ref (td 0), .ref (ad 0)] (txw G td z tl ++ (tkw G ad a r)) (fun (r9 : Int32) (_ : Unit) => r9 = (bI ((lmP z a tl).1))) (fun (_ : Unit) => txw G td (lmP z a tl).2.1 tl ++ (tkw G ad (lmP z a tl).2.2 r)) := by
  refine Mi.of (cc := cX5_readLimit) (nL := 2) (by decide) (Nat.le_of_ble_eq_true rfl) ?_
  intro p e s m below meth c A ls F hr hlocks hnm hX hA hD hP hS hl
  have F : CallFix p m c cX5_readLimit 2 s [.ref (td 0), .ref (ad 0)].toArray wA RX5 := F
  obtain ⟨hx, hb, hml, hown, hts⟩ := id F
  have hl : lv_has ls 2 [(0, .ref (td 0)), (1, .ref (ad 0))] := hl
  obtain ⟨x1, x2, x3, x4, x5, x6, x7⟩ := id hZ
  refine lv_aload_n hx hb dX5_readLimit_0 rfl (lv_at hl 0 rfl) ?_
  refine lv_iconst (v := (nI 0)) hx hb dX5_readLimit_1 (by decide) ?_
  refine lv_bipush (v := (nI 9)) hx hb dX5_readLimit_2 (by decide) ?_
  refine ca_Vi (ci := 4) (q := (RX5, TX5, 7)) (rest := []) (wr := tkw G ad a r) F hX (mX5_takeFigure l G td z tl 0 9 hZ (by decide) (by decide)) (cA_V hts kw_327 kw_2 kw_324 kw_326 kp_6 hdX5_takeFigure ⟨Nat.le_of_ble_eq_true rfl, Nat.le_of_ble_eq_true rfl⟩) rfl rfl rfl hl.1 rfl (Nat.le_of_ble_eq_true rfl) dX5_readLimit_4 ⟨Nat.le_of_ble_eq_true rfl, Nat.le_of_ble_eq_true rfl⟩ hP hD hS hA (List.Perm.refl _) (fun r4 u4 H locs hp4 hP hD hS => ?_)
  have hP : va_P G.1 vwCl (txw G td (fgz z tl) tl ++ (tkw G ad a r)) H := wp_pm (List.Perm.refl _).symm hP
  have hD : va_D A (txw G td (fgz z tl) tl ++ (tkw G ad a r)) := wd_pm (List.Perm.refl _).symm hD
  subst hp4
  refine bv_ne (b := fgB z tl 0 9) (tgt := 12) hx hb dX5_readLimit_7 (by decide) (fun c7 => ?_) (fun c7 => ?_)
  · refine lv_aload_n hx hb dX5_readLimit_12 rfl (lv_at hl 1 rfl) ?_
    refine lv_aload_n hx hb dX5_readLimit_13 rfl (lv_at hl 0 rfl) ?_
    refine va_get (D := G.1) (ci := 4) (v := .int (nI ((fgz z tl) 5))) (C := RX5) (T := TX5) (N := 7) hx hb hts inA5 hown hX.1 hP 0 rfl rfl 5 (by decide) (hts _ kw_38) (fun _ h9 => h9) rfl dX5_readLimit_14 ?_
    refine va_put (D := G.1) (ci := 3) (v := .int (nI ((fgz z tl) 5))) (ty := .int) (C := RX4) (T := TX4) (N := 12) hx hb hts inA4 tyX4 tyX4_ok nmX4 hown hX.1 hP hD hS 2 rfl rfl 2 (by decide) (hts _ kw_74) (fun _ h9 => h9) rfl (by decide +kernel) rfl rfl (Nat.le_of_ble_eq_true rfl) dX5_readLimit_17 (fun H locs hP hD hS => ?_)
    have hP : va_P G.1 vwCl (txw G td (fgz z tl) tl ++ (tkw G ad (va_up a 2 ((fgz z tl) 5)) r)) H := hP
    have hD : va_D A (txw G td (fgz z tl) tl ++ (tkw G ad (va_up a 2 ((fgz z tl) 5)) r)) := hD
    refine lv_iconst (v := (nI 1)) hx hb dX5_readLimit_20 (by decide) ?_
    have e7 : lmP z a tl = (true, fgz z tl, va_up a 2 ((fgz z tl) 5)) := by unfold lmP; rw [if_pos c7]
    have hP : va_P G.1 vwCl (txw G td (lmP z a tl).2.1 tl ++ (tkw G ad (lmP z a tl).2.2 r)) H := by rw [e7]; exact hP
    have hD : va_D A (txw G td (lmP z a tl).2.1 tl ++ (tkw G ad (lmP z a tl).2.2 r)) := by rw [e7]; exact hD
    exact re_z (v := (nI 1)) hx hb hr hlocks hS () hP hD (by rw [e7]; rfl) (by decide) dX5_readLimit_21
  · refine lv_iconst (v := (nI 0)) hx hb dX5_readLimit_10 (by decide) ?_
    have e7 : lmP z a tl = (false, fgz z tl, a) := by unfold lmP; rw [if_neg (by rw [c7]; decide)]
    have hP : va_P G.1 vwCl (txw G td (lmP z a tl).2.1 tl ++ (tkw G ad (lmP z a tl).2.2 r)) H := by rw [e7]; exact hP
    have hD : va_D A (txw G td (lmP z a tl).2.1 tl ++ (tkw G ad (lmP z a tl).2.2 r)) := by rw [e7]; exact hD
    exact re_z (v := (nI 0)) hx hb hr hlocks hS () hP hD (by rw [e7]; rfl) (by decide) dX5_readLimit_11

theorem hdX5_readLink : hdOK yX5_readLink 1 := by decide +kernel
set_option maxHeartbeats 4000000 in
set_option maxRecDepth 100000 in
theorem mX5_readLink (l : Launch) (G : GG) (td z tl : Nat → Nat) (ad : Nat → Nat) (a : Nat → Nat) (r : Nat → Nat → Nat) (hZ : XB z tl) (hT : TB a r) (h3 : a 3 < 12) : Mi l yX5_readLink cX5_readLink 4 (some .boolean) (rmN 3 66) G [.ref (td 0), .ref (ad 0)] (txw G td z tl ++ (tkw G ad a r)) (fun (r9 : Int32) (_ : Unit) => r9 = (bI ((lkP z a r tl).1))) (fun (_ : Unit) => txw G td (lkP z a r tl).2.1 tl ++ (tkw G ad (lkP z a r tl).2.2.1 (lkP z a r tl).2.2.2)) := by
  refine Mi.of (cc := cX5_readLink) (nL := 4) (by decide) (Nat.le_of_ble_eq_true rfl) ?_
  intro p e s m below meth c A ls F hr hlocks hnm hX hA hD hP hS hl
  have F : CallFix p m c cX5_readLink 4 s [.ref (td 0), .ref (ad 0)].toArray wA RX5 := F
  obtain ⟨hx, hb, hml, hown, hts⟩ := id F
  have hl : lv_has ls 4 [(0, .ref (td 0)), (1, .ref (ad 0))] := hl
  obtain ⟨x1, x2, x3, x4, x5, x6, x7⟩ := id hZ
  obtain ⟨t0, t1, t2, t3, t4, t5, t6, t7, t8, t9, t10, t11, t12⟩ := id hT
  have hZ1 := hZ.fg
  have hZ2 := hZ1.fg
  have f1 := hZ1.2.2.2.2.1
  have f2 := hZ2.2.2.2.2.1
  refine lv_aload_n hx hb dX5_readLink_0 rfl (lv_at hl 0 rfl) ?_
  refine lv_iconst (v := (nI 0)) hx hb dX5_readLink_1 (by decide) ?_
  refine lv_aload_n hx hb dX5_readLink_2 rfl (lv_at hl 1 rfl) ?_
  refine va_get (D := G.1) (ci := 3) (v := .int (nI (a 0))) (C := RX4) (T := TX4) (N := 12) hx hb hts inA4 hown hX.1 hP 2 rfl rfl 0 (by decide) (hts _ kw_66) (fun _ h9 => h9) rfl dX5_readLink_3 ?_
  refine lv_iconst (v := (nI 1)) hx hb dX5_readLink_6 (by decide) ?_
  refine lv_isub hx hb dX5_readLink_7 (ti (y := (nI ((a 0) - 1))) (pk_sub (by omega)) ?_)
  refine ca_Vi (ci := 4) (q := (RX5, TX5, 7)) (rest := []) (wr := tkw G ad a r) F hX (mX5_takeFigure l G td z tl 0 ((a 0) - 1) hZ (by decide) (by omega)) (cA_V hts kw_327 kw_2 kw_324 kw_326 kp_6 hdX5_takeFigure ⟨Nat.le_of_ble_eq_true rfl, Nat.le_of_ble_eq_true rfl⟩) rfl rfl rfl hl.1 rfl (Nat.le_of_ble_eq_true rfl) dX5_readLink_8 ⟨Nat.le_of_ble_eq_true rfl, Nat.le_of_ble_eq_true rfl⟩ hP hD hS hA (List.Perm.refl _) (fun r8 u8 H locs hp8 hP hD hS => ?_)
  have hP : va_P G.1 vwCl (txw G td (fgz z tl) tl ++ (tkw G ad a r)) H := wp_pm (List.Perm.refl _).symm hP
  have hD : va_D A (txw G td (fgz z tl) tl ++ (tkw G ad a r)) := wd_pm (List.Perm.refl _).symm hD
  subst hp8
  refine bv_ne (b := fgB z tl 0 ((a 0) - 1)) (tgt := 16) hx hb dX5_readLink_11 (by decide) (fun c11 => ?_) (fun c11 => ?_)
  · refine lv_aload_n hx hb dX5_readLink_16 rfl (lv_at hl 0 rfl) ?_
    refine va_get (D := G.1) (ci := 4) (v := .int (nI ((fgz z tl) 5))) (C := RX5) (T := TX5) (N := 7) hx hb hts inA5 hown hX.1 hP 0 rfl rfl 5 (by decide) (hts _ kw_38) (fun _ h9 => h9) rfl dX5_readLink_17 ?_
    refine lv_istore_n (lv' := [(2, .int (nI ((fgz z tl) 5))), (0, .ref (td 0)), (1, .ref (ad 0))]) hx hb dX5_readLink_20 rfl hl (by decide) rfl (fun ls hl => ?_)
    refine lv_aload_n hx hb dX5_readLink_21 rfl (lv_at hl 1 rfl) ?_
    refine lv_iconst (v := (nI 0)) hx hb dX5_readLink_22 (by decide) ?_
    refine lv_aload_n hx hb dX5_readLink_23 rfl (lv_at hl 2 rfl) ?_
    refine va_get (D := G.1) (ci := 3) (v := .int (nI (a 0))) (C := RX4) (T := TX4) (N := 12) hx hb hts inA4 hown hX.1 hP 2 rfl rfl 0 (by decide) (hts _ kw_66) (fun _ h9 => h9) rfl dX5_readLink_24 ?_
    refine lv_iconst (v := (nI 1)) hx hb dX5_readLink_27 (by decide) ?_
    refine lv_isub hx hb dX5_readLink_28 (ti (y := (nI ((a 0) - 1))) (pk_sub (by omega)) ?_)
    refine ca_Vi (ci := 4) (q := (RX5, TX5, 7)) (rest := []) (wr := tkw G ad a r) F hX (mX5_takeFigure l G td (fgz z tl) tl 0 ((a 0) - 1) hZ1 (by decide) (by omega)) (cA_V hts kw_327 kw_2 kw_324 kw_326 kp_6 hdX5_takeFigure ⟨Nat.le_of_ble_eq_true rfl, Nat.le_of_ble_eq_true rfl⟩) rfl rfl rfl hl.1 rfl (Nat.le_of_ble_eq_true rfl) dX5_readLink_29 ⟨Nat.le_of_ble_eq_true rfl, Nat.le_of_ble_eq_true rfl⟩ hP hD hS hA (List.Perm.refl _) (fun r29 u29 H locs hp29 hP hD hS => ?_)
    have hP : va_P G.1 vwCl (txw G td (fgz (fgz z tl) tl) tl ++ (tkw G ad a r)) H := wp_pm (List.Perm.refl _).symm hP
    have hD : va_D A (txw G td (fgz (fgz z tl) tl) tl ++ (tkw G ad a r)) := wd_pm (List.Perm.refl _).symm hD
    subst hp29
    refine bv_eq (b := fgB (fgz z tl) tl 0 ((a 0) - 1)) (tgt := 55) hx hb dX5_readLink_32 (by decide) (fun c32 => ?_) (fun c32 => ?_)
    · refine lv_iconst (v := (nI 0)) hx hb dX5_readLink_55 (by decide) ?_
      have e7 : lkP z a r tl = (false, fgz (fgz z tl) tl, a, r) := by unfold lkP; rw [if_neg (by rw [c11]; decide), if_pos (Or.inl c32)]
      have hP : va_P G.1 vwCl (txw G td (lkP z a r tl).2.1 tl ++ (tkw G ad (lkP z a r tl).2.2.1 (lkP z a r tl).2.2.2)) H := by rw [e7]; exact hP
      have hD : va_D A (txw G td (lkP z a r tl).2.1 tl ++ (tkw G ad (lkP z a r tl).2.2.1 (lkP z a r tl).2.2.2)) := by rw [e7]; exact hD
      exact re_z (v := (nI 0)) hx hb hr hlocks hS () hP hD (by rw [e7]; rfl) (by decide) dX5_readLink_56
    · refine lv_aload_n hx hb dX5_readLink_35 rfl (lv_at hl 1 rfl) ?_
      refine va_get (D := G.1) (ci := 4) (v := .int (nI ((fgz (fgz z tl) tl) 5))) (C := RX5) (T := TX5) (N := 7) hx hb hts inA5 hown hX.1 hP 0 rfl rfl 5 (by decide) (hts _ kw_38) (fun _ h9 => h9) rfl dX5_readLink_36 ?_
      refine lv_iload_n hx hb dX5_readLink_39 rfl (lv_at hl 0 rfl) ?_
      refine nv_eq (x := (fgz (fgz z tl) tl) 5) (y := (fgz z tl) 5) (tgt := 55) hx hb dX5_readLink_40 (by decide) (by omega) (by omega) (fun c40 => ?_) (fun c40 => ?_)
      · refine lv_iconst (v := (nI 0)) hx hb dX5_readLink_55 (by decide) ?_
        have e7 : lkP z a r tl = (false, fgz (fgz z tl) tl, a, r) := by unfold lkP; rw [if_neg (by rw [c11]; decide), if_pos (Or.inr (Or.inl c40))]
        have hP : va_P G.1 vwCl (txw G td (lkP z a r tl).2.1 tl ++ (tkw G ad (lkP z a r tl).2.2.1 (lkP z a r tl).2.2.2)) H := by rw [e7]; exact hP
        have hD : va_D A (txw G td (lkP z a r tl).2.1 tl ++ (tkw G ad (lkP z a r tl).2.2.1 (lkP z a r tl).2.2.2)) := by rw [e7]; exact hD
        exact re_z (v := (nI 0)) hx hb hr hlocks hS () hP hD (by rw [e7]; rfl) (by decide) dX5_readLink_56
      · refine lv_aload_n hx hb dX5_readLink_43 rfl (lv_at hl 2 rfl) ?_
        refine lv_iload_n hx hb dX5_readLink_44 rfl (lv_at hl 0 rfl) ?_
        refine lv_aload_n hx hb dX5_readLink_45 rfl (lv_at hl 1 rfl) ?_
        refine va_get (D := G.1) (ci := 4) (v := .int (nI ((fgz (fgz z tl) tl) 5))) (C := RX5) (T := TX5) (N := 7) hx hb hts inA5 hown hX.1 hP 0 rfl rfl 5 (by decide) (hts _ kw_38) (fun _ h9 => h9) rfl dX5_readLink_46 ?_
        refine ca_Vi (ci := 3) (q := (RX4, TX4, 12)) (rest := []) (wr := txw G td (fgz (fgz z tl) tl) tl) F hX (mX4_areLinked l G ad a r ((fgz z tl) 5) ((fgz (fgz z tl) tl) 5) hT (by omega) (by omega)) (cA_V hts kw_346 kw_3 kw_343 kw_344 kw_345 hdX4_areLinked ⟨Nat.le_of_ble_eq_true rfl, Nat.le_of_ble_eq_true rfl⟩) rfl rfl rfl hl.1 rfl (Nat.le_of_ble_eq_true rfl) dX5_readLink_49 ⟨Nat.le_of_ble_eq_true rfl, Nat.le_of_ble_eq_true rfl⟩ hP hD hS hA (List.perm_append_comm) (fun r49 u49 H locs hp49 hP hD hS => ?_)
        have hP : va_P G.1 vwCl (txw G td (fgz (fgz z tl) tl) tl ++ (tkw G ad a r)) H := wp_pm (List.perm_append_comm).symm hP
        have hD : va_D A (txw G td (fgz (fgz z tl) tl) tl ++ (tkw G ad a r)) := wd_pm (List.perm_append_comm).symm hD
        subst hp49
        refine bv_eq (b := decide (lkA (r 0) (r 1) ((fgz z tl) 5) (a 3) &&& lkA (r 0) (r 1) ((fgz (fgz z tl) tl) 5) (a 3) ≠ 0)) (tgt := 57) hx hb dX5_readLink_52 (by decide) (fun c52 => ?_) (fun c52 => ?_)
        · refine lv_aload_n hx hb dX5_readLink_57 rfl (lv_at hl 1 rfl) ?_
          refine va_get (D := G.1) (ci := 4) (v := .int (nI ((fgz (fgz z tl) tl) 5))) (C := RX5) (T := TX5) (N := 7) hx hb hts inA5 hown hX.1 hP 0 rfl rfl 5 (by decide) (hts _ kw_38) (fun _ h9 => h9) rfl dX5_readLink_58 ?_
          refine lv_istore_n (lv' := [(3, .int (nI ((fgz (fgz z tl) tl) 5))), (2, .int (nI ((fgz z tl) 5))), (0, .ref (td 0)), (1, .ref (ad 0))]) hx hb dX5_readLink_61 rfl hl (by decide) rfl (fun ls hl => ?_)
          refine lv_aload_n hx hb dX5_readLink_62 rfl (lv_at hl 2 rfl) ?_
          refine lv_iconst (v := (nI 1)) hx hb dX5_readLink_63 (by decide) ?_
          refine lv_bipush (v := (nI 9)) hx hb dX5_readLink_64 (by decide) ?_
          refine ca_Vi (ci := 4) (q := (RX5, TX5, 7)) (rest := []) (wr := tkw G ad a r) F hX (mX5_takeFigure l G td (fgz (fgz z tl) tl) tl 1 9 hZ2 (by decide) (by decide)) (cA_V hts kw_327 kw_2 kw_324 kw_326 kp_6 hdX5_takeFigure ⟨Nat.le_of_ble_eq_true rfl, Nat.le_of_ble_eq_true rfl⟩) rfl rfl rfl hl.1 rfl (Nat.le_of_ble_eq_true rfl) dX5_readLink_66 ⟨Nat.le_of_ble_eq_true rfl, Nat.le_of_ble_eq_true rfl⟩ hP hD hS hA (List.Perm.refl _) (fun r66 u66 H locs hp66 hP hD hS => ?_)
          have hP : va_P G.1 vwCl (txw G td (fgz (fgz (fgz z tl) tl) tl) tl ++ (tkw G ad a r)) H := wp_pm (List.Perm.refl _).symm hP
          have hD : va_D A (txw G td (fgz (fgz (fgz z tl) tl) tl) tl ++ (tkw G ad a r)) := wd_pm (List.Perm.refl _).symm hD
          subst hp66
          refine bv_ne (b := fgB (fgz (fgz z tl) tl) tl 1 9) (tgt := 74) hx hb dX5_readLink_69 (by decide) (fun c69 => ?_) (fun c69 => ?_)
          · refine lv_aload_n hx hb dX5_readLink_74 rfl (lv_at hl 3 rfl) ?_
            refine lv_iload_n hx hb dX5_readLink_75 rfl (lv_at hl 1 rfl) ?_
            refine lv_iload_n hx hb dX5_readLink_76 rfl (lv_at hl 0 rfl) ?_
            refine lv_aload_n hx hb dX5_readLink_77 rfl (lv_at hl 2 rfl) ?_
            refine va_get (D := G.1) (ci := 4) (v := .int (nI ((fgz (fgz (fgz z tl) tl) tl) 5))) (C := RX5) (T := TX5) (N := 7) hx hb hts inA5 hown hX.1 hP 0 rfl rfl 5 (by decide) (hts _ kw_38) (fun _ h9 => h9) rfl dX5_readLink_78 ?_
            refine ca_Vv (ci := 3) (q := (RX4, TX4, 12)) (rest := []) (wr := txw G td (fgz (fgz (fgz z tl) tl) tl) tl) F hX (mX4_addLink l G ad a r ((fgz z tl) 5) ((fgz (fgz z tl) tl) 5) ((fgz (fgz (fgz z tl) tl) tl) 5) (by omega)) (cA_V hts kw_361 kw_3 kw_358 kw_359 kw_360 hdX4_addLink ⟨Nat.le_of_ble_eq_true rfl, Nat.le_of_ble_eq_true rfl⟩) rfl rfl rfl hl.1 rfl (Nat.le_of_ble_eq_true rfl) dX5_readLink_81 ⟨Nat.le_of_ble_eq_true rfl, Nat.le_of_ble_eq_true rfl⟩ hP hD hS hA (List.perm_append_comm) (fun u81 H locs hp81 hP hD hS => ?_)
            have hP : va_P G.1 vwCl (txw G td (fgz (fgz (fgz z tl) tl) tl) tl ++ (tkw G ad (va_up a 3 ((a 3) + 1)) (adR a r ((fgz z tl) 5) ((fgz (fgz z tl) tl) 5) ((fgz (fgz (fgz z tl) tl) tl) 5)))) H := wp_pm (List.perm_append_comm).symm hP
            have hD : va_D A (txw G td (fgz (fgz (fgz z tl) tl) tl) tl ++ (tkw G ad (va_up a 3 ((a 3) + 1)) (adR a r ((fgz z tl) 5) ((fgz (fgz z tl) tl) 5) ((fgz (fgz (fgz z tl) tl) tl) 5)))) := wd_pm (List.perm_append_comm).symm hD
            refine lv_iconst (v := (nI 1)) hx hb dX5_readLink_84 (by decide) ?_
            have e7 : lkP z a r tl = (true, fgz (fgz (fgz z tl) tl) tl, va_up a 3 ((a 3) + 1), adR a r ((fgz z tl) 5) ((fgz (fgz z tl) tl) 5) ((fgz (fgz (fgz z tl) tl) tl) 5)) := by unfold lkP; rw [if_neg (by rw [c11]; decide), if_neg (fun h => h.elim (fun h => by rw [c32] at h; cases h) (fun h => h.elim c40 (fun h => absurd (c52.symm.trans h) (by decide)))), if_neg (by rw [c69]; decide)]
            have hP : va_P G.1 vwCl (txw G td (lkP z a r tl).2.1 tl ++ (tkw G ad (lkP z a r tl).2.2.1 (lkP z a r tl).2.2.2)) H := by rw [e7]; exact hP
            have hD : va_D A (txw G td (lkP z a r tl).2.1 tl ++ (tkw G ad (lkP z a r tl).2.2.1 (lkP z a r tl).2.2.2)) := by rw [e7]; exact hD
            exact re_z (v := (nI 1)) hx hb hr hlocks hS () hP hD (by rw [e7]; rfl) (by decide) dX5_readLink_85
          · refine lv_iconst (v := (nI 0)) hx hb dX5_readLink_72 (by decide) ?_
            have e7 : lkP z a r tl = (false, fgz (fgz (fgz z tl) tl) tl, a, r) := by unfold lkP; rw [if_neg (by rw [c11]; decide), if_neg (fun h => h.elim (fun h => by rw [c32] at h; cases h) (fun h => h.elim c40 (fun h => absurd (c52.symm.trans h) (by decide)))), if_pos c69]
            have hP : va_P G.1 vwCl (txw G td (lkP z a r tl).2.1 tl ++ (tkw G ad (lkP z a r tl).2.2.1 (lkP z a r tl).2.2.2)) H := by rw [e7]; exact hP
            have hD : va_D A (txw G td (lkP z a r tl).2.1 tl ++ (tkw G ad (lkP z a r tl).2.2.1 (lkP z a r tl).2.2.2)) := by rw [e7]; exact hD
            exact re_z (v := (nI 0)) hx hb hr hlocks hS () hP hD (by rw [e7]; rfl) (by decide) dX5_readLink_73
        · refine lv_iconst (v := (nI 0)) hx hb dX5_readLink_55 (by decide) ?_
          have e7 : lkP z a r tl = (false, fgz (fgz z tl) tl, a, r) := by unfold lkP; rw [if_neg (by rw [c11]; decide), if_pos (Or.inr (Or.inr (show lnkB a r (fgz z tl 5) (fgz (fgz z tl) tl 5) = true from c52)))]
          have hP : va_P G.1 vwCl (txw G td (lkP z a r tl).2.1 tl ++ (tkw G ad (lkP z a r tl).2.2.1 (lkP z a r tl).2.2.2)) H := by rw [e7]; exact hP
          have hD : va_D A (txw G td (lkP z a r tl).2.1 tl ++ (tkw G ad (lkP z a r tl).2.2.1 (lkP z a r tl).2.2.2)) := by rw [e7]; exact hD
          exact re_z (v := (nI 0)) hx hb hr hlocks hS () hP hD (by rw [e7]; rfl) (by decide) dX5_readLink_56
  · refine lv_iconst (v := (nI 0)) hx hb dX5_readLink_14 (by decide) ?_
    have e7 : lkP z a r tl = (false, fgz z tl, a, r) := by unfold lkP; rw [if_pos c11]
    have hP : va_P G.1 vwCl (txw G td (lkP z a r tl).2.1 tl ++ (tkw G ad (lkP z a r tl).2.2.1 (lkP z a r tl).2.2.2)) H := by rw [e7]; exact hP
    have hD : va_D A (txw G td (lkP z a r tl).2.1 tl ++ (tkw G ad (lkP z a r tl).2.2.1 (lkP z a r tl).2.2.2)) := by rw [e7]; exact hD
    exact re_z (v := (nI 0)) hx hb hr hlocks hS () hP hD (by rw [e7]; rfl) (by decide) dX5_readLink_15

