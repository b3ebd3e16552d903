theorem hdX8_type : hdOK yX8_type 1 := by decide +kernel
set_option maxHeartbeats 4000000 in
set_option maxRecDepth 100000 in
theorem mX8_type_bad (l : Launch) (G : GG) (ad : Nat → Nat) (z : Nat → Nat) (fo : Option Nat) (sv : Nat → Nat) (d : Nat → Int32) (pa ke : Nat → Nat) (ik fa : Nat → Int32) (te aw : Nat → Nat) (x : Int32) (hx9 : ¬ (0 ≤ x.toInt ∧ x.toInt ≤ 255)) : Mi l yX8_type cX8_type 2 (some .int) (rmN 1 22) G [.ref (ad 0), .int x] (mow G ad z fo sv d pa ke ik fa te aw) (fun (r9 : Int32) (_ : Unit) => r9 = (-1)) (fun (_ : Unit) => mow G ad z fo sv d pa ke ik fa te aw) := by
  refine Mi.of (cc := cX8_type) (nL := 2) (by decide) (Nat.le_of_ble_eq_true rfl) ?_
  intro p e s m below meth c A ls F hr hlocks hnm hX hA hD hP hS hl
  have F : CallFix p m c cX8_type 2 s [.ref (ad 0), .int x].toArray wA RX8 := F
  obtain ⟨hx, hb, hml, hown, hts⟩ := id F
  have hl : lv_has ls 2 [(0, .ref (ad 0)), (1, .int x)] := hl
  refine lv_aload_n hx hb dX8_type_0 rfl (lv_at hl 0 rfl) ?_
  refine lv_iconst (v := (nI 0)) hx hb dX8_type_1 (by decide) ?_
  refine va_put (D := G.1) (ci := 7) (v := .int (nI 0)) (ty := .int) (C := RX8) (T := TX8) (N := 17) hx hb hts inA8 tyX8 tyX8_ok nmX8 hown hX.1 hP hD hS 0 rfl rfl 0 (by decide) (hts _ kw_680) (fun _ h9 => h9) rfl (by decide +kernel) rfl rfl (Nat.le_of_ble_eq_true rfl) dX8_type_2 (fun H locs hP hD hS => ?_)
  have hP : va_P G.1 vwCl (mow G ad z fo sv d pa ke ik fa te aw) H := hP
  have hD : va_D A (mow G ad z fo sv d pa ke ik fa te aw) := hD
  refine lv_iload_n hx hb dX8_type_5 rfl (lv_at hl 1 rfl) ?_
  refine lv_iconst (v := (nI 0)) hx hb dX8_type_6 (by decide) ?_
  refine lv_sipush (v := (nI 255)) hx hb dX8_type_7 (by decide) ?_
  refine ca_Si (rest := []) (wr := mow G ad z fo sv d pa ke ik fa te aw) F hX (mX8_in l G x (nI 0) (nI 255)) (cA_S hts kw_738 kw_8 kw_736 kw_737 hdX8_in ⟨Nat.le_of_ble_eq_true rfl, Nat.le_of_ble_eq_true rfl⟩) rfl hl.1 rfl (Nat.le_of_ble_eq_true rfl) dX8_type_10 ⟨Nat.le_of_ble_eq_true rfl, Nat.le_of_ble_eq_true rfl⟩ hP hD hS hA (List.Perm.refl _) (fun r10 u10 H locs hp10 hP hD hS => ?_)
  have hP : va_P G.1 vwCl (mow G ad z fo sv d pa ke ik fa te aw) H := hP
  have hD : va_D A (mow G ad z fo sv d pa ke ik fa te aw) := hD
  subst hp10
  refine ti (y := (bI (decide (0 ≤ x.toInt ∧ x.toInt ≤ 255)))) (by rw [in_dec2 x (by decide)]; rfl) ?_
  refine bv_ne (b := decide (0 ≤ x.toInt ∧ x.toInt ≤ 255)) (tgt := 18) hx hb dX8_type_13 (by decide) (fun c13 => ?_) (fun c13 => ?_)
  · exact absurd (of_decide_eq_true c13) hx9
  · refine lv_iconst (v := (-1)) hx hb dX8_type_16 (by decide) ?_
    exact re_i (v := (-1)) hx hb hr hlocks hS () hP hD rfl dX8_type_17

set_option maxHeartbeats 4000000 in
set_option maxRecDepth 100000 in
theorem mX8_type_full (l : Launch) (G : GG) (ad : Nat → Nat) (z : Nat → Nat) (fo : Option Nat) (sv : Nat → Nat) (d : Nat → Int32) (pa ke : Nat → Nat) (ik fa : Nat → Int32) (te aw : Nat → Nat) (x : Nat) (hx9 : x ≤ 255) (hz : z 10 = 120) : Mi l yX8_type cX8_type 2 (some .int) (rmN 1 22) G [.ref (ad 0), .int (nI x)] (mow G ad z fo sv d pa ke ik fa te aw) (fun (r9 : Int32) (_ : Unit) => r9 = (-3)) (fun (_ : Unit) => mow G ad z fo sv d pa ke ik fa te aw) := by
  refine Mi.of (cc := cX8_type) (nL := 2) (by decide) (Nat.le_of_ble_eq_true rfl) ?_
  intro p e s m below meth c A ls F hr hlocks hnm hX hA hD hP hS hl
  have F : CallFix p m c cX8_type 2 s [.ref (ad 0), .int (nI x)].toArray wA RX8 := F
  obtain ⟨hx, hb, hml, hown, hts⟩ := id F
  have hl : lv_has ls 2 [(0, .ref (ad 0)), (1, .int (nI x))] := hl
  refine lv_aload_n hx hb dX8_type_0 rfl (lv_at hl 0 rfl) ?_
  refine lv_iconst (v := (nI 0)) hx hb dX8_type_1 (by decide) ?_
  refine va_put (D := G.1) (ci := 7) (v := .int (nI 0)) (ty := .int) (C := RX8) (T := TX8) (N := 17) hx hb hts inA8 tyX8 tyX8_ok nmX8 hown hX.1 hP hD hS 0 rfl rfl 0 (by decide) (hts _ kw_680) (fun _ h9 => h9) rfl (by decide +kernel) rfl rfl (Nat.le_of_ble_eq_true rfl) dX8_type_2 (fun H locs hP hD hS => ?_)
  have hP : va_P G.1 vwCl (mow G ad z fo sv d pa ke ik fa te aw) H := hP
  have hD : va_D A (mow G ad z fo sv d pa ke ik fa te aw) := hD
  refine lv_iload_n hx hb dX8_type_5 rfl (lv_at hl 1 rfl) ?_
  refine lv_iconst (v := (nI 0)) hx hb dX8_type_6 (by decide) ?_
  refine lv_sipush (v := (nI 255)) hx hb dX8_type_7 (by decide) ?_
  refine ca_Si (rest := []) (wr := mow G ad z fo sv d pa ke ik fa te aw) F hX (mX8_in l G (nI x) (nI 0) (nI 255)) (cA_S hts kw_738 kw_8 kw_736 kw_737 hdX8_in ⟨Nat.le_of_ble_eq_true rfl, Nat.le_of_ble_eq_true rfl⟩) rfl hl.1 rfl (Nat.le_of_ble_eq_true rfl) dX8_type_10 ⟨Nat.le_of_ble_eq_true rfl, Nat.le_of_ble_eq_true rfl⟩ hP hD hS hA (List.Perm.refl _) (fun r10 u10 H locs hp10 hP hD hS => ?_)
  have hP : va_P G.1 vwCl (mow G ad z fo sv d pa ke ik fa te aw) H := hP
  have hD : va_D A (mow G ad z fo sv d pa ke ik fa te aw) := hD
  subst hp10
  refine ti (y := (bI true)) (by rw [in_in (v := x) (n := 255) (by omega) (by decide)]) ?_
  refine bv_ne (b := true) (tgt := 18) hx hb dX8_type_13 (by decide) (fun c13 => ?_) (fun c13 => ?_)
  · refine lv_aload_n hx hb dX8_type_18 rfl (lv_at hl 0 rfl) ?_
    refine va_get (D := G.1) (ci := 7) (v := .int (nI (z 10))) (C := RX8) (T := TX8) (N := 17) hx hb hts inA8 hown hX.1 hP 0 rfl rfl 10 (by decide) (hts _ kw_690) (fun _ h9 => h9) rfl dX8_type_19 ?_
    refine lv_bipush (v := (nI 120)) hx hb dX8_type_22 (by decide) ?_
    refine nv_ne (x := z 10) (y := 120) (tgt := 30) hx hb dX8_type_24 (by decide) (by omega) (by decide) (fun c24 => ?_) (fun c24 => ?_)
    · exact absurd hz c24
    · refine lv_bipush (v := (-3)) hx hb dX8_type_27 (by decide) ?_
      exact re_i (v := (-3)) hx hb hr hlocks hS () hP hD rfl dX8_type_29
  · exact absurd c13 (by decide)

set_option maxHeartbeats 4000000 in
set_option maxRecDepth 100000 in
theorem mX8_type_ok (l : Launch) (G : GG) (ad : Nat → Nat) (z : Nat → Nat) (fo : Option Nat) (sv : Nat → Nat) (d : Nat → Int32) (pa ke : Nat → Nat) (ik fa : Nat → Int32) (te aw : Nat → Nat) (x : Nat) (hx9 : x ≤ 255) (hz : z 10 < 120) : Mi l yX8_type cX8_type 2 (some .int) (rmN 1 22) G [.ref (ad 0), .int (nI x)] (mow G ad z fo sv d pa ke ik fa te aw) (fun (r9 : Int32) (_ : Unit) => r9 = (nI (z 10 + 1))) (fun (_ : Unit) => mow G ad (va_up z 10 (z 10 + 1)) fo sv d pa ke ik fa (va_up te (z 10) x) aw) := by
  refine Mi.of (cc := cX8_type) (nL := 2) (by decide) (Nat.le_of_ble_eq_true rfl) ?_
  intro p e s m below meth c A ls F hr hlocks hnm hX hA hD hP hS hl
  have F : CallFix p m c cX8_type 2 s [.ref (ad 0), .int (nI x)].toArray wA RX8 := F
  obtain ⟨hx, hb, hml, hown, hts⟩ := id F
  have hl : lv_has ls 2 [(0, .ref (ad 0)), (1, .int (nI x))] := hl
  refine lv_aload_n hx hb dX8_type_0 rfl (lv_at hl 0 rfl) ?_
  refine lv_iconst (v := (nI 0)) hx hb dX8_type_1 (by decide) ?_
  refine va_put (D := G.1) (ci := 7) (v := .int (nI 0)) (ty := .int) (C := RX8) (T := TX8) (N := 17) hx hb hts inA8 tyX8 tyX8_ok nmX8 hown hX.1 hP hD hS 0 rfl rfl 0 (by decide) (hts _ kw_680) (fun _ h9 => h9) rfl (by decide +kernel) rfl rfl (Nat.le_of_ble_eq_true rfl) dX8_type_2 (fun H locs hP hD hS => ?_)
  have hP : va_P G.1 vwCl (mow G ad z fo sv d pa ke ik fa te aw) H := hP
  have hD : va_D A (mow G ad z fo sv d pa ke ik fa te aw) := hD
  refine lv_iload_n hx hb dX8_type_5 rfl (lv_at hl 1 rfl) ?_
  refine lv_iconst (v := (nI 0)) hx hb dX8_type_6 (by decide) ?_
  refine lv_sipush (v := (nI 255)) hx hb dX8_type_7 (by decide) ?_
  refine ca_Si (rest := []) (wr := mow G ad z fo sv d pa ke ik fa te aw) F hX (mX8_in l G (nI x) (nI 0) (nI 255)) (cA_S hts kw_738 kw_8 kw_736 kw_737 hdX8_in ⟨Nat.le_of_ble_eq_true rfl, Nat.le_of_ble_eq_true rfl⟩) rfl hl.1 rfl (Nat.le_of_ble_eq_true rfl) dX8_type_10 ⟨Nat.le_of_ble_eq_true rfl, Nat.le_of_ble_eq_true rfl⟩ hP hD hS hA (List.Perm.refl _) (fun r10 u10 H locs hp10 hP hD hS => ?_)
  have hP : va_P G.1 vwCl (mow G ad z fo sv d pa ke ik fa te aw) H := hP
  have hD : va_D A (mow G ad z fo sv d pa ke ik fa te aw) := hD
  subst hp10
  refine ti (y := (bI true)) (by rw [in_in (v := x) (n := 255) (by omega) (by decide)]) ?_
  refine bv_ne (b := true) (tgt := 18) hx hb dX8_type_13 (by decide) (fun c13 => ?_) (fun c13 => ?_)
  · refine lv_aload_n hx hb dX8_type_18 rfl (lv_at hl 0 rfl) ?_
    refine va_get (D := G.1) (ci := 7) (v := .int (nI (z 10))) (C := RX8) (T := TX8) (N := 17) hx hb hts inA8 hown hX.1 hP 0 rfl rfl 10 (by decide) (hts _ kw_690) (fun _ h9 => h9) rfl dX8_type_19 ?_
    refine lv_bipush (v := (nI 120)) hx hb dX8_type_22 (by decide) ?_
    refine nv_ne (x := z 10) (y := 120) (tgt := 30) hx hb dX8_type_24 (by decide) (by omega) (by decide) (fun c24 => ?_) (fun c24 => ?_)
    · refine lv_aload_n hx hb dX8_type_30 rfl (lv_at hl 0 rfl) ?_
      refine va_get (D := G.1) (ci := 7) (v := .ref (ad 7)) (C := RX8) (T := TX8) (N := 17) hx hb hts inA8 hown hX.1 hP 0 rfl rfl 9 (by decide) (hts _ kw_689) (fun _ h9 => h9) rfl dX8_type_31 ?_
      refine lv_aload_n hx hb dX8_type_34 rfl (lv_at hl 0 rfl) ?_
      refine va_get (D := G.1) (ci := 7) (v := .int (nI (z 10))) (C := RX8) (T := TX8) (N := 17) hx hb hts inA8 hown hX.1 hP 0 rfl rfl 10 (by decide) (hts _ kw_690) (fun _ h9 => h9) rfl dX8_type_35 ?_
      refine lv_iload_n hx hb dX8_type_38 rfl (lv_at hl 1 rfl) ?_
      refine lv_i2b (v := (sb_b x)) hx hb dX8_type_39 rfl ?_
      refine nv_bastS (f := te) (k := z 10) (v := x) hx hb hX hP hD hS 7 rfl (by omega) (by decide) dX8_type_40 (fun H locs hP hD hS => ?_)
      have hP : va_P G.1 vwCl (mow G ad z fo sv d pa ke ik fa (va_up te (z 10) x) aw) H := hP
      have hD : va_D A (mow G ad z fo sv d pa ke ik fa (va_up te (z 10) x) aw) := hD
      refine lv_aload_n hx hb dX8_type_41 rfl (lv_at hl 0 rfl) ?_
      refine lv_dup hx hb dX8_type_42 rfl ?_
      refine va_get (D := G.1) (ci := 7) (v := .int (nI (z 10))) (C := RX8) (T := TX8) (N := 17) hx hb hts inA8 hown hX.1 hP 0 rfl rfl 10 (by decide) (hts _ kw_690) (fun _ h9 => h9) rfl dX8_type_43 ?_
      refine lv_iconst (v := (nI 1)) hx hb dX8_type_46 (by decide) ?_
      refine lv_iadd hx hb dX8_type_47 (ti (y := (nI ((z 10) + 1))) (nI_add _ _) ?_)
      refine va_put (D := G.1) (ci := 7) (v := .int (nI ((z 10) + 1))) (ty := .int) (C := RX8) (T := TX8) (N := 17) hx hb hts inA8 tyX8 tyX8_ok nmX8 hown hX.1 hP hD hS 0 rfl rfl 10 (by decide) (hts _ kw_690) (fun _ h9 => h9) rfl (by decide +kernel) rfl rfl (Nat.le_of_ble_eq_true rfl) dX8_type_48 (fun H locs hP hD hS => ?_)
      have hP : va_P G.1 vwCl (mow G ad (va_up z 10 ((z 10) + 1)) fo sv d pa ke ik fa (va_up te (z 10) x) aw) H := hP
      have hD : va_D A (mow G ad (va_up z 10 ((z 10) + 1)) fo sv d pa ke ik fa (va_up te (z 10) x) aw) := hD
      refine lv_aload_n hx hb dX8_type_51 rfl (lv_at hl 0 rfl) ?_
      refine va_get (D := G.1) (ci := 7) (v := .int (nI ((z 10) + 1))) (C := RX8) (T := TX8) (N := 17) hx hb hts inA8 hown hX.1 hP 0 rfl rfl 10 (by decide) (hts _ kw_690) (fun _ h9 => h9) rfl dX8_type_52 ?_
      exact re_i (v := (nI ((z 10) + 1))) hx hb hr hlocks hS () hP hD rfl dX8_type_55
    · exact absurd c24 (by omega)
  · exact absurd c13 (by decide)

theorem hdX8_clear : hdOK yX8_clear 0 := by decide +kernel
set_option maxHeartbeats 4000000 in
set_option maxRecDepth 100000 in
theorem mX8_clear (l : Launch) (G : GG) (ad : Nat → Nat) (z : Nat → Nat) (fo : Option Nat) (sv : Nat → Nat) (d : Nat → Int32) (pa ke : Nat → Nat) (ik fa : Nat → Int32) (te aw : Nat → Nat)   : Mi l yX8_clear cX8_clear 2 (some .int) (rmN 0 0) G [.ref (ad 0)] (mow G ad z fo sv d pa ke ik fa te aw) (fun (r9 : Int32) (_ : Unit) => r9 = (nI (z 10))) (fun (_ : Unit) => mow G ad (va_up z 10 0) fo sv d pa ke ik fa te aw) := by
  refine Mi.of (cc := cX8_clear) (nL := 2) (by decide) (Nat.le_of_ble_eq_true rfl) ?_
  intro p e s m below meth c A ls F hr hlocks hnm hX hA hD hP hS hl
  have F : CallFix p m c cX8_clear 2 s [.ref (ad 0)].toArray wA RX8 := F
  obtain ⟨hx, hb, hml, hown, hts⟩ := id F
  have hl : lv_has ls 2 [(0, .ref (ad 0))] := hl
  refine lv_aload_n hx hb dX8_clear_0 rfl (lv_at hl 0 rfl) ?_
  refine lv_iconst (v := (nI 0)) hx hb dX8_clear_1 (by decide) ?_
  refine va_put (D := G.1) (ci := 7) (v := .int (nI 0)) (ty := .int) (C := RX8) (T := TX8) (N := 17) hx hb hts inA8 tyX8 tyX8_ok nmX8 hown hX.1 hP hD hS 0 rfl rfl 0 (by decide) (hts _ kw_680) (fun _ h9 => h9) rfl (by decide +kernel) rfl rfl (Nat.le_of_ble_eq_true rfl) dX8_clear_2 (fun H locs hP hD hS => ?_)
  have hP : va_P G.1 vwCl (mow G ad z fo sv d pa ke ik fa te aw) H := hP
  have hD : va_D A (mow G ad z fo sv d pa ke ik fa te aw) := hD
  refine lv_aload_n hx hb dX8_clear_5 rfl (lv_at hl 0 rfl) ?_
  refine va_get (D := G.1) (ci := 7) (v := .int (nI (z 10))) (C := RX8) (T := TX8) (N := 17) hx hb hts inA8 hown hX.1 hP 0 rfl rfl 10 (by decide) (hts _ kw_690) (fun _ h9 => h9) rfl dX8_clear_6 ?_
  refine lv_istore_n (lv' := [(1, .int (nI (z 10))), (0, .ref (ad 0))]) hx hb dX8_clear_9 rfl hl (by decide) rfl (fun ls hl => ?_)
  refine lv_aload_n hx hb dX8_clear_10 rfl (lv_at hl 1 rfl) ?_
  refine lv_iconst (v := (nI 0)) hx hb dX8_clear_11 (by decide) ?_
  refine va_put (D := G.1) (ci := 7) (v := .int (nI 0)) (ty := .int) (C := RX8) (T := TX8) (N := 17) hx hb hts inA8 tyX8 tyX8_ok nmX8 hown hX.1 hP hD hS 0 rfl rfl 10 (by decide) (hts _ kw_690) (fun _ h9 => h9) rfl (by decide +kernel) rfl rfl (Nat.le_of_ble_eq_true rfl) dX8_clear_12 (fun H locs hP hD hS => ?_)
  have hP : va_P G.1 vwCl (mow G ad (va_up z 10 0) fo sv d pa ke ik fa te aw) H := hP
  have hD : va_D A (mow G ad (va_up z 10 0) fo sv d pa ke ik fa te aw) := hD
  refine lv_iload_n hx hb dX8_clear_15 rfl (lv_at hl 0 rfl) ?_
  exact re_i (v := (nI (z 10))) hx hb hr hlocks hS () hP hD rfl dX8_clear_16

theorem hdX8_forget : hdOK yX8_forget 0 := by decide +kernel
set_option maxHeartbeats 4000000 in
set_option maxRecDepth 100000 in
theorem mX8_forget (l : Launch) (G : GG) (ad : Nat → Nat) (z : Nat → Nat) (fo : Option Nat) (sv : Nat → Nat) (d : Nat → Int32) (pa ke : Nat → Nat) (ik fa : Nat → Int32) (te aw : Nat → Nat)   : Mi l yX8_forget cX8_forget 2 (some .int) (rmN 0 0) G [.ref (ad 0)] (mow G ad z fo sv d pa ke ik fa te aw) (fun (r9 : Int32) (_ : Unit) => r9 = (nI (z 8))) (fun (_ : Unit) => mow G ad (va_up z 8 0) fo sv d pa ke ik fa te aw) := by
  refine Mi.of (cc := cX8_forget) (nL := 2) (by decide) (Nat.le_of_ble_eq_true rfl) ?_
  intro p e s m below meth c A ls F hr hlocks hnm hX hA hD hP hS hl
  have F : CallFix p m c cX8_forget 2 s [.ref (ad 0)].toArray wA RX8 := F
  obtain ⟨hx, hb, hml, hown, hts⟩ := id F
  have hl : lv_has ls 2 [(0, .ref (ad 0))] := hl
  refine lv_aload_n hx hb dX8_forget_0 rfl (lv_at hl 0 rfl) ?_
  refine lv_iconst (v := (nI 0)) hx hb dX8_forget_1 (by decide) ?_
  refine va_put (D := G.1) (ci := 7) (v := .int (nI 0)) (ty := .int) (C := RX8) (T := TX8) (N := 17) hx hb hts inA8 tyX8 tyX8_ok nmX8 hown hX.1 hP hD hS 0 rfl rfl 0 (by decide) (hts _ kw_680) (fun _ h9 => h9) rfl (by decide +kernel) rfl rfl (Nat.le_of_ble_eq_true rfl) dX8_forget_2 (fun H locs hP hD hS => ?_)
  have hP : va_P G.1 vwCl (mow G ad z fo sv d pa ke ik fa te aw) H := hP
  have hD : va_D A (mow G ad z fo sv d pa ke ik fa te aw) := hD
  refine lv_aload_n hx hb dX8_forget_5 rfl (lv_at hl 0 rfl) ?_
  refine va_get (D := G.1) (ci := 7) (v := .int (nI (z 8))) (C := RX8) (T := TX8) (N := 17) hx hb hts inA8 hown hX.1 hP 0 rfl rfl 8 (by decide) (hts _ kw_688) (fun _ h9 => h9) rfl dX8_forget_6 ?_
  refine lv_istore_n (lv' := [(1, .int (nI (z 8))), (0, .ref (ad 0))]) hx hb dX8_forget_9 rfl hl (by decide) rfl (fun ls hl => ?_)
  refine lv_aload_n hx hb dX8_forget_10 rfl (lv_at hl 1 rfl) ?_
  refine lv_iconst (v := (nI 0)) hx hb dX8_forget_11 (by decide) ?_
  refine va_put (D := G.1) (ci := 7) (v := .int (nI 0)) (ty := .int) (C := RX8) (T := TX8) (N := 17) hx hb hts inA8 tyX8 tyX8_ok nmX8 hown hX.1 hP hD hS 0 rfl rfl 8 (by decide) (hts _ kw_688) (fun _ h9 => h9) rfl (by decide +kernel) rfl rfl (Nat.le_of_ble_eq_true rfl) dX8_forget_12 (fun H locs hP hD hS => ?_)
  have hP : va_P G.1 vwCl (mow G ad (va_up z 8 0) fo sv d pa ke ik fa te aw) H := hP
  have hD : va_D A (mow G ad (va_up z 8 0) fo sv d pa ke ik fa te aw) := hD
  refine lv_iload_n hx hb dX8_forget_15 rfl (lv_at hl 0 rfl) ?_
  exact re_i (v := (nI (z 8))) hx hb hr hlocks hS () hP hD rfl dX8_forget_16

theorem hdX8_joins : hdOK yX8_joins 1 := by decide +kernel
set_option maxHeartbeats 4000000 in
set_option maxRecDepth 100000 in
theorem mX8_joins_bad (l : Launch) (G : GG) (ad : Nat → Nat) (z : Nat → Nat) (fo : Option Nat) (sv : Nat → Nat) (d : Nat → Int32) (pa ke : Nat → Nat) (ik fa : Nat → Int32) (te aw : Nat → Nat) (x : Int32) (hB : SB sv) (hk : ¬ (0 ≤ x.toInt ∧ x.toInt < sv 0)) : Mi l yX8_joins cX8_joins 2 (some .int) (rmN 2 43) G [.ref (ad 0), .int x] (mow G ad z fo sv d pa ke ik fa te aw) (fun (r9 : Int32) (_ : Unit) => r9 = (-1)) (fun (_ : Unit) => mow G ad z fo sv d pa ke ik fa te aw) := by
  refine Mi.of (cc := cX8_joins) (nL := 2) (by decide) (Nat.le_of_ble_eq_true rfl) ?_
  intro p e s m below meth c A ls F hr hlocks hnm hX hA hD hP hS hl
  have F : CallFix p m c cX8_joins 2 s [.ref (ad 0), .int x].toArray wA RX8 := F
  obtain ⟨hx, hb, hml, hown, hts⟩ := id F
  have hl : lv_has ls 2 [(0, .ref (ad 0)), (1, .int x)] := hl
  refine lv_aload_n hx hb dX8_joins_0 rfl (lv_at hl 0 rfl) ?_
  refine lv_iconst (v := (nI 0)) hx hb dX8_joins_1 (by decide) ?_
  refine va_put (D := G.1) (ci := 7) (v := .int (nI 0)) (ty := .int) (C := RX8) (T := TX8) (N := 17) hx hb hts inA8 tyX8 tyX8_ok nmX8 hown hX.1 hP hD hS 0 rfl rfl 0 (by decide) (hts _ kw_680) (fun _ h9 => h9) rfl (by decide +kernel) rfl rfl (Nat.le_of_ble_eq_true rfl) dX8_joins_2 (fun H locs hP hD hS => ?_)
  have hP : va_P G.1 vwCl (mow G ad z fo sv d pa ke ik fa te aw) H := hP
  have hD : va_D A (mow G ad z fo sv d pa ke ik fa te aw) := hD
  refine lv_aload_n hx hb dX8_joins_5 rfl (lv_at hl 0 rfl) ?_
  refine lv_iload_n hx hb dX8_joins_6 rfl (lv_at hl 1 rfl) ?_
  refine ca_Vi (ci := 7) (q := (RX8, TX8, 17)) (rest := []) (wr := ([] : va_W)) F hX (mX8_isNode l G ad z fo sv d pa ke ik fa te aw x hB) (cA_V hts kw_794 kw_8 kw_791 kw_793 kp_29 hdX8_isNode ⟨Nat.le_of_ble_eq_true rfl, Nat.le_of_ble_eq_true rfl⟩) rfl rfl rfl hl.1 rfl (Nat.le_of_ble_eq_true rfl) dX8_joins_7 ⟨Nat.le_of_ble_eq_true rfl, Nat.le_of_ble_eq_true rfl⟩ hP hD hS hA (pm_nil _) (fun r7 u7 H locs hp7 hP hD hS => ?_)
  have hP : va_P G.1 vwCl (mow G ad z fo sv d pa ke ik fa te aw) H := wp_pm (pm_nil _).symm hP
  have hD : va_D A (mow G ad z fo sv d pa ke ik fa te aw) := wd_pm (pm_nil _).symm hD
  subst hp7
  refine bv_ne (b := decide (0 ≤ (x).toInt ∧ (x).toInt < sv 0)) (tgt := 15) hx hb dX8_joins_10 (by decide) (fun c10 => ?_) (fun c10 => ?_)
  · exact absurd (of_decide_eq_true c10) hk
  · refine lv_iconst (v := (-1)) hx hb dX8_joins_13 (by decide) ?_
    exact re_i (v := (-1)) hx hb hr hlocks hS () hP hD rfl dX8_joins_14

theorem hdX8_leaves : hdOK yX8_leaves 1 := by decide +kernel
set_option maxHeartbeats 4000000 in
set_option maxRecDepth 100000 in
theorem mX8_leaves_bad (l : Launch) (G : GG) (ad : Nat → Nat) (z : Nat → Nat) (fo : Option Nat) (sv : Nat → Nat) (d : Nat → Int32) (pa ke : Nat → Nat) (ik fa : Nat → Int32) (te aw : Nat → Nat) (x : Int32) (hB : SB sv) (hk : ¬ (0 ≤ x.toInt ∧ x.toInt < sv 0)) : Mi l yX8_leaves cX8_leaves 2 (some .int) (rmN 2 43) G [.ref (ad 0), .int x] (mow G ad z fo sv d pa ke ik fa te aw) (fun (r9 : Int32) (_ : Unit) => r9 = (-1)) (fun (_ : Unit) => mow G ad z fo sv d pa ke ik fa te aw) := by
  refine Mi.of (cc := cX8_leaves) (nL := 2) (by decide) (Nat.le_of_ble_eq_true rfl) ?_
  intro p e s m below meth c A ls F hr hlocks hnm hX hA hD hP hS hl
  have F : CallFix p m c cX8_leaves 2 s [.ref (ad 0), .int x].toArray wA RX8 := F
  obtain ⟨hx, hb, hml, hown, hts⟩ := id F
  have hl : lv_has ls 2 [(0, .ref (ad 0)), (1, .int x)] := hl
  refine lv_aload_n hx hb dX8_leaves_0 rfl (lv_at hl 0 rfl) ?_
  refine lv_iconst (v := (nI 0)) hx hb dX8_leaves_1 (by decide) ?_
  refine va_put (D := G.1) (ci := 7) (v := .int (nI 0)) (ty := .int) (C := RX8) (T := TX8) (N := 17) hx hb hts inA8 tyX8 tyX8_ok nmX8 hown hX.1 hP hD hS 0 rfl rfl 0 (by decide) (hts _ kw_680) (fun _ h9 => h9) rfl (by decide +kernel) rfl rfl (Nat.le_of_ble_eq_true rfl) dX8_leaves_2 (fun H locs hP hD hS => ?_)
  have hP : va_P G.1 vwCl (mow G ad z fo sv d pa ke ik fa te aw) H := hP
  have hD : va_D A (mow G ad z fo sv d pa ke ik fa te aw) := hD
  refine lv_aload_n hx hb dX8_leaves_5 rfl (lv_at hl 0 rfl) ?_
  refine lv_iload_n hx hb dX8_leaves_6 rfl (lv_at hl 1 rfl) ?_
  refine ca_Vi (ci := 7) (q := (RX8, TX8, 17)) (rest := []) (wr := ([] : va_W)) F hX (mX8_isNode l G ad z fo sv d pa ke ik fa te aw x hB) (cA_V hts kw_794 kw_8 kw_791 kw_793 kp_29 hdX8_isNode ⟨Nat.le_of_ble_eq_true rfl, Nat.le_of_ble_eq_true rfl⟩) rfl rfl rfl hl.1 rfl (Nat.le_of_ble_eq_true rfl) dX8_leaves_7 ⟨Nat.le_of_ble_eq_true rfl, Nat.le_of_ble_eq_true rfl⟩ hP hD hS hA (pm_nil _) (fun r7 u7 H locs hp7 hP hD hS => ?_)
  have hP : va_P G.1 vwCl (mow G ad z fo sv d pa ke ik fa te aw) H := wp_pm (pm_nil _).symm hP
  have hD : va_D A (mow G ad z fo sv d pa ke ik fa te aw) := wd_pm (pm_nil _).symm hD
  subst hp7
  refine bv_ne (b := decide (0 ≤ (x).toInt ∧ (x).toInt < sv 0)) (tgt := 15) hx hb dX8_leaves_10 (by decide) (fun c10 => ?_) (fun c10 => ?_)
  · exact absurd (of_decide_eq_true c10) hk
  · refine lv_iconst (v := (-1)) hx hb dX8_leaves_13 (by decide) ?_
    exact re_i (v := (-1)) hx hb hr hlocks hS () hP hD rfl dX8_leaves_14

theorem hdX8_cuts : hdOK yX8_cuts 1 := by decide +kernel
set_option maxHeartbeats 4000000 in
set_option maxRecDepth 100000 in
theorem mX8_cuts_bad (l : Launch) (G : GG) (ad : Nat → Nat) (z : Nat → Nat) (fo : Option Nat) (sv : Nat → Nat) (d : Nat → Int32) (pa ke : Nat → Nat) (ik fa : Nat → Int32) (te aw : Nat → Nat) (x : Int32) (hB : SB sv) (hk : ¬ (0 ≤ x.toInt ∧ x.toInt < sv 1)) : Mi l yX8_cuts cX8_cuts 6 (some .int) (rmN 2 43) G [.ref (ad 0), .int x] (mow G ad z fo sv d pa ke ik fa te aw) (fun (r9 : Int32) (_ : Unit) => r9 = (-1)) (fun (_ : Unit) => mow G ad z fo sv d pa ke ik fa te aw) := by
  refine Mi.of (cc := cX8_cuts) (nL := 6) (by decide) (Nat.le_of_ble_eq_true rfl) ?_
  intro p e s m below meth c A ls F hr hlocks hnm hX hA hD hP hS hl
  have F : CallFix p m c cX8_cuts 6 s [.ref (ad 0), .int x].toArray wA RX8 := F
  obtain ⟨hx, hb, hml, hown, hts⟩ := id F
  have hl : lv_has ls 6 [(0, .ref (ad 0)), (1, .int x)] := hl
  refine lv_aload_n hx hb dX8_cuts_0 rfl (lv_at hl 0 rfl) ?_
  refine lv_iconst (v := (nI 0)) hx hb dX8_cuts_1 (by decide) ?_
  refine va_put (D := G.1) (ci := 7) (v := .int (nI 0)) (ty := .int) (C := RX8) (T := TX8) (N := 17) hx hb hts inA8 tyX8 tyX8_ok nmX8 hown hX.1 hP hD hS 0 rfl rfl 0 (by decide) (hts _ kw_680) (fun _ h9 => h9) rfl (by decide +kernel) rfl rfl (Nat.le_of_ble_eq_true rfl) dX8_cuts_2 (fun H locs hP hD hS => ?_)
  have hP : va_P G.1 vwCl (mow G ad z fo sv d pa ke ik fa te aw) H := hP
  have hD : va_D A (mow G ad z fo sv d pa ke ik fa te aw) := hD
  refine lv_aload_n hx hb dX8_cuts_5 rfl (lv_at hl 0 rfl) ?_
  refine lv_iload_n hx hb dX8_cuts_6 rfl (lv_at hl 1 rfl) ?_
  refine ca_Vi (ci := 7) (q := (RX8, TX8, 17)) (rest := []) (wr := ([] : va_W)) F hX (mX8_isLink l G ad z fo sv d pa ke ik fa te aw x hB) (cA_V hts kw_858 kw_8 kw_855 kw_857 kp_41 hdX8_isLink ⟨Nat.le_of_ble_eq_true rfl, Nat.le_of_ble_eq_true rfl⟩) rfl rfl rfl hl.1 rfl (Nat.le_of_ble_eq_true rfl) dX8_cuts_7 ⟨Nat.le_of_ble_eq_true rfl, Nat.le_of_ble_eq_true rfl⟩ hP hD hS hA (pm_nil _) (fun r7 u7 H locs hp7 hP hD hS => ?_)
  have hP : va_P G.1 vwCl (mow G ad z fo sv d pa ke ik fa te aw) H := wp_pm (pm_nil _).symm hP
  have hD : va_D A (mow G ad z fo sv d pa ke ik fa te aw) := wd_pm (pm_nil _).symm hD
  subst hp7
  refine bv_ne (b := decide (0 ≤ (x).toInt ∧ (x).toInt < sv 1)) (tgt := 15) hx hb dX8_cuts_10 (by decide) (fun c10 => ?_) (fun c10 => ?_)
  · exact absurd (of_decide_eq_true c10) hk
  · refine lv_iconst (v := (-1)) hx hb dX8_cuts_13 (by decide) ?_
    exact re_i (v := (-1)) hx hb hr hlocks hS () hP hD rfl dX8_cuts_14

theorem hdX8_mends : hdOK yX8_mends 1 := by decide +kernel
set_option maxHeartbeats 4000000 in
set_option maxRecDepth 100000 in
theorem mX8_mends_bad (l : Launch) (G : GG) (ad : Nat → Nat) (z : Nat → Nat) (fo : Option Nat) (sv : Nat → Nat) (d : Nat → Int32) (pa ke : Nat → Nat) (ik fa : Nat → Int32) (te aw : Nat → Nat) (x : Int32) (hB : SB sv) (hk : ¬ (0 ≤ x.toInt ∧ x.toInt < sv 1)) : Mi l yX8_mends cX8_mends 2 (some .int) (rmN 2 43) G [.ref (ad 0), .int x] (mow G ad z fo sv d pa ke ik fa te aw) (fun (r9 : Int32) (_ : Unit) => r9 = (-1)) (fun (_ : Unit) => mow G ad z fo sv d pa ke ik fa te aw) := by
  refine Mi.of (cc := cX8_mends) (nL := 2) (by decide) (Nat.le_of_ble_eq_true rfl) ?_
  intro p e s m below meth c A ls F hr hlocks hnm hX hA hD hP hS hl
  have F : CallFix p m c cX8_mends 2 s [.ref (ad 0), .int x].toArray wA RX8 := F
  obtain ⟨hx, hb, hml, hown, hts⟩ := id F
  have hl : lv_has ls 2 [(0, .ref (ad 0)), (1, .int x)] := hl
  refine lv_aload_n hx hb dX8_mends_0 rfl (lv_at hl 0 rfl) ?_
  refine lv_iconst (v := (nI 0)) hx hb dX8_mends_1 (by decide) ?_
  refine va_put (D := G.1) (ci := 7) (v := .int (nI 0)) (ty := .int) (C := RX8) (T := TX8) (N := 17) hx hb hts inA8 tyX8 tyX8_ok nmX8 hown hX.1 hP hD hS 0 rfl rfl 0 (by decide) (hts _ kw_680) (fun _ h9 => h9) rfl (by decide +kernel) rfl rfl (Nat.le_of_ble_eq_true rfl) dX8_mends_2 (fun H locs hP hD hS => ?_)
  have hP : va_P G.1 vwCl (mow G ad z fo sv d pa ke ik fa te aw) H := hP
  have hD : va_D A (mow G ad z fo sv d pa ke ik fa te aw) := hD
  refine lv_aload_n hx hb dX8_mends_5 rfl (lv_at hl 0 rfl) ?_
  refine lv_iload_n hx hb dX8_mends_6 rfl (lv_at hl 1 rfl) ?_
  refine ca_Vi (ci := 7) (q := (RX8, TX8, 17)) (rest := []) (wr := ([] : va_W)) F hX (mX8_isLink l G ad z fo sv d pa ke ik fa te aw x hB) (cA_V hts kw_858 kw_8 kw_855 kw_857 kp_41 hdX8_isLink ⟨Nat.le_of_ble_eq_true rfl, Nat.le_of_ble_eq_true rfl⟩) rfl rfl rfl hl.1 rfl (Nat.le_of_ble_eq_true rfl) dX8_mends_7 ⟨Nat.le_of_ble_eq_true rfl, Nat.le_of_ble_eq_true rfl⟩ hP hD hS hA (pm_nil _) (fun r7 u7 H locs hp7 hP hD hS => ?_)
  have hP : va_P G.1 vwCl (mow G ad z fo sv d pa ke ik fa te aw) H := wp_pm (pm_nil _).symm hP
  have hD : va_D A (mow G ad z fo sv d pa ke ik fa te aw) := wd_pm (pm_nil _).symm hD
  subst hp7
  refine bv_ne (b := decide (0 ≤ (x).toInt ∧ (x).toInt < sv 1)) (tgt := 15) hx hb dX8_mends_10 (by decide) (fun c10 => ?_) (fun c10 => ?_)
  · exact absurd (of_decide_eq_true c10) hk
  · refine lv_iconst (v := (-1)) hx hb dX8_mends_13 (by decide) ?_
    exact re_i (v := (-1)) hx hb hr hlocks hS () hP hD rfl dX8_mends_14

set_option maxHeartbeats 4000000 in
set_option maxRecDepth 100000 in
theorem mX8_joins_state (l : Launch) (G : GG) (ad : Nat → Nat) (z : Nat → Nat) (fo : Option Nat) (sv : Nat → Nat) (d : Nat → Int32) (pa ke : Nat → Nat) (ik fa : Nat → Int32) (te aw : Nat → Nat) (v : Nat) (hB : SB sv) (ha : ∀ j, aw j ≤ 1000000) (hv : v < sv 0) (hst : v = sv 2 ∨ (sv 4).testBit v = true ∨ 1000000 ≤ (mesN (sf sv) (sg sv) (sc sv) (sv 6) (sv 1) (sv 0) (clo (sf sv) (sg sv) (sv 5) (sv 1) (sv 2)) aw) v) : Mi l yX8_joins cX8_joins 2 (some .int) (rmN 2 47) G [.ref (ad 0), .int (nI v)] (mow G ad z fo sv d pa ke ik fa te aw) (fun (r9 : Int32) (_ : Unit) => r9 = (-2)) (fun (_ : Unit) => mow G ad z fo sv d pa ke ik fa te (mesN (sf sv) (sg sv) (sc sv) (sv 6) (sv 1) (sv 0) (clo (sf sv) (sg sv) (sv 5) (sv 1) (sv 2)) aw)) := by
  refine Mi.of (cc := cX8_joins) (nL := 2) (by decide) (Nat.le_of_ble_eq_true rfl) ?_
  intro p e s m below meth c A ls F hr hlocks hnm hX hA hD hP hS hl
  have F : CallFix p m c cX8_joins 2 s [.ref (ad 0), .int (nI v)].toArray wA RX8 := F
  obtain ⟨hx, hb, hml, hown, hts⟩ := id F
  have hl : lv_has ls 2 [(0, .ref (ad 0)), (1, .int (nI v))] := hl
  obtain ⟨⟨b0, b1, b2, b3, b4, b5, b6, b7, b8⟩, g1, g2, g3, g4⟩ := id hB
  have gf : ∀ j, sf sv j < 10 := fun j => g1 (16 + j) (by omega)
  have gg : ∀ j, sg sv j < 10 := fun j => g1 (28 + j) (by omega)
  have gc : ∀ j, sc sv j ≤ 9 := fun j => by have := g1 (40 + j) (by omega); unfold sc; omega
  have gf7 : ∀ j, j < 12 → sf sv j < 7 := g2
  have gg7 : ∀ j, j < 12 → sg sv j < 7 := g3
  have hcl : clo (sf sv) (sg sv) (sv 5) (sv 1) (sv 2) < 1024 := clo_lt gf gg (by omega)
  have hml9 : ∀ j, (mesN (sf sv) (sg sv) (sc sv) (sv 6) (sv 1) (sv 0) (clo (sf sv) (sg sv) (sv 5) (sv 1) (sv 2)) aw) j ≤ 1000000 := mesN_le ha
  refine lv_aload_n hx hb dX8_joins_0 rfl (lv_at hl 0 rfl) ?_
  refine lv_iconst (v := (nI 0)) hx hb dX8_joins_1 (by decide) ?_
  refine va_put (D := G.1) (ci := 7) (v := .int (nI 0)) (ty := .int) (C := RX8) (T := TX8) (N := 17) hx hb hts inA8 tyX8 tyX8_ok nmX8 hown hX.1 hP hD hS 0 rfl rfl 0 (by decide) (hts _ kw_680) (fun _ h9 => h9) rfl (by decide +kernel) rfl rfl (Nat.le_of_ble_eq_true rfl) dX8_joins_2 (fun H locs hP hD hS => ?_)
  have hP : va_P G.1 vwCl (mow G ad z fo sv d pa ke ik fa te aw) H := hP
  have hD : va_D A (mow G ad z fo sv d pa ke ik fa te aw) := hD
  refine lv_aload_n hx hb dX8_joins_5 rfl (lv_at hl 0 rfl) ?_
  refine lv_iload_n hx hb dX8_joins_6 rfl (lv_at hl 1 rfl) ?_
  refine ca_Vi (ci := 7) (q := (RX8, TX8, 17)) (rest := []) (wr := ([] : va_W)) F hX (mX8_isNode l G ad z fo sv d pa ke ik fa te aw (nI v) hB) (cA_V hts kw_794 kw_8 kw_791 kw_793 kp_29 hdX8_isNode ⟨Nat.le_of_ble_eq_true rfl, Nat.le_of_ble_eq_true rfl⟩) rfl rfl rfl hl.1 rfl (Nat.le_of_ble_eq_true rfl) dX8_joins_7 ⟨Nat.le_of_ble_eq_true rfl, Nat.le_of_ble_eq_true rfl⟩ hP hD hS hA (pm_nil _) (fun r7 u7 H locs hp7 hP hD hS => ?_)
  have hP : va_P G.1 vwCl (mow G ad z fo sv d pa ke ik fa te aw) H := wp_pm (pm_nil _).symm hP
  have hD : va_D A (mow G ad z fo sv d pa ke ik fa te aw) := wd_pm (pm_nil _).symm hD
  subst hp7
  refine ti (y := (bI true)) (by rw [nd_in (v := v) (n := sv 0) (by omega) (by omega)]) ?_
  refine bv_ne (b := true) (tgt := 15) hx hb dX8_joins_10 (by decide) (fun c10 => ?_) (fun c10 => ?_)
  · refine lv_aload_n hx hb dX8_joins_15 rfl (lv_at hl 0 rfl) ?_
    refine lv_aload_n hx hb dX8_joins_16 rfl (lv_at hl 0 rfl) ?_
    refine lv_aload_n hx hb dX8_joins_17 rfl (lv_at hl 0 rfl) ?_
    refine va_get (D := G.1) (ci := 7) (v := .ref (ad 1)) (C := RX8) (T := TX8) (N := 17) hx hb hts inA8 hown hX.1 hP 0 rfl rfl 1 (by decide) (hts _ kw_681) (fun _ h9 => h9) rfl dX8_joins_18 ?_
    refine lv_iconst (v := (nI 5)) hx hb dX8_joins_21 (by decide) ?_
    refine nv_ald (f := sv) (k := 5) hx hb hX hP 1 rfl (by omega) (by decide) dX8_joins_22 ?_
    refine ca_Vi (ci := 7) (q := (RX8, TX8, 17)) (rest := [.ref (ad 0)]) (wr := ([] : va_W)) F hX (mX8_nodesOf l G ad z fo sv d pa ke ik fa te aw (sv 5) hB (by omega)) (cA_V hts kw_798 kw_8 kw_795 kw_797 kp_30 hdX8_nodesOf ⟨Nat.le_of_ble_eq_true rfl, Nat.le_of_ble_eq_true rfl⟩) rfl rfl rfl hl.1 rfl (Nat.le_of_ble_eq_true rfl) dX8_joins_23 ⟨Nat.le_of_ble_eq_true rfl, Nat.le_of_ble_eq_true rfl⟩ hP hD hS hA (pm_nil _) (fun r23 u23 H locs hp23 hP hD hS => ?_)
    have hP : va_P G.1 vwCl (mow G ad z fo sv d pa ke ik fa te aw) H := wp_pm (pm_nil _).symm hP
    have hD : va_D A (mow G ad z fo sv d pa ke ik fa te aw) := wd_pm (pm_nil _).symm hD
    subst hp23
    refine ca_Vv (ci := 7) (q := (RX8, TX8, 17)) (rest := []) (wr := ([] : va_W)) F hX (mX8_measures l G ad z fo sv d pa ke ik fa te aw (clo (sf sv) (sg sv) (sv 5) (sv 1) (sv 2)) hB ha (by omega)) (cA_V hts kw_805 kw_8 kw_802 kw_804 kp_31 hdX8_measures ⟨Nat.le_of_ble_eq_true rfl, Nat.le_of_ble_eq_true rfl⟩) rfl rfl rfl hl.1 rfl (Nat.le_of_ble_eq_true rfl) dX8_joins_26 ⟨Nat.le_of_ble_eq_true rfl, Nat.le_of_ble_eq_true rfl⟩ hP hD hS hA (pm_nil _) (fun u26 H locs hp26 hP hD hS => ?_)
    have hP : va_P G.1 vwCl (mow G ad z fo sv d pa ke ik fa te (mesN (sf sv) (sg sv) (sc sv) (sv 6) (sv 1) (sv 0) (clo (sf sv) (sg sv) (sv 5) (sv 1) (sv 2)) aw)) H := wp_pm (pm_nil _).symm hP
    have hD : va_D A (mow G ad z fo sv d pa ke ik fa te (mesN (sf sv) (sg sv) (sc sv) (sv 6) (sv 1) (sv 0) (clo (sf sv) (sg sv) (sv 5) (sv 1) (sv 2)) aw)) := wd_pm (pm_nil _).symm hD
    refine lv_iload_n hx hb dX8_joins_29 rfl (lv_at hl 1 rfl) ?_
    refine lv_aload_n hx hb dX8_joins_30 rfl (lv_at hl 0 rfl) ?_
    refine va_get (D := G.1) (ci := 7) (v := .ref (ad 1)) (C := RX8) (T := TX8) (N := 17) hx hb hts inA8 hown hX.1 hP 0 rfl rfl 1 (by decide) (hts _ kw_681) (fun _ h9 => h9) rfl dX8_joins_31 ?_
    refine lv_iconst (v := (nI 2)) hx hb dX8_joins_34 (by decide) ?_
    refine nv_ald (f := sv) (k := 2) hx hb hX hP 1 rfl (by omega) (by decide) dX8_joins_35 ?_
    refine nv_eq (x := v) (y := sv 2) (tgt := 63) hx hb dX8_joins_36 (by decide) (by omega) (by omega) (fun c36 => ?_) (fun c36 => ?_)
    · refine lv_bipush (v := (-2)) hx hb dX8_joins_63 (by decide) ?_
      exact re_i (v := (-2)) hx hb hr hlocks hS () hP hD rfl dX8_joins_65
    · refine lv_aload_n hx hb dX8_joins_39 rfl (lv_at hl 0 rfl) ?_
      refine va_get (D := G.1) (ci := 7) (v := .ref (ad 1)) (C := RX8) (T := TX8) (N := 17) hx hb hts inA8 hown hX.1 hP 0 rfl rfl 1 (by decide) (hts _ kw_681) (fun _ h9 => h9) rfl dX8_joins_40 ?_
      refine lv_iconst (v := (nI 4)) hx hb dX8_joins_43 (by decide) ?_
      refine nv_ald (f := sv) (k := 4) hx hb hX hP 1 rfl (by omega) (by decide) dX8_joins_44 ?_
      refine lv_iload_n hx hb dX8_joins_45 rfl (lv_at hl 1 rfl) ?_
      refine ca_Si (rest := []) (wr := mow G ad z fo sv d pa ke ik fa te (mesN (sf sv) (sg sv) (sc sv) (sv 6) (sv 1) (sv 0) (clo (sf sv) (sg sv) (sv 5) (sv 1) (sv 2)) aw)) F hX (mX8_has l G (sv 4) v (by omega) (by omega)) (cA_S hts kw_801 kw_8 kw_799 kw_800 hdX8_has ⟨Nat.le_of_ble_eq_true rfl, Nat.le_of_ble_eq_true rfl⟩) rfl hl.1 rfl (Nat.le_of_ble_eq_true rfl) dX8_joins_46 ⟨Nat.le_of_ble_eq_true rfl, Nat.le_of_ble_eq_true rfl⟩ hP hD hS hA (List.Perm.refl _) (fun r46 u46 H locs hp46 hP hD hS => ?_)
      have hP : va_P G.1 vwCl (mow G ad z fo sv d pa ke ik fa te (mesN (sf sv) (sg sv) (sc sv) (sv 6) (sv 1) (sv 0) (clo (sf sv) (sg sv) (sv 5) (sv 1) (sv 2)) aw)) H := hP
      have hD : va_D A (mow G ad z fo sv d pa ke ik fa te (mesN (sf sv) (sg sv) (sc sv) (sv 6) (sv 1) (sv 0) (clo (sf sv) (sg sv) (sv 5) (sv 1) (sv 2)) aw)) := hD
      subst hp46
      refine bv_ne (b := (sv 4).testBit v) (tgt := 63) hx hb dX8_joins_49 (by decide) (fun c49 => ?_) (fun c49 => ?_)
      · refine lv_bipush (v := (-2)) hx hb dX8_joins_63 (by decide) ?_
        exact re_i (v := (-2)) hx hb hr hlocks hS () hP hD rfl dX8_joins_65
      · refine lv_aload_n hx hb dX8_joins_52 rfl (lv_at hl 0 rfl) ?_
        refine va_get (D := G.1) (ci := 7) (v := .ref (ad 8)) (C := RX8) (T := TX8) (N := 17) hx hb hts inA8 hown hX.1 hP 0 rfl rfl 15 (by decide) (hts _ kw_695) (fun _ h9 => h9) rfl dX8_joins_53 ?_
        refine lv_iload_n hx hb dX8_joins_56 rfl (lv_at hl 1 rfl) ?_
        refine nv_ald (f := mesN (sf sv) (sg sv) (sc sv) (sv 6) (sv 1) (sv 0) (clo (sf sv) (sg sv) (sv 5) (sv 1) (sv 2)) aw) (k := v) hx hb hX hP 8 rfl (by omega) (by decide) dX8_joins_57 ?_
        refine lv_ldc (v := (nI 1000000)) hx hb hown (hts _ kw_806) dX8_joins_58 ?_
        refine nv_lt (x := (mesN (sf sv) (sg sv) (sc sv) (sv 6) (sv 1) (sv 0) (clo (sf sv) (sg sv) (sv 5) (sv 1) (sv 2)) aw) v) (y := 1000000) (tgt := 66) hx hb dX8_joins_60 (by decide) (by have := hml9 v; omega) (by decide) (fun c60 => ?_) (fun c60 => ?_)
        · exact hst.elim (fun h => absurd h c36) (fun h => h.elim (fun h => absurd (c49.symm.trans h) (by decide)) (fun h => absurd h (Nat.not_le.mpr c60)))
        · refine lv_bipush (v := (-2)) hx hb dX8_joins_63 (by decide) ?_
          exact re_i (v := (-2)) hx hb hr hlocks hS () hP hD rfl dX8_joins_65
  · exact absurd c10 (by decide)

set_option maxHeartbeats 4000000 in
set_option maxRecDepth 100000 in
theorem mX8_joins_ok (l : Launch) (G : GG) (ad : Nat → Nat) (z : Nat → Nat) (fo : Option Nat) (sv : Nat → Nat) (d : Nat → Int32) (pa ke : Nat → Nat) (ik fa : Nat → Int32) (te aw : Nat → Nat) (v : Nat) (hB : SB sv) (ha : ∀ j, aw j ≤ 1000000) (hu4 : z 4 ≤ 6) (hv : v < sv 0) (h1 : v ≠ sv 2) (h2 : (sv 4).testBit v = false) (h3 : (mesN (sf sv) (sg sv) (sc sv) (sv 6) (sv 1) (sv 0) (clo (sf sv) (sg sv) (sv 5) (sv 1) (sv 2)) aw) v < 1000000) (hO : WOK (sf sv) (sg sv) (sc sv) (mesN (sf sv) (sg sv) (sc sv) (sv 6) (sv 1) (sv 0) (clo (sf sv) (sg sv) (sv 5) (sv 1) (sv 2)) aw) (sv 6) (sv 1) (sv 0)) (hBj : SB (joS sv (mesN (sf sv) (sg sv) (sc sv) (sv 6) (sv 1) (sv 0) (clo (sf sv) (sg sv) (sv 5) (sv 1) (sv 2)) aw) v)) (hc : mmF (sm (joS sv (mesN (sf sv) (sg sv) (sc sv) (sv 6) (sv 1) (sv 0) (clo (sf sv) (sg sv) (sv 5) (sv 1) (sv 2)) aw) v)) v ((joS sv (mesN (sf sv) (sg sv) (sc sv) (sv 6) (sv 1) (sv 0) (clo (sf sv) (sg sv) (sv 5) (sv 1) (sv 2)) aw) v) 7) = none → (joS sv (mesN (sf sv) (sg sv) (sc sv) (sv 6) (sv 1) (sv 0) (clo (sf sv) (sg sv) (sv 5) (sv 1) (sv 2)) aw) v) 7 < 7) (hB2 : SB (mtS (joS sv (mesN (sf sv) (sg sv) (sc sv) (sv 6) (sv 1) (sv 0) (clo (sf sv) (sg sv) (sv 5) (sv 1) (sv 2)) aw) v) v)) (hA3 : AnS (mtS (joS sv (mesN (sf sv) (sg sv) (sc sv) (sv 6) (sv 1) (sv 0) (clo (sf sv) (sg sv) (sv 5) (sv 1) (sv 2)) aw) v) v)) (hB4 : SB (mkS (joS sv (mesN (sf sv) (sg sv) (sc sv) (sv 6) (sv 1) (sv 0) (clo (sf sv) (sg sv) (sv 5) (sv 1) (sv 2)) aw) v) v)) : Mi l yX8_joins cX8_joins 2 (some .int) (rmN 5 118) G [.ref (ad 0), .int (nI v)] (mow G ad z fo sv d pa ke ik fa te aw) (fun (r9 : Int32) (u9 : (Nat → Nat)) => r9 = nI (coS (mkS (joS sv (mesN (sf sv) (sg sv) (sc sv) (sv 6) (sv 1) (sv 0) (clo (sf sv) (sg sv) (sv 5) (sv 1) (sv 2)) aw) v) v) ((mkS (joS sv (mesN (sf sv) (sg sv) (sc sv) (sv 6) (sv 1) (sv 0) (clo (sf sv) (sg sv) (sv 5) (sv 1) (sv 2)) aw) v) v) 5)) ∧ ∀ j, u9 j ≤ 1000000) (fun (u9 : (Nat → Nat)) => mow G ad (va_up z 4 (ntU (z 4) + 1)) fo (mkS (joS sv (mesN (sf sv) (sg sv) (sc sv) (sv 6) (sv 1) (sv 0) (clo (sf sv) (sg sv) (sv 5) (sv 1) (sv 2)) aw) v) v) d (ntP pa sv (z 4)) ke ik fa te u9) := by
  refine Mi.of (cc := cX8_joins) (nL := 2) (by decide) (Nat.le_of_ble_eq_true rfl) ?_
  intro p e s m below meth c A ls F hr hlocks hnm hX hA hD hP hS hl
  have F : CallFix p m c cX8_joins 2 s [.ref (ad 0), .int (nI v)].toArray wA RX8 := F
  obtain ⟨hx, hb, hml, hown, hts⟩ := id F
  have hl : lv_has ls 2 [(0, .ref (ad 0)), (1, .int (nI v))] := hl
  obtain ⟨⟨b0, b1, b2, b3, b4, b5, b6, b7, b8⟩, g1, g2, g3, g4⟩ := id hB
  have gf : ∀ j, sf sv j < 10 := fun j => g1 (16 + j) (by omega)
  have gg : ∀ j, sg sv j < 10 := fun j => g1 (28 + j) (by omega)
  have gc : ∀ j, sc sv j ≤ 9 := fun j => by have := g1 (40 + j) (by omega); unfold sc; omega
  have gf7 : ∀ j, j < 12 → sf sv j < 7 := g2
  have gg7 : ∀ j, j < 12 → sg sv j < 7 := g3
  have hcl : clo (sf sv) (sg sv) (sv 5) (sv 1) (sv 2) < 1024 := clo_lt gf gg (by omega)
  have hml9 : ∀ j, (mesN (sf sv) (sg sv) (sc sv) (sv 6) (sv 1) (sv 0) (clo (sf sv) (sg sv) (sv 5) (sv 1) (sv 2)) aw) j ≤ 1000000 := mesN_le ha
  refine lv_aload_n hx hb dX8_joins_0 rfl (lv_at hl 0 rfl) ?_
  refine lv_iconst (v := (nI 0)) hx hb dX8_joins_1 (by decide) ?_
  refine va_put (D := G.1) (ci := 7) (v := .int (nI 0)) (ty := .int) (C := RX8) (T := TX8) (N := 17) hx hb hts inA8 tyX8 tyX8_ok nmX8 hown hX.1 hP hD hS 0 rfl rfl 0 (by decide) (hts _ kw_680) (fun _ h9 => h9) rfl (by decide +kernel) rfl rfl (Nat.le_of_ble_eq_true rfl) dX8_joins_2 (fun H locs hP hD hS => ?_)
  have hP : va_P G.1 vwCl (mow G ad z fo sv d pa ke ik fa te aw) H := hP
  have hD : va_D A (mow G ad z fo sv d pa ke ik fa te aw) := hD
  refine lv_aload_n hx hb dX8_joins_5 rfl (lv_at hl 0 rfl) ?_
  refine lv_iload_n hx hb dX8_joins_6 rfl (lv_at hl 1 rfl) ?_
  refine ca_Vi (ci := 7) (q := (RX8, TX8, 17)) (rest := []) (wr := ([] : va_W)) F hX (mX8_isNode l G ad z fo sv d pa ke ik fa te aw (nI v) hB) (cA_V hts kw_794 kw_8 kw_791 kw_793 kp_29 hdX8_isNode ⟨Nat.le_of_ble_eq_true rfl, Nat.le_of_ble_eq_true rfl⟩) rfl rfl rfl hl.1 rfl (Nat.le_of_ble_eq_true rfl) dX8_joins_7 ⟨Nat.le_of_ble_eq_true rfl, Nat.le_of_ble_eq_true rfl⟩ hP hD hS hA (pm_nil _) (fun r7 u7 H locs hp7 hP hD hS => ?_)
  have hP : va_P G.1 vwCl (mow G ad z fo sv d pa ke ik fa te aw) H := wp_pm (pm_nil _).symm hP
  have hD : va_D A (mow G ad z fo sv d pa ke ik fa te aw) := wd_pm (pm_nil _).symm hD
  subst hp7
  refine ti (y := (bI true)) (by rw [nd_in (v := v) (n := sv 0) (by omega) (by omega)]) ?_
  refine bv_ne (b := true) (tgt := 15) hx hb dX8_joins_10 (by decide) (fun c10 => ?_) (fun c10 => ?_)
  · refine lv_aload_n hx hb dX8_joins_15 rfl (lv_at hl 0 rfl) ?_
    refine lv_aload_n hx hb dX8_joins_16 rfl (lv_at hl 0 rfl) ?_
    refine lv_aload_n hx hb dX8_joins_17 rfl (lv_at hl 0 rfl) ?_
    refine va_get (D := G.1) (ci := 7) (v := .ref (ad 1)) (C := RX8) (T := TX8) (N := 17) hx hb hts inA8 hown hX.1 hP 0 rfl rfl 1 (by decide) (hts _ kw_681) (fun _ h9 => h9) rfl dX8_joins_18 ?_
    refine lv_iconst (v := (nI 5)) hx hb dX8_joins_21 (by decide) ?_
    refine nv_ald (f := sv) (k := 5) hx hb hX hP 1 rfl (by omega) (by decide) dX8_joins_22 ?_
    refine ca_Vi (ci := 7) (q := (RX8, TX8, 17)) (rest := [.ref (ad 0)]) (wr := ([] : va_W)) F hX (mX8_nodesOf l G ad z fo sv d pa ke ik fa te aw (sv 5) hB (by omega)) (cA_V hts kw_798 kw_8 kw_795 kw_797 kp_30 hdX8_nodesOf ⟨Nat.le_of_ble_eq_true rfl, Nat.le_of_ble_eq_true rfl⟩) rfl rfl rfl hl.1 rfl (Nat.le_of_ble_eq_true rfl) dX8_joins_23 ⟨Nat.le_of_ble_eq_true rfl, Nat.le_of_ble_eq_true rfl⟩ hP hD hS hA (pm_nil _) (fun r23 u23 H locs hp23 hP hD hS => ?_)
    have hP : va_P G.1 vwCl (mow G ad z fo sv d pa ke ik fa te aw) H := wp_pm (pm_nil _).symm hP
    have hD : va_D A (mow G ad z fo sv d pa ke ik fa te aw) := wd_pm (pm_nil _).symm hD
    subst hp23
    refine ca_Vv (ci := 7) (q := (RX8, TX8, 17)) (rest := []) (wr := ([] : va_W)) F hX (mX8_measures l G ad z fo sv d pa ke ik fa te aw (clo (sf sv) (sg sv) (sv 5) (sv 1) (sv 2)) hB ha (by omega)) (cA_V hts kw_805 kw_8 kw_802 kw_804 kp_31 hdX8_measures ⟨Nat.le_of_ble_eq_true rfl, Nat.le_of_ble_eq_true rfl⟩) rfl rfl rfl hl.1 rfl (Nat.le_of_ble_eq_true rfl) dX8_joins_26 ⟨Nat.le_of_ble_eq_true rfl, Nat.le_of_ble_eq_true rfl⟩ hP hD hS hA (pm_nil _) (fun u26 H locs hp26 hP hD hS => ?_)
    have hP : va_P G.1 vwCl (mow G ad z fo sv d pa ke ik fa te (mesN (sf sv) (sg sv) (sc sv) (sv 6) (sv 1) (sv 0) (clo (sf sv) (sg sv) (sv 5) (sv 1) (sv 2)) aw)) H := wp_pm (pm_nil _).symm hP
    have hD : va_D A (mow G ad z fo sv d pa ke ik fa te (mesN (sf sv) (sg sv) (sc sv) (sv 6) (sv 1) (sv 0) (clo (sf sv) (sg sv) (sv 5) (sv 1) (sv 2)) aw)) := wd_pm (pm_nil _).symm hD
    refine lv_iload_n hx hb dX8_joins_29 rfl (lv_at hl 1 rfl) ?_
    refine lv_aload_n hx hb dX8_joins_30 rfl (lv_at hl 0 rfl) ?_
    refine va_get (D := G.1) (ci := 7) (v := .ref (ad 1)) (C := RX8) (T := TX8) (N := 17) hx hb hts inA8 hown hX.1 hP 0 rfl rfl 1 (by decide) (hts _ kw_681) (fun _ h9 => h9) rfl dX8_joins_31 ?_
    refine lv_iconst (v := (nI 2)) hx hb dX8_joins_34 (by decide) ?_
    refine nv_ald (f := sv) (k := 2) hx hb hX hP 1 rfl (by omega) (by decide) dX8_joins_35 ?_
    refine nv_eq (x := v) (y := sv 2) (tgt := 63) hx hb dX8_joins_36 (by decide) (by omega) (by omega) (fun c36 => ?_) (fun c36 => ?_)
    · exact absurd c36 h1
    · refine lv_aload_n hx hb dX8_joins_39 rfl (lv_at hl 0 rfl) ?_
      refine va_get (D := G.1) (ci := 7) (v := .ref (ad 1)) (C := RX8) (T := TX8) (N := 17) hx hb hts inA8 hown hX.1 hP 0 rfl rfl 1 (by decide) (hts _ kw_681) (fun _ h9 => h9) rfl dX8_joins_40 ?_
      refine lv_iconst (v := (nI 4)) hx hb dX8_joins_43 (by decide) ?_
      refine nv_ald (f := sv) (k := 4) hx hb hX hP 1 rfl (by omega) (by decide) dX8_joins_44 ?_
      refine lv_iload_n hx hb dX8_joins_45 rfl (lv_at hl 1 rfl) ?_
      refine ca_Si (rest := []) (wr := mow G ad z fo sv d pa ke ik fa te (mesN (sf sv) (sg sv) (sc sv) (sv 6) (sv 1) (sv 0) (clo (sf sv) (sg sv) (sv 5) (sv 1) (sv 2)) aw)) F hX (mX8_has l G (sv 4) v (by omega) (by omega)) (cA_S hts kw_801 kw_8 kw_799 kw_800 hdX8_has ⟨Nat.le_of_ble_eq_true rfl, Nat.le_of_ble_eq_true rfl⟩) rfl hl.1 rfl (Nat.le_of_ble_eq_true rfl) dX8_joins_46 ⟨Nat.le_of_ble_eq_true rfl, Nat.le_of_ble_eq_true rfl⟩ hP hD hS hA (List.Perm.refl _) (fun r46 u46 H locs hp46 hP hD hS => ?_)
      have hP : va_P G.1 vwCl (mow G ad z fo sv d pa ke ik fa te (mesN (sf sv) (sg sv) (sc sv) (sv 6) (sv 1) (sv 0) (clo (sf sv) (sg sv) (sv 5) (sv 1) (sv 2)) aw)) H := hP
      have hD : va_D A (mow G ad z fo sv d pa ke ik fa te (mesN (sf sv) (sg sv) (sc sv) (sv 6) (sv 1) (sv 0) (clo (sf sv) (sg sv) (sv 5) (sv 1) (sv 2)) aw)) := hD
      subst hp46
      refine bv_ne (b := (sv 4).testBit v) (tgt := 63) hx hb dX8_joins_49 (by decide) (fun c49 => ?_) (fun c49 => ?_)
      · exact absurd (h2.symm.trans c49) (by decide)
      · refine lv_aload_n hx hb dX8_joins_52 rfl (lv_at hl 0 rfl) ?_
        refine va_get (D := G.1) (ci := 7) (v := .ref (ad 8)) (C := RX8) (T := TX8) (N := 17) hx hb hts inA8 hown hX.1 hP 0 rfl rfl 15 (by decide) (hts _ kw_695) (fun _ h9 => h9) rfl dX8_joins_53 ?_
        refine lv_iload_n hx hb dX8_joins_56 rfl (lv_at hl 1 rfl) ?_
        refine nv_ald (f := mesN (sf sv) (sg sv) (sc sv) (sv 6) (sv 1) (sv 0) (clo (sf sv) (sg sv) (sv 5) (sv 1) (sv 2)) aw) (k := v) hx hb hX hP 8 rfl (by omega) (by decide) dX8_joins_57 ?_
        refine lv_ldc (v := (nI 1000000)) hx hb hown (hts _ kw_806) dX8_joins_58 ?_
        refine nv_lt (x := (mesN (sf sv) (sg sv) (sc sv) (sv 6) (sv 1) (sv 0) (clo (sf sv) (sg sv) (sv 5) (sv 1) (sv 2)) aw) v) (y := 1000000) (tgt := 66) hx hb dX8_joins_60 (by decide) (by have := hml9 v; omega) (by decide) (fun c60 => ?_) (fun c60 => ?_)
        · refine lv_aload_n hx hb dX8_joins_66 rfl (lv_at hl 0 rfl) ?_
          refine ca_Vv (ci := 7) (q := (RX8, TX8, 17)) (rest := []) (wr := ([] : va_W)) F hX (mX8_notes l G ad z fo sv d pa ke ik fa te (mesN (sf sv) (sg sv) (sc sv) (sv 6) (sv 1) (sv 0) (clo (sf sv) (sg sv) (sv 5) (sv 1) (sv 2)) aw)  hu4) (cA_V hts kw_786 kw_8 kw_783 kw_785 kp_28 hdX8_notes ⟨Nat.le_of_ble_eq_true rfl, Nat.le_of_ble_eq_true rfl⟩) rfl rfl rfl hl.1 rfl (Nat.le_of_ble_eq_true rfl) dX8_joins_67 ⟨Nat.le_of_ble_eq_true rfl, Nat.le_of_ble_eq_true rfl⟩ hP hD hS hA (pm_nil _) (fun u67 H locs hp67 hP hD hS => ?_)
          have hP : va_P G.1 vwCl (mow G ad (va_up z 4 (ntU (z 4) + 1)) fo sv d (ntP pa sv (z 4)) ke ik fa te (mesN (sf sv) (sg sv) (sc sv) (sv 6) (sv 1) (sv 0) (clo (sf sv) (sg sv) (sv 5) (sv 1) (sv 2)) aw)) H := wp_pm (pm_nil _).symm hP
          have hD : va_D A (mow G ad (va_up z 4 (ntU (z 4) + 1)) fo sv d (ntP pa sv (z 4)) ke ik fa te (mesN (sf sv) (sg sv) (sc sv) (sv 6) (sv 1) (sv 0) (clo (sf sv) (sg sv) (sv 5) (sv 1) (sv 2)) aw)) := wd_pm (pm_nil _).symm hD
          refine lv_aload_n hx hb dX8_joins_70 rfl (lv_at hl 0 rfl) ?_
          refine va_get (D := G.1) (ci := 7) (v := .ref (ad 1)) (C := RX8) (T := TX8) (N := 17) hx hb hts inA8 hown hX.1 hP 0 rfl rfl 1 (by decide) (hts _ kw_681) (fun _ h9 => h9) rfl dX8_joins_71 ?_
          refine lv_iconst (v := (nI 4)) hx hb dX8_joins_74 (by decide) ?_
          refine lv_dup2_11 hx hb dX8_joins_75 rfl rfl ?_
          refine nv_ald (f := sv) (k := 4) hx hb hX hP 1 rfl (by omega) (by decide) dX8_joins_76 ?_
          refine lv_iconst (v := (nI 1)) hx hb dX8_joins_77 (by decide) ?_
          refine lv_iload_n hx hb dX8_joins_78 rfl (lv_at hl 1 rfl) ?_
          refine lv_ishl hx hb dX8_joins_79 (ti (y := (nI (2 ^ v))) (qn_sh1 (by omega)) ?_)
          refine lv_ior hx hb dX8_joins_80 (ti (y := (nI ((sv 4) ||| (2 ^ v)))) (qn_or _ _) ?_)
          refine nv_ast (f := sv) (k := 4) (v := (sv 4) ||| (2 ^ v)) hx hb hX hP hD hS 1 rfl (by omega) (by decide) dX8_joins_81 (fun H locs hP hD hS => ?_)
          have hP : va_P G.1 vwCl (mow G ad (va_up z 4 (ntU (z 4) + 1)) fo (va_up sv 4 ((sv 4) ||| (2 ^ v))) d (ntP pa sv (z 4)) ke ik fa te (mesN (sf sv) (sg sv) (sc sv) (sv 6) (sv 1) (sv 0) (clo (sf sv) (sg sv) (sv 5) (sv 1) (sv 2)) aw)) H := hP
          have hD : va_D A (mow G ad (va_up z 4 (ntU (z 4) + 1)) fo (va_up sv 4 ((sv 4) ||| (2 ^ v))) d (ntP pa sv (z 4)) ke ik fa te (mesN (sf sv) (sg sv) (sc sv) (sv 6) (sv 1) (sv 0) (clo (sf sv) (sg sv) (sv 5) (sv 1) (sv 2)) aw)) := hD
          refine lv_aload_n hx hb dX8_joins_82 rfl (lv_at hl 0 rfl) ?_
          refine va_get (D := G.1) (ci := 7) (v := .ref (ad 1)) (C := RX8) (T := TX8) (N := 17) hx hb hts inA8 hown hX.1 hP 0 rfl rfl 1 (by decide) (hts _ kw_681) (fun _ h9 => h9) rfl dX8_joins_83 ?_
          refine lv_iconst (v := (nI 5)) hx hb dX8_joins_86 (by decide) ?_
          refine lv_dup2_11 hx hb dX8_joins_87 rfl rfl ?_
          refine nv_ald (f := va_up sv 4 ((sv 4) ||| (2 ^ v))) (k := 5) hx hb hX hP 1 rfl (by omega) (by decide) dX8_joins_88 ?_
          refine ti (y := (nI (sv 5))) rfl ?_
          refine lv_aload_n hx hb dX8_joins_89 rfl (lv_at hl 0 rfl) ?_
          refine lv_iload_n hx hb dX8_joins_90 rfl (lv_at hl 1 rfl) ?_
          refine ca_Vi (ci := 7) (q := (RX8, TX8, 17)) (rest := [.int (nI (sv 5)), .int (nI 5), .ref (ad 1)]) (wr := ([] : va_W)) F hX (mX8_wayOf l G ad (va_up z 4 (ntU (z 4) + 1)) fo (va_up sv 4 ((sv 4) ||| (2 ^ v))) d (ntP pa sv (z 4)) ke ik fa te (mesN (sf sv) (sg sv) (sc sv) (sv 6) (sv 1) (sv 0) (clo (sf sv) (sg sv) (sv 5) (sv 1) (sv 2)) aw) v (hB.u4 (or_lt (n := 7) b5 (pw_lt (by omega)))) hml9 hv h3 (by rw [sf_u (show 4 < 16 by decide), sg_u (show 4 < 28 by decide), sc_u (show 4 < 40 by decide)]; exact hO)) (cA_V hts kw_810 kw_8 kw_807 kw_809 kp_32 hdX8_wayOf ⟨Nat.le_of_ble_eq_true rfl, Nat.le_of_ble_eq_true rfl⟩) rfl rfl rfl hl.1 rfl (Nat.le_of_ble_eq_true rfl) dX8_joins_91 ⟨Nat.le_of_ble_eq_true rfl, Nat.le_of_ble_eq_true rfl⟩ hP hD hS hA (pm_nil _) (fun r91 u91 H locs hp91 hP hD hS => ?_)
          have hP : va_P G.1 vwCl (mow G ad (va_up z 4 (ntU (z 4) + 1)) fo (va_up sv 4 ((sv 4) ||| (2 ^ v))) d (ntP pa sv (z 4)) ke ik fa te (mesN (sf sv) (sg sv) (sc sv) (sv 6) (sv 1) (sv 0) (clo (sf sv) (sg sv) (sv 5) (sv 1) (sv 2)) aw)) H := wp_pm (pm_nil _).symm hP
          have hD : va_D A (mow G ad (va_up z 4 (ntU (z 4) + 1)) fo (va_up sv 4 ((sv 4) ||| (2 ^ v))) d (ntP pa sv (z 4)) ke ik fa te (mesN (sf sv) (sg sv) (sc sv) (sv 6) (sv 1) (sv 0) (clo (sf sv) (sg sv) (sv 5) (sv 1) (sv 2)) aw)) := wd_pm (pm_nil _).symm hD
          subst hp91
          refine ti (y := (nI (wfM (sf sv) (sg sv) (sc sv) (mesN (sf sv) (sg sv) (sc sv) (sv 6) (sv 1) (sv 0) (clo (sf sv) (sg sv) (sv 5) (sv 1) (sv 2)) aw) (sv 6) (sv 1) 1000000 v 0))) (by rw [sf_u (show 4 < 16 by decide), sg_u (show 4 < 28 by decide), sc_u (show 4 < 40 by decide)]; rfl) ?_
          refine lv_ior hx hb dX8_joins_94 (ti (y := (nI ((sv 5) ||| (wfM (sf sv) (sg sv) (sc sv) (mesN (sf sv) (sg sv) (sc sv) (sv 6) (sv 1) (sv 0) (clo (sf sv) (sg sv) (sv 5) (sv 1) (sv 2)) aw) (sv 6) (sv 1) 1000000 v 0)))) (qn_or _ _) ?_)
          refine nv_ast (f := va_up sv 4 ((sv 4) ||| (2 ^ v))) (k := 5) (v := (sv 5) ||| (wfM (sf sv) (sg sv) (sc sv) (mesN (sf sv) (sg sv) (sc sv) (sv 6) (sv 1) (sv 0) (clo (sf sv) (sg sv) (sv 5) (sv 1) (sv 2)) aw) (sv 6) (sv 1) 1000000 v 0)) hx hb hX hP hD hS 1 rfl (by omega) (by decide) dX8_joins_95 (fun H locs hP hD hS => ?_)
          have hP : va_P G.1 vwCl (mow G ad (va_up z 4 (ntU (z 4) + 1)) fo (va_up (va_up sv 4 ((sv 4) ||| (2 ^ v))) 5 ((sv 5) ||| (wfM (sf sv) (sg sv) (sc sv) (mesN (sf sv) (sg sv) (sc sv) (sv 6) (sv 1) (sv 0) (clo (sf sv) (sg sv) (sv 5) (sv 1) (sv 2)) aw) (sv 6) (sv 1) 1000000 v 0))) d (ntP pa sv (z 4)) ke ik fa te (mesN (sf sv) (sg sv) (sc sv) (sv 6) (sv 1) (sv 0) (clo (sf sv) (sg sv) (sv 5) (sv 1) (sv 2)) aw)) H := hP
          have hD : va_D A (mow G ad (va_up z 4 (ntU (z 4) + 1)) fo (va_up (va_up sv 4 ((sv 4) ||| (2 ^ v))) 5 ((sv 5) ||| (wfM (sf sv) (sg sv) (sc sv) (mesN (sf sv) (sg sv) (sc sv) (sv 6) (sv 1) (sv 0) (clo (sf sv) (sg sv) (sv 5) (sv 1) (sv 2)) aw) (sv 6) (sv 1) 1000000 v 0))) d (ntP pa sv (z 4)) ke ik fa te (mesN (sf sv) (sg sv) (sc sv) (sv 6) (sv 1) (sv 0) (clo (sf sv) (sg sv) (sv 5) (sv 1) (sv 2)) aw)) := hD
          have hP : va_P G.1 vwCl (mow G ad (va_up z 4 (ntU (z 4) + 1)) fo (joS sv (mesN (sf sv) (sg sv) (sc sv) (sv 6) (sv 1) (sv 0) (clo (sf sv) (sg sv) (sv 5) (sv 1) (sv 2)) aw) v) d (ntP pa sv (z 4)) ke ik fa te (mesN (sf sv) (sg sv) (sc sv) (sv 6) (sv 1) (sv 0) (clo (sf sv) (sg sv) (sv 5) (sv 1) (sv 2)) aw)) H := by rw [show (joS sv (mesN (sf sv) (sg sv) (sc sv) (sv 6) (sv 1) (sv 0) (clo (sf sv) (sg sv) (sv 5) (sv 1) (sv 2)) aw) v) = va_up (va_up sv 4 ((sv 4) ||| (2 ^ v))) 5 ((sv 5) ||| (wfM (sf sv) (sg sv) (sc sv) (mesN (sf sv) (sg sv) (sc sv) (sv 6) (sv 1) (sv 0) (clo (sf sv) (sg sv) (sv 5) (sv 1) (sv 2)) aw) (sv 6) (sv 1) 1000000 v 0)) from rfl]; exact hP
          have hD : va_D A (mow G ad (va_up z 4 (ntU (z 4) + 1)) fo (joS sv (mesN (sf sv) (sg sv) (sc sv) (sv 6) (sv 1) (sv 0) (clo (sf sv) (sg sv) (sv 5) (sv 1) (sv 2)) aw) v) d (ntP pa sv (z 4)) ke ik fa te (mesN (sf sv) (sg sv) (sc sv) (sv 6) (sv 1) (sv 0) (clo (sf sv) (sg sv) (sv 5) (sv 1) (sv 2)) aw)) := by rw [show (joS sv (mesN (sf sv) (sg sv) (sc sv) (sv 6) (sv 1) (sv 0) (clo (sf sv) (sg sv) (sv 5) (sv 1) (sv 2)) aw) v) = va_up (va_up sv 4 ((sv 4) ||| (2 ^ v))) 5 ((sv 5) ||| (wfM (sf sv) (sg sv) (sc sv) (mesN (sf sv) (sg sv) (sc sv) (sv 6) (sv 1) (sv 0) (clo (sf sv) (sg sv) (sv 5) (sv 1) (sv 2)) aw) (sv 6) (sv 1) 1000000 v 0)) from rfl]; exact hD
          refine lv_aload_n hx hb dX8_joins_96 rfl (lv_at hl 0 rfl) ?_
          refine lv_iload_n hx hb dX8_joins_97 rfl (lv_at hl 1 rfl) ?_
          refine ca_Vv (ci := 7) (q := (RX8, TX8, 17)) (rest := []) (wr := ([] : va_W)) F hX (mX8_marks l G ad (va_up z 4 (ntU (z 4) + 1)) fo (joS sv (mesN (sf sv) (sg sv) (sc sv) (sv 6) (sv 1) (sv 0) (clo (sf sv) (sg sv) (sv 5) (sv 1) (sv 2)) aw) v) d (ntP pa sv (z 4)) ke ik fa te (mesN (sf sv) (sg sv) (sc sv) (sv 6) (sv 1) (sv 0) (clo (sf sv) (sg sv) (sv 5) (sv 1) (sv 2)) aw) v hBj hml9 (by omega) hc hB2 hA3) (cA_V hts kw_822 kw_8 kw_819 kw_821 kp_35 hdX8_marks ⟨Nat.le_of_ble_eq_true rfl, Nat.le_of_ble_eq_true rfl⟩) rfl rfl rfl hl.1 rfl (Nat.le_of_ble_eq_true rfl) dX8_joins_98 ⟨Nat.le_of_ble_eq_true rfl, Nat.le_of_ble_eq_true rfl⟩ hP hD hS hA (pm_nil _) (fun u98 H locs hp98 hP hD hS => ?_)
          have hu98 := hp98
          have hP : va_P G.1 vwCl (mow G ad (va_up z 4 (ntU (z 4) + 1)) fo (mkS (joS sv (mesN (sf sv) (sg sv) (sc sv) (sv 6) (sv 1) (sv 0) (clo (sf sv) (sg sv) (sv 5) (sv 1) (sv 2)) aw) v) v) d (ntP pa sv (z 4)) ke ik fa te u98) H := wp_pm (pm_nil _).symm hP
          have hD : va_D A (mow G ad (va_up z 4 (ntU (z 4) + 1)) fo (mkS (joS sv (mesN (sf sv) (sg sv) (sc sv) (sv 6) (sv 1) (sv 0) (clo (sf sv) (sg sv) (sv 5) (sv 1) (sv 2)) aw) v) v) d (ntP pa sv (z 4)) ke ik fa te u98) := wd_pm (pm_nil _).symm hD
          refine lv_aload_n hx hb dX8_joins_101 rfl (lv_at hl 0 rfl) ?_
          refine lv_aload_n hx hb dX8_joins_102 rfl (lv_at hl 0 rfl) ?_
          refine va_get (D := G.1) (ci := 7) (v := .ref (ad 1)) (C := RX8) (T := TX8) (N := 17) hx hb hts inA8 hown hX.1 hP 0 rfl rfl 1 (by decide) (hts _ kw_681) (fun _ h9 => h9) rfl dX8_joins_103 ?_
          refine lv_iconst (v := (nI 5)) hx hb dX8_joins_106 (by decide) ?_
          refine nv_ald (f := mkS (joS sv (mesN (sf sv) (sg sv) (sc sv) (sv 6) (sv 1) (sv 0) (clo (sf sv) (sg sv) (sv 5) (sv 1) (sv 2)) aw) v) v) (k := 5) hx hb hX hP 1 rfl (by omega) (by decide) dX8_joins_107 ?_
          refine ca_Vi (ci := 7) (q := (RX8, TX8, 17)) (rest := []) (wr := ([] : va_W)) F hX (mX8_costOf l G ad (va_up z 4 (ntU (z 4) + 1)) fo (mkS (joS sv (mesN (sf sv) (sg sv) (sc sv) (sv 6) (sv 1) (sv 0) (clo (sf sv) (sg sv) (sv 5) (sv 1) (sv 2)) aw) v) v) d (ntP pa sv (z 4)) ke ik fa te u98 ((mkS (joS sv (mesN (sf sv) (sg sv) (sc sv) (sv 6) (sv 1) (sv 0) (clo (sf sv) (sg sv) (sv 5) (sv 1) (sv 2)) aw) v) v) 5) hB4 (by have := hB4.1.2.2.2.2.2.2.1; omega)) (cA_V hts kw_834 kw_8 kw_831 kw_833 kp_38 hdX8_costOf ⟨Nat.le_of_ble_eq_true rfl, Nat.le_of_ble_eq_true rfl⟩) rfl rfl rfl hl.1 rfl (Nat.le_of_ble_eq_true rfl) dX8_joins_108 ⟨Nat.le_of_ble_eq_true rfl, Nat.le_of_ble_eq_true rfl⟩ hP hD hS hA (pm_nil _) (fun r108 u108 H locs hp108 hP hD hS => ?_)
          have hP : va_P G.1 vwCl (mow G ad (va_up z 4 (ntU (z 4) + 1)) fo (mkS (joS sv (mesN (sf sv) (sg sv) (sc sv) (sv 6) (sv 1) (sv 0) (clo (sf sv) (sg sv) (sv 5) (sv 1) (sv 2)) aw) v) v) d (ntP pa sv (z 4)) ke ik fa te u98) H := wp_pm (pm_nil _).symm hP
          have hD : va_D A (mow G ad (va_up z 4 (ntU (z 4) + 1)) fo (mkS (joS sv (mesN (sf sv) (sg sv) (sc sv) (sv 6) (sv 1) (sv 0) (clo (sf sv) (sg sv) (sv 5) (sv 1) (sv 2)) aw) v) v) d (ntP pa sv (z 4)) ke ik fa te u98) := wd_pm (pm_nil _).symm hD
          subst hp108
          refine ti (y := (nI (coS (mkS (joS sv (mesN (sf sv) (sg sv) (sc sv) (sv 6) (sv 1) (sv 0) (clo (sf sv) (sg sv) (sv 5) (sv 1) (sv 2)) aw) v) v) ((mkS (joS sv (mesN (sf sv) (sg sv) (sc sv) (sv 6) (sv 1) (sv 0) (clo (sf sv) (sg sv) (sv 5) (sv 1) (sv 2)) aw) v) v) 5)))) rfl ?_
          exact re_i (v := (nI (coS (mkS (joS sv (mesN (sf sv) (sg sv) (sc sv) (sv 6) (sv 1) (sv 0) (clo (sf sv) (sg sv) (sv 5) (sv 1) (sv 2)) aw) v) v) ((mkS (joS sv (mesN (sf sv) (sg sv) (sc sv) (sv 6) (sv 1) (sv 0) (clo (sf sv) (sg sv) (sv 5) (sv 1) (sv 2)) aw) v) v) 5)))) hx hb hr hlocks hS u98 hP hD ⟨rfl, hu98⟩ dX8_joins_111
        · exact absurd h3 (Nat.not_lt.mpr c60)
  · exact absurd c10 (by decide)

set_option maxHeartbeats 4000000 in
set_option maxRecDepth 100000 in
theorem mX8_leaves_state (l : Launch) (G : GG) (ad : Nat → Nat) (z : Nat → Nat) (fo : Option Nat) (sv : Nat → Nat) (d : Nat → Int32) (pa ke : Nat → Nat) (ik fa : Nat → Int32) (te aw : Nat → Nat) (v : Nat) (hB : SB sv) (hv : v < sv 0) (hst : (sv 4).testBit v = false) : Mi l yX8_leaves cX8_leaves 2 (some .int) (rmN 2 43) G [.ref (ad 0), .int (nI v)] (mow G ad z fo sv d pa ke ik fa te aw) (fun (r9 : Int32) (_ : Unit) => r9 = (-2)) (fun (_ : Unit) => mow G ad z fo sv d pa ke ik fa te aw) := by
  refine Mi.of (cc := cX8_leaves) (nL := 2) (by decide) (Nat.le_of_ble_eq_true rfl) ?_
  intro p e s m below meth c A ls F hr hlocks hnm hX hA hD hP hS hl
  have F : CallFix p m c cX8_leaves 2 s [.ref (ad 0), .int (nI v)].toArray wA RX8 := F
  obtain ⟨hx, hb, hml, hown, hts⟩ := id F
  have hl : lv_has ls 2 [(0, .ref (ad 0)), (1, .int (nI v))] := hl
  obtain ⟨⟨b0, b1, b2, b3, b4, b5, b6, b7, b8⟩, g1, g2, g3, g4⟩ := id hB
  have gf : ∀ j, sf sv j < 10 := fun j => g1 (16 + j) (by omega)
  have gg : ∀ j, sg sv j < 10 := fun j => g1 (28 + j) (by omega)
  have gc : ∀ j, sc sv j ≤ 9 := fun j => by have := g1 (40 + j) (by omega); unfold sc; omega
  have gf7 : ∀ j, j < 12 → sf sv j < 7 := g2
  have gg7 : ∀ j, j < 12 → sg sv j < 7 := g3
  refine lv_aload_n hx hb dX8_leaves_0 rfl (lv_at hl 0 rfl) ?_
  refine lv_iconst (v := (nI 0)) hx hb dX8_leaves_1 (by decide) ?_
  refine va_put (D := G.1) (ci := 7) (v := .int (nI 0)) (ty := .int) (C := RX8) (T := TX8) (N := 17) hx hb hts inA8 tyX8 tyX8_ok nmX8 hown hX.1 hP hD hS 0 rfl rfl 0 (by decide) (hts _ kw_680) (fun _ h9 => h9) rfl (by decide +kernel) rfl rfl (Nat.le_of_ble_eq_true rfl) dX8_leaves_2 (fun H locs hP hD hS => ?_)
  have hP : va_P G.1 vwCl (mow G ad z fo sv d pa ke ik fa te aw) H := hP
  have hD : va_D A (mow G ad z fo sv d pa ke ik fa te aw) := hD
  refine lv_aload_n hx hb dX8_leaves_5 rfl (lv_at hl 0 rfl) ?_
  refine lv_iload_n hx hb dX8_leaves_6 rfl (lv_at hl 1 rfl) ?_
  refine ca_Vi (ci := 7) (q := (RX8, TX8, 17)) (rest := []) (wr := ([] : va_W)) F hX (mX8_isNode l G ad z fo sv d pa ke ik fa te aw (nI v) hB) (cA_V hts kw_794 kw_8 kw_791 kw_793 kp_29 hdX8_isNode ⟨Nat.le_of_ble_eq_true rfl, Nat.le_of_ble_eq_true rfl⟩) rfl rfl rfl hl.1 rfl (Nat.le_of_ble_eq_true rfl) dX8_leaves_7 ⟨Nat.le_of_ble_eq_true rfl, Nat.le_of_ble_eq_true rfl⟩ hP hD hS hA (pm_nil _) (fun r7 u7 H locs hp7 hP hD hS => ?_)
  have hP : va_P G.1 vwCl (mow G ad z fo sv d pa ke ik fa te aw) H := wp_pm (pm_nil _).symm hP
  have hD : va_D A (mow G ad z fo sv d pa ke ik fa te aw) := wd_pm (pm_nil _).symm hD
  subst hp7
  refine ti (y := (bI true)) (by rw [nd_in (v := v) (n := sv 0) (by omega) (by omega)]) ?_
  refine bv_ne (b := true) (tgt := 15) hx hb dX8_leaves_10 (by decide) (fun c10 => ?_) (fun c10 => ?_)
  · refine lv_aload_n hx hb dX8_leaves_15 rfl (lv_at hl 0 rfl) ?_
    refine va_get (D := G.1) (ci := 7) (v := .ref (ad 1)) (C := RX8) (T := TX8) (N := 17) hx hb hts inA8 hown hX.1 hP 0 rfl rfl 1 (by decide) (hts _ kw_681) (fun _ h9 => h9) rfl dX8_leaves_16 ?_
    refine lv_iconst (v := (nI 4)) hx hb dX8_leaves_19 (by decide) ?_
    refine nv_ald (f := sv) (k := 4) hx hb hX hP 1 rfl (by omega) (by decide) dX8_leaves_20 ?_
    refine lv_iload_n hx hb dX8_leaves_21 rfl (lv_at hl 1 rfl) ?_
    refine ca_Si (rest := []) (wr := mow G ad z fo sv d pa ke ik fa te aw) F hX (mX8_has l G (sv 4) v (by omega) (by omega)) (cA_S hts kw_801 kw_8 kw_799 kw_800 hdX8_has ⟨Nat.le_of_ble_eq_true rfl, Nat.le_of_ble_eq_true rfl⟩) rfl hl.1 rfl (Nat.le_of_ble_eq_true rfl) dX8_leaves_22 ⟨Nat.le_of_ble_eq_true rfl, Nat.le_of_ble_eq_true rfl⟩ hP hD hS hA (List.Perm.refl _) (fun r22 u22 H locs hp22 hP hD hS => ?_)
    have hP : va_P G.1 vwCl (mow G ad z fo sv d pa ke ik fa te aw) H := hP
    have hD : va_D A (mow G ad z fo sv d pa ke ik fa te aw) := hD
    subst hp22
    refine bv_ne (b := (sv 4).testBit v) (tgt := 31) hx hb dX8_leaves_25 (by decide) (fun c25 => ?_) (fun c25 => ?_)
    · exact absurd (hst.symm.trans c25) (by decide)
    · refine lv_bipush (v := (-2)) hx hb dX8_leaves_28 (by decide) ?_
      exact re_i (v := (-2)) hx hb hr hlocks hS () hP hD rfl dX8_leaves_30
  · exact absurd c10 (by decide)

set_option maxHeartbeats 4000000 in
set_option maxRecDepth 100000 in
theorem mX8_leaves_ok (l : Launch) (G : GG) (ad : Nat → Nat) (z : Nat → Nat) (fo : Option Nat) (sv : Nat → Nat) (d : Nat → Int32) (pa ke : Nat → Nat) (ik fa : Nat → Int32) (te aw : Nat → Nat) (v : Nat) (hB : SB sv) (ha : ∀ j, aw j ≤ 1000000) (hu4 : z 4 ≤ 6) (hv : v < sv 0) (hst : (sv 4).testBit v = true) (hBj : SB (leS sv v)) (hc : mmF (sm (leS sv v)) v ((leS sv v) 7) = none → (leS sv v) 7 < 7) (hB2 : SB (mtS (leS sv v) v)) (hA3 : AnS (mtS (leS sv v) v)) (hB4 : SB (mkS (leS sv v) v)) : Mi l yX8_leaves cX8_leaves 2 (some .int) (rmN 5 118) G [.ref (ad 0), .int (nI v)] (mow G ad z fo sv d pa ke ik fa te aw) (fun (r9 : Int32) (u9 : (Nat → Nat)) => r9 = nI (coS (mkS (leS sv v) v) ((mkS (leS sv v) v) 5)) ∧ ∀ j, u9 j ≤ 1000000) (fun (u9 : (Nat → Nat)) => mow G ad (va_up z 4 (ntU (z 4) + 1)) fo (mkS (leS sv v) v) d (ntP pa sv (z 4)) ke ik fa te u9) := by
  refine Mi.of (cc := cX8_leaves) (nL := 2) (by decide) (Nat.le_of_ble_eq_true rfl) ?_
  intro p e s m below meth c A ls F hr hlocks hnm hX hA hD hP hS hl
  have F : CallFix p m c cX8_leaves 2 s [.ref (ad 0), .int (nI v)].toArray wA RX8 := F
  obtain ⟨hx, hb, hml, hown, hts⟩ := id F
  have hl : lv_has ls 2 [(0, .ref (ad 0)), (1, .int (nI v))] := hl
  obtain ⟨⟨b0, b1, b2, b3, b4, b5, b6, b7, b8⟩, g1, g2, g3, g4⟩ := id hB
  have gf : ∀ j, sf sv j < 10 := fun j => g1 (16 + j) (by omega)
  have gg : ∀ j, sg sv j < 10 := fun j => g1 (28 + j) (by omega)
  have gc : ∀ j, sc sv j ≤ 9 := fun j => by have := g1 (40 + j) (by omega); unfold sc; omega
  have gf7 : ∀ j, j < 12 → sf sv j < 7 := g2
  have gg7 : ∀ j, j < 12 → sg sv j < 7 := g3
  refine lv_aload_n hx hb dX8_leaves_0 rfl (lv_at hl 0 rfl) ?_
  refine lv_iconst (v := (nI 0)) hx hb dX8_leaves_1 (by decide) ?_
  refine va_put (D := G.1) (ci := 7) (v := .int (nI 0)) (ty := .int) (C := RX8) (T := TX8) (N := 17) hx hb hts inA8 tyX8 tyX8_ok nmX8 hown hX.1 hP hD hS 0 rfl rfl 0 (by decide) (hts _ kw_680) (fun _ h9 => h9) rfl (by decide +kernel) rfl rfl (Nat.le_of_ble_eq_true rfl) dX8_leaves_2 (fun H locs hP hD hS => ?_)
  have hP : va_P G.1 vwCl (mow G ad z fo sv d pa ke ik fa te aw) H := hP
  have hD : va_D A (mow G ad z fo sv d pa ke ik fa te aw) := hD
  refine lv_aload_n hx hb dX8_leaves_5 rfl (lv_at hl 0 rfl) ?_
  refine lv_iload_n hx hb dX8_leaves_6 rfl (lv_at hl 1 rfl) ?_
  refine ca_Vi (ci := 7) (q := (RX8, TX8, 17)) (rest := []) (wr := ([] : va_W)) F hX (mX8_isNode l G ad z fo sv d pa ke ik fa te aw (nI v) hB) (cA_V hts kw_794 kw_8 kw_791 kw_793 kp_29 hdX8_isNode ⟨Nat.le_of_ble_eq_true rfl, Nat.le_of_ble_eq_true rfl⟩) rfl rfl rfl hl.1 rfl (Nat.le_of_ble_eq_true rfl) dX8_leaves_7 ⟨Nat.le_of_ble_eq_true rfl, Nat.le_of_ble_eq_true rfl⟩ hP hD hS hA (pm_nil _) (fun r7 u7 H locs hp7 hP hD hS => ?_)
  have hP : va_P G.1 vwCl (mow G ad z fo sv d pa ke ik fa te aw) H := wp_pm (pm_nil _).symm hP
  have hD : va_D A (mow G ad z fo sv d pa ke ik fa te aw) := wd_pm (pm_nil _).symm hD
  subst hp7
  refine ti (y := (bI true)) (by rw [nd_in (v := v) (n := sv 0) (by omega) (by omega)]) ?_
  refine bv_ne (b := true) (tgt := 15) hx hb dX8_leaves_10 (by decide) (fun c10 => ?_) (fun c10 => ?_)
  · refine lv_aload_n hx hb dX8_leaves_15 rfl (lv_at hl 0 rfl) ?_
    refine va_get (D := G.1) (ci := 7) (v := .ref (ad 1)) (C := RX8) (T := TX8) (N := 17) hx hb hts inA8 hown hX.1 hP 0 rfl rfl 1 (by decide) (hts _ kw_681) (fun _ h9 => h9) rfl dX8_leaves_16 ?_
    refine lv_iconst (v := (nI 4)) hx hb dX8_leaves_19 (by decide) ?_
    refine nv_ald (f := sv) (k := 4) hx hb hX hP 1 rfl (by omega) (by decide) dX8_leaves_20 ?_
    refine lv_iload_n hx hb dX8_leaves_21 rfl (lv_at hl 1 rfl) ?_
    refine ca_Si (rest := []) (wr := mow G ad z fo sv d pa ke ik fa te aw) F hX (mX8_has l G (sv 4) v (by omega) (by omega)) (cA_S hts kw_801 kw_8 kw_799 kw_800 hdX8_has ⟨Nat.le_of_ble_eq_true rfl, Nat.le_of_ble_eq_true rfl⟩) rfl hl.1 rfl (Nat.le_of_ble_eq_true rfl) dX8_leaves_22 ⟨Nat.le_of_ble_eq_true rfl, Nat.le_of_ble_eq_true rfl⟩ hP hD hS hA (List.Perm.refl _) (fun r22 u22 H locs hp22 hP hD hS => ?_)
    have hP : va_P G.1 vwCl (mow G ad z fo sv d pa ke ik fa te aw) H := hP
    have hD : va_D A (mow G ad z fo sv d pa ke ik fa te aw) := hD
    subst hp22
    refine bv_ne (b := (sv 4).testBit v) (tgt := 31) hx hb dX8_leaves_25 (by decide) (fun c25 => ?_) (fun c25 => ?_)
    · refine lv_aload_n hx hb dX8_leaves_31 rfl (lv_at hl 0 rfl) ?_
      refine ca_Vv (ci := 7) (q := (RX8, TX8, 17)) (rest := []) (wr := ([] : va_W)) F hX (mX8_notes l G ad z fo sv d pa ke ik fa te aw  hu4) (cA_V hts kw_786 kw_8 kw_783 kw_785 kp_28 hdX8_notes ⟨Nat.le_of_ble_eq_true rfl, Nat.le_of_ble_eq_true rfl⟩) rfl rfl rfl hl.1 rfl (Nat.le_of_ble_eq_true rfl) dX8_leaves_32 ⟨Nat.le_of_ble_eq_true rfl, Nat.le_of_ble_eq_true rfl⟩ hP hD hS hA (pm_nil _) (fun u32 H locs hp32 hP hD hS => ?_)
      have hP : va_P G.1 vwCl (mow G ad (va_up z 4 (ntU (z 4) + 1)) fo sv d (ntP pa sv (z 4)) ke ik fa te aw) H := wp_pm (pm_nil _).symm hP
      have hD : va_D A (mow G ad (va_up z 4 (ntU (z 4) + 1)) fo sv d (ntP pa sv (z 4)) ke ik fa te aw) := wd_pm (pm_nil _).symm hD
      refine lv_aload_n hx hb dX8_leaves_35 rfl (lv_at hl 0 rfl) ?_
      refine va_get (D := G.1) (ci := 7) (v := .ref (ad 1)) (C := RX8) (T := TX8) (N := 17) hx hb hts inA8 hown hX.1 hP 0 rfl rfl 1 (by decide) (hts _ kw_681) (fun _ h9 => h9) rfl dX8_leaves_36 ?_
      refine lv_iconst (v := (nI 4)) hx hb dX8_leaves_39 (by decide) ?_
      refine lv_dup2_11 hx hb dX8_leaves_40 rfl rfl ?_
      refine nv_ald (f := sv) (k := 4) hx hb hX hP 1 rfl (by omega) (by decide) dX8_leaves_41 ?_
      refine lv_iconst (v := (nI 1)) hx hb dX8_leaves_42 (by decide) ?_
      refine lv_iload_n hx hb dX8_leaves_43 rfl (lv_at hl 1 rfl) ?_
      refine lv_ishl hx hb dX8_leaves_44 (ti (y := (nI (2 ^ v))) (qn_sh1 (by omega)) ?_)
      refine lv_iconst (v := (-1)) hx hb dX8_leaves_45 (by decide) ?_
      refine lv_ixor hx hb dX8_leaves_46 ?_
      refine lv_iand hx hb dX8_leaves_47 (ti (y := (nI (nd (sv 4) (2 ^ v)))) (qn_andn _ _) ?_)
      refine nv_ast (f := sv) (k := 4) (v := nd (sv 4) (2 ^ v)) hx hb hX hP hD hS 1 rfl (by omega) (by decide) dX8_leaves_48 (fun H locs hP hD hS => ?_)
      have hP : va_P G.1 vwCl (mow G ad (va_up z 4 (ntU (z 4) + 1)) fo (va_up sv 4 (nd (sv 4) (2 ^ v))) d (ntP pa sv (z 4)) ke ik fa te aw) H := hP
      have hD : va_D A (mow G ad (va_up z 4 (ntU (z 4) + 1)) fo (va_up sv 4 (nd (sv 4) (2 ^ v))) d (ntP pa sv (z 4)) ke ik fa te aw) := hD
      refine lv_aload_n hx hb dX8_leaves_49 rfl (lv_at hl 0 rfl) ?_
      refine va_get (D := G.1) (ci := 7) (v := .ref (ad 1)) (C := RX8) (T := TX8) (N := 17) hx hb hts inA8 hown hX.1 hP 0 rfl rfl 1 (by decide) (hts _ kw_681) (fun _ h9 => h9) rfl dX8_leaves_50 ?_
      refine lv_iconst (v := (nI 5)) hx hb dX8_leaves_53 (by decide) ?_
      refine lv_aload_n hx hb dX8_leaves_54 rfl (lv_at hl 0 rfl) ?_
      refine lv_aload_n hx hb dX8_leaves_55 rfl (lv_at hl 0 rfl) ?_
      refine va_get (D := G.1) (ci := 7) (v := .ref (ad 1)) (C := RX8) (T := TX8) (N := 17) hx hb hts inA8 hown hX.1 hP 0 rfl rfl 1 (by decide) (hts _ kw_681) (fun _ h9 => h9) rfl dX8_leaves_56 ?_
      refine lv_iconst (v := (nI 5)) hx hb dX8_leaves_59 (by decide) ?_
      refine nv_ald (f := va_up sv 4 (nd (sv 4) (2 ^ v))) (k := 5) hx hb hX hP 1 rfl (by omega) (by decide) dX8_leaves_60 ?_
      refine ti (y := (nI (sv 5))) rfl ?_
      refine ca_Vi (ci := 7) (q := (RX8, TX8, 17)) (rest := [.int (nI 5), .ref (ad 1)]) (wr := ([] : va_W)) F hX (mX8_pruned l G ad (va_up z 4 (ntU (z 4) + 1)) fo (va_up sv 4 (nd (sv 4) (2 ^ v))) d (ntP pa sv (z 4)) ke ik fa te aw (sv 5) (hB.u4 (Nat.lt_of_le_of_lt (nd_le _ _) b5)) b6) (cA_V hts kw_846 kw_8 kw_843 kw_845 kp_40 hdX8_pruned ⟨Nat.le_of_ble_eq_true rfl, Nat.le_of_ble_eq_true rfl⟩) rfl rfl rfl hl.1 rfl (Nat.le_of_ble_eq_true rfl) dX8_leaves_61 ⟨Nat.le_of_ble_eq_true rfl, Nat.le_of_ble_eq_true rfl⟩ hP hD hS hA (pm_nil _) (fun r61 u61 H locs hp61 hP hD hS => ?_)
      have hP : va_P G.1 vwCl (mow G ad (va_up z 4 (ntU (z 4) + 1)) fo (va_up sv 4 (nd (sv 4) (2 ^ v))) d (ntP pa sv (z 4)) ke ik fa te aw) H := wp_pm (pm_nil _).symm hP
      have hD : va_D A (mow G ad (va_up z 4 (ntU (z 4) + 1)) fo (va_up sv 4 (nd (sv 4) (2 ^ v))) d (ntP pa sv (z 4)) ke ik fa te aw) := wd_pm (pm_nil _).symm hD
      subst hp61
      refine ti (y := (nI (mpN (sf sv) (sg sv) (sv 1) (sv 0) (sv 2) (nd (sv 4) (2 ^ v)) 4096 (sv 5)))) (by rw [sf_u (show 4 < 16 by decide), sg_u (show 4 < 28 by decide)]; rfl) ?_
      refine nv_ast (f := va_up sv 4 (nd (sv 4) (2 ^ v))) (k := 5) (v := mpN (sf sv) (sg sv) (sv 1) (sv 0) (sv 2) (nd (sv 4) (2 ^ v)) 4096 (sv 5)) hx hb hX hP hD hS 1 rfl (by omega) (by decide) dX8_leaves_64 (fun H locs hP hD hS => ?_)
      have hP : va_P G.1 vwCl (mow G ad (va_up z 4 (ntU (z 4) + 1)) fo (va_up (va_up sv 4 (nd (sv 4) (2 ^ v))) 5 (mpN (sf sv) (sg sv) (sv 1) (sv 0) (sv 2) (nd (sv 4) (2 ^ v)) 4096 (sv 5))) d (ntP pa sv (z 4)) ke ik fa te aw) H := hP
      have hD : va_D A (mow G ad (va_up z 4 (ntU (z 4) + 1)) fo (va_up (va_up sv 4 (nd (sv 4) (2 ^ v))) 5 (mpN (sf sv) (sg sv) (sv 1) (sv 0) (sv 2) (nd (sv 4) (2 ^ v)) 4096 (sv 5))) d (ntP pa sv (z 4)) ke ik fa te aw) := hD
      have hP : va_P G.1 vwCl (mow G ad (va_up z 4 (ntU (z 4) + 1)) fo (leS sv v) d (ntP pa sv (z 4)) ke ik fa te aw) H := by rw [show (leS sv v) = va_up (va_up sv 4 (nd (sv 4) (2 ^ v))) 5 (mpN (sf sv) (sg sv) (sv 1) (sv 0) (sv 2) (nd (sv 4) (2 ^ v)) 4096 (sv 5)) from rfl]; exact hP
      have hD : va_D A (mow G ad (va_up z 4 (ntU (z 4) + 1)) fo (leS sv v) d (ntP pa sv (z 4)) ke ik fa te aw) := by rw [show (leS sv v) = va_up (va_up sv 4 (nd (sv 4) (2 ^ v))) 5 (mpN (sf sv) (sg sv) (sv 1) (sv 0) (sv 2) (nd (sv 4) (2 ^ v)) 4096 (sv 5)) from rfl]; exact hD
      refine lv_aload_n hx hb dX8_leaves_65 rfl (lv_at hl 0 rfl) ?_
      refine lv_iload_n hx hb dX8_leaves_66 rfl (lv_at hl 1 rfl) ?_
      refine ca_Vv (ci := 7) (q := (RX8, TX8, 17)) (rest := []) (wr := ([] : va_W)) F hX (mX8_marks l G ad (va_up z 4 (ntU (z 4) + 1)) fo (leS sv v) d (ntP pa sv (z 4)) ke ik fa te aw v hBj ha (by omega) hc hB2 hA3) (cA_V hts kw_822 kw_8 kw_819 kw_821 kp_35 hdX8_marks ⟨Nat.le_of_ble_eq_true rfl, Nat.le_of_ble_eq_true rfl⟩) rfl rfl rfl hl.1 rfl (Nat.le_of_ble_eq_true rfl) dX8_leaves_67 ⟨Nat.le_of_ble_eq_true rfl, Nat.le_of_ble_eq_true rfl⟩ hP hD hS hA (pm_nil _) (fun u67 H locs hp67 hP hD hS => ?_)
      have hu67 := hp67
      have hP : va_P G.1 vwCl (mow G ad (va_up z 4 (ntU (z 4) + 1)) fo (mkS (leS sv v) v) d (ntP pa sv (z 4)) ke ik fa te u67) H := wp_pm (pm_nil _).symm hP
      have hD : va_D A (mow G ad (va_up z 4 (ntU (z 4) + 1)) fo (mkS (leS sv v) v) d (ntP pa sv (z 4)) ke ik fa te u67) := wd_pm (pm_nil _).symm hD
      refine lv_aload_n hx hb dX8_leaves_70 rfl (lv_at hl 0 rfl) ?_
      refine lv_aload_n hx hb dX8_leaves_71 rfl (lv_at hl 0 rfl) ?_
      refine va_get (D := G.1) (ci := 7) (v := .ref (ad 1)) (C := RX8) (T := TX8) (N := 17) hx hb hts inA8 hown hX.1 hP 0 rfl rfl 1 (by decide) (hts _ kw_681) (fun _ h9 => h9) rfl dX8_leaves_72 ?_
      refine lv_iconst (v := (nI 5)) hx hb dX8_leaves_75 (by decide) ?_
      refine nv_ald (f := mkS (leS sv v) v) (k := 5) hx hb hX hP 1 rfl (by omega) (by decide) dX8_leaves_76 ?_
      refine ca_Vi (ci := 7) (q := (RX8, TX8, 17)) (rest := []) (wr := ([] : va_W)) F hX (mX8_costOf l G ad (va_up z 4 (ntU (z 4) + 1)) fo (mkS (leS sv v) v) d (ntP pa sv (z 4)) ke ik fa te u67 ((mkS (leS sv v) v) 5) hB4 (by have := hB4.1.2.2.2.2.2.2.1; omega)) (cA_V hts kw_834 kw_8 kw_831 kw_833 kp_38 hdX8_costOf ⟨Nat.le_of_ble_eq_true rfl, Nat.le_of_ble_eq_true rfl⟩) rfl rfl rfl hl.1 rfl (Nat.le_of_ble_eq_true rfl) dX8_leaves_77 ⟨Nat.le_of_ble_eq_true rfl, Nat.le_of_ble_eq_true rfl⟩ hP hD hS hA (pm_nil _) (fun r77 u77 H locs hp77 hP hD hS => ?_)
      have hP : va_P G.1 vwCl (mow G ad (va_up z 4 (ntU (z 4) + 1)) fo (mkS (leS sv v) v) d (ntP pa sv (z 4)) ke ik fa te u67) H := wp_pm (pm_nil _).symm hP
      have hD : va_D A (mow G ad (va_up z 4 (ntU (z 4) + 1)) fo (mkS (leS sv v) v) d (ntP pa sv (z 4)) ke ik fa te u67) := wd_pm (pm_nil _).symm hD
      subst hp77
      refine ti (y := (nI (coS (mkS (leS sv v) v) ((mkS (leS sv v) v) 5)))) rfl ?_
      exact re_i (v := (nI (coS (mkS (leS sv v) v) ((mkS (leS sv v) v) 5)))) hx hb hr hlocks hS u67 hP hD ⟨rfl, hu67⟩ dX8_leaves_80
    · exact absurd (hst.symm.trans c25) (by decide)
  · exact absurd c10 (by decide)

theorem hdX8_rearranges : hdOK yX8_rearranges 0 := by decide +kernel
set_option maxHeartbeats 4000000 in
set_option maxRecDepth 100000 in
theorem mX8_rearranges_state (l : Launch) (G : GG) (ad : Nat → Nat) (z : Nat → Nat) (fo : Option Nat) (sv : Nat → Nat) (d : Nat → Int32) (pa ke : Nat → Nat) (ik fa : Nat → Int32) (te aw : Nat → Nat)  (hB : SB sv) (ha : ∀ j, aw j ≤ 1000000) (hA2 : AnS sv) (hno : coS sv (sv 5) ≤ coS sv (anS sv)) : Mi l yX8_rearranges cX8_rearranges 3 (some .int) (rmN 4 95) G [.ref (ad 0)] (mow G ad z fo sv d pa ke ik fa te aw) (fun (r9 : Int32) (u9 : (Nat → Nat)) => r9 = -2 ∧ ∀ j, u9 j ≤ 1000000) (fun (u9 : (Nat → Nat)) => mow G ad z fo sv d pa ke ik fa te u9) := by
  refine Mi.of (cc := cX8_rearranges) (nL := 3) (by decide) (Nat.le_of_ble_eq_true rfl) ?_
  intro p e s m below meth c A ls F hr hlocks hnm hX hA hD hP hS hl
  have F : CallFix p m c cX8_rearranges 3 s [.ref (ad 0)].toArray wA RX8 := F
  obtain ⟨hx, hb, hml, hown, hts⟩ := id F
  have hl : lv_has ls 3 [(0, .ref (ad 0))] := hl
  obtain ⟨⟨b0, b1, b2, b3, b4, b5, b6, b7, b8⟩, g1, g2, g3, g4⟩ := id hB
  have gf : ∀ j, sf sv j < 10 := fun j => g1 (16 + j) (by omega)
  have gg : ∀ j, sg sv j < 10 := fun j => g1 (28 + j) (by omega)
  have gc : ∀ j, sc sv j ≤ 9 := fun j => by have := g1 (40 + j) (by omega); unfold sc; omega
  have gf7 : ∀ j, j < 12 → sf sv j < 7 := g2
  have gg7 : ∀ j, j < 12 → sg sv j < 7 := g3
  refine lv_aload_n hx hb dX8_rearranges_0 rfl (lv_at hl 0 rfl) ?_
  refine lv_iconst (v := (nI 0)) hx hb dX8_rearranges_1 (by decide) ?_
  refine va_put (D := G.1) (ci := 7) (v := .int (nI 0)) (ty := .int) (C := RX8) (T := TX8) (N := 17) hx hb hts inA8 tyX8 tyX8_ok nmX8 hown hX.1 hP hD hS 0 rfl rfl 0 (by decide) (hts _ kw_680) (fun _ h9 => h9) rfl (by decide +kernel) rfl rfl (Nat.le_of_ble_eq_true rfl) dX8_rearranges_2 (fun H locs hP hD hS => ?_)
  have hP : va_P G.1 vwCl (mow G ad z fo sv d pa ke ik fa te aw) H := hP
  have hD : va_D A (mow G ad z fo sv d pa ke ik fa te aw) := hD
  refine lv_aload_n hx hb dX8_rearranges_5 rfl (lv_at hl 0 rfl) ?_
  refine ca_Vi (ci := 7) (q := (RX8, TX8, 17)) (rest := []) (wr := ([] : va_W)) F hX (mX8_anew l G ad z fo sv d pa ke ik fa te aw  hB ha hA2) (cA_V hts kw_830 kw_8 kw_827 kw_829 kp_37 hdX8_anew ⟨Nat.le_of_ble_eq_true rfl, Nat.le_of_ble_eq_true rfl⟩) rfl rfl rfl hl.1 rfl (Nat.le_of_ble_eq_true rfl) dX8_rearranges_6 ⟨Nat.le_of_ble_eq_true rfl, Nat.le_of_ble_eq_true rfl⟩ hP hD hS hA (pm_nil _) (fun r6 u6 H locs hp6 hP hD hS => ?_)
  obtain ⟨e9, hu6⟩ := hp6
  subst e9
  have hP : va_P G.1 vwCl (mow G ad z fo sv d pa ke ik fa te u6) H := wp_pm (pm_nil _).symm hP
  have hD : va_D A (mow G ad z fo sv d pa ke ik fa te u6) := wd_pm (pm_nil _).symm hD
  refine lv_istore_n (lv' := [(1, .int (nI (anS sv))), (0, .ref (ad 0))]) hx hb dX8_rearranges_9 rfl hl (by decide) rfl (fun ls hl => ?_)
  refine lv_aload_n hx hb dX8_rearranges_10 rfl (lv_at hl 1 rfl) ?_
  refine lv_aload_n hx hb dX8_rearranges_11 rfl (lv_at hl 1 rfl) ?_
  refine va_get (D := G.1) (ci := 7) (v := .ref (ad 1)) (C := RX8) (T := TX8) (N := 17) hx hb hts inA8 hown hX.1 hP 0 rfl rfl 1 (by decide) (hts _ kw_681) (fun _ h9 => h9) rfl dX8_rearranges_12 ?_
  refine lv_iconst (v := (nI 5)) hx hb dX8_rearranges_15 (by decide) ?_
  refine nv_ald (f := sv) (k := 5) hx hb hX hP 1 rfl (by omega) (by decide) dX8_rearranges_16 ?_
  refine ca_Vi (ci := 7) (q := (RX8, TX8, 17)) (rest := []) (wr := ([] : va_W)) F hX (mX8_costOf l G ad z fo sv d pa ke ik fa te u6 (sv 5) hB (by omega)) (cA_V hts kw_834 kw_8 kw_831 kw_833 kp_38 hdX8_costOf ⟨Nat.le_of_ble_eq_true rfl, Nat.le_of_ble_eq_true rfl⟩) rfl rfl rfl hl.1 rfl (Nat.le_of_ble_eq_true rfl) dX8_rearranges_17 ⟨Nat.le_of_ble_eq_true rfl, Nat.le_of_ble_eq_true rfl⟩ hP hD hS hA (pm_nil _) (fun r17 u17 H locs hp17 hP hD hS => ?_)
  have hP : va_P G.1 vwCl (mow G ad z fo sv d pa ke ik fa te u6) H := wp_pm (pm_nil _).symm hP
  have hD : va_D A (mow G ad z fo sv d pa ke ik fa te u6) := wd_pm (pm_nil _).symm hD
  subst hp17
  refine ti (y := (nI (coS sv (sv 5)))) rfl ?_
  refine lv_aload_n hx hb dX8_rearranges_20 rfl (lv_at hl 1 rfl) ?_
  refine lv_iload_n hx hb dX8_rearranges_21 rfl (lv_at hl 0 rfl) ?_
  refine ca_Vi (ci := 7) (q := (RX8, TX8, 17)) (rest := [.int (nI (coS sv (sv 5)))]) (wr := ([] : va_W)) F hX (mX8_costOf l G ad z fo sv d pa ke ik fa te u6 (anS sv) hB (Nat.lt_trans hB.anlt (by decide))) (cA_V hts kw_834 kw_8 kw_831 kw_833 kp_38 hdX8_costOf ⟨Nat.le_of_ble_eq_true rfl, Nat.le_of_ble_eq_true rfl⟩) rfl rfl rfl hl.1 rfl (Nat.le_of_ble_eq_true rfl) dX8_rearranges_22 ⟨Nat.le_of_ble_eq_true rfl, Nat.le_of_ble_eq_true rfl⟩ hP hD hS hA (pm_nil _) (fun r22 u22 H locs hp22 hP hD hS => ?_)
  have hP : va_P G.1 vwCl (mow G ad z fo sv d pa ke ik fa te u6) H := wp_pm (pm_nil _).symm hP
  have hD : va_D A (mow G ad z fo sv d pa ke ik fa te u6) := wd_pm (pm_nil _).symm hD
  subst hp22
  refine ti (y := (nI (coS sv (anS sv)))) rfl ?_
  refine lv_isub hx hb dX8_rearranges_25 (ti (y := ((nI (coS sv (sv 5))) - (nI (coS sv (anS sv))))) rfl ?_)
  refine lv_istore_n (lv' := [(2, .int ((nI (coS sv (sv 5))) - (nI (coS sv (anS sv))))), (1, .int (nI (anS sv))), (0, .ref (ad 0))]) hx hb dX8_rearranges_26 rfl hl (by decide) rfl (fun ls hl => ?_)
  refine lv_iload_n hx hb dX8_rearranges_27 rfl (lv_at hl 0 rfl) ?_
  refine lv_if_gt (x := ((nI (coS sv (sv 5))) - (nI (coS sv (anS sv))))) (tgt := 34) hx hb dX8_rearranges_28 (by decide) (fun c28 => ?_) (fun c28 => ?_)
  · exact absurd c28 (sub_ng hno (hB.cst _))
  · refine lv_bipush (v := (-2)) hx hb dX8_rearranges_31 (by decide) ?_
    exact re_i (v := (-2)) hx hb hr hlocks hS u6 hP hD ⟨rfl, hu6⟩ dX8_rearranges_33

set_option maxHeartbeats 4000000 in
set_option maxRecDepth 100000 in
theorem mX8_rearranges_ok (l : Launch) (G : GG) (ad : Nat → Nat) (z : Nat → Nat) (fo : Option Nat) (sv : Nat → Nat) (d : Nat → Int32) (pa ke : Nat → Nat) (ik fa : Nat → Int32) (te aw : Nat → Nat)  (hB : SB sv) (ha : ∀ j, aw j ≤ 1000000) (hu4 : z 4 ≤ 6) (hA2 : AnS sv) (hno : coS sv (anS sv) < coS sv (sv 5)) : Mi l yX8_rearranges cX8_rearranges 3 (some .int) (rmN 4 95) G [.ref (ad 0)] (mow G ad z fo sv d pa ke ik fa te aw) (fun (r9 : Int32) (u9 : (Nat → Nat)) => r9 = nI (coS sv (sv 5) - coS sv (anS sv)) ∧ ∀ j, u9 j ≤ 1000000) (fun (u9 : (Nat → Nat)) => mow G ad (va_up z 4 (ntU (z 4) + 1)) fo (baS (va_up sv 5 (anS sv))) d (ntP pa sv (z 4)) ke ik fa te u9) := by
  refine Mi.of (cc := cX8_rearranges) (nL := 3) (by decide) (Nat.le_of_ble_eq_true rfl) ?_
  intro p e s m below meth c A ls F hr hlocks hnm hX hA hD hP hS hl
  have F : CallFix p m c cX8_rearranges 3 s [.ref (ad 0)].toArray wA RX8 := F
  obtain ⟨hx, hb, hml, hown, hts⟩ := id F
  have hl : lv_has ls 3 [(0, .ref (ad 0))] := hl
  obtain ⟨⟨b0, b1, b2, b3, b4, b5, b6, b7, b8⟩, g1, g2, g3, g4⟩ := id hB
  have gf : ∀ j, sf sv j < 10 := fun j => g1 (16 + j) (by omega)
  have gg : ∀ j, sg sv j < 10 := fun j => g1 (28 + j) (by omega)
  have gc : ∀ j, sc sv j ≤ 9 := fun j => by have := g1 (40 + j) (by omega); unfold sc; omega
  have gf7 : ∀ j, j < 12 → sf sv j < 7 := g2
  have gg7 : ∀ j, j < 12 → sg sv j < 7 := g3
  refine lv_aload_n hx hb dX8_rearranges_0 rfl (lv_at hl 0 rfl) ?_
  refine lv_iconst (v := (nI 0)) hx hb dX8_rearranges_1 (by decide) ?_
  refine va_put (D := G.1) (ci := 7) (v := .int (nI 0)) (ty := .int) (C := RX8) (T := TX8) (N := 17) hx hb hts inA8 tyX8 tyX8_ok nmX8 hown hX.1 hP hD hS 0 rfl rfl 0 (by decide) (hts _ kw_680) (fun _ h9 => h9) rfl (by decide +kernel) rfl rfl (Nat.le_of_ble_eq_true rfl) dX8_rearranges_2 (fun H locs hP hD hS => ?_)
  have hP : va_P G.1 vwCl (mow G ad z fo sv d pa ke ik fa te aw) H := hP
  have hD : va_D A (mow G ad z fo sv d pa ke ik fa te aw) := hD
  refine lv_aload_n hx hb dX8_rearranges_5 rfl (lv_at hl 0 rfl) ?_
  refine ca_Vi (ci := 7) (q := (RX8, TX8, 17)) (rest := []) (wr := ([] : va_W)) F hX (mX8_anew l G ad z fo sv d pa ke ik fa te aw  hB ha hA2) (cA_V hts kw_830 kw_8 kw_827 kw_829 kp_37 hdX8_anew ⟨Nat.le_of_ble_eq_true rfl, Nat.le_of_ble_eq_true rfl⟩) rfl rfl rfl hl.1 rfl (Nat.le_of_ble_eq_true rfl) dX8_rearranges_6 ⟨Nat.le_of_ble_eq_true rfl, Nat.le_of_ble_eq_true rfl⟩ hP hD hS hA (pm_nil _) (fun r6 u6 H locs hp6 hP hD hS => ?_)
  obtain ⟨e9, hu6⟩ := hp6
  subst e9
  have hP : va_P G.1 vwCl (mow G ad z fo sv d pa ke ik fa te u6) H := wp_pm (pm_nil _).symm hP
  have hD : va_D A (mow G ad z fo sv d pa ke ik fa te u6) := wd_pm (pm_nil _).symm hD
  refine lv_istore_n (lv' := [(1, .int (nI (anS sv))), (0, .ref (ad 0))]) hx hb dX8_rearranges_9 rfl hl (by decide) rfl (fun ls hl => ?_)
  refine lv_aload_n hx hb dX8_rearranges_10 rfl (lv_at hl 1 rfl) ?_
  refine lv_aload_n hx hb dX8_rearranges_11 rfl (lv_at hl 1 rfl) ?_
  refine va_get (D := G.1) (ci := 7) (v := .ref (ad 1)) (C := RX8) (T := TX8) (N := 17) hx hb hts inA8 hown hX.1 hP 0 rfl rfl 1 (by decide) (hts _ kw_681) (fun _ h9 => h9) rfl dX8_rearranges_12 ?_
  refine lv_iconst (v := (nI 5)) hx hb dX8_rearranges_15 (by decide) ?_
  refine nv_ald (f := sv) (k := 5) hx hb hX hP 1 rfl (by omega) (by decide) dX8_rearranges_16 ?_
  refine ca_Vi (ci := 7) (q := (RX8, TX8, 17)) (rest := []) (wr := ([] : va_W)) F hX (mX8_costOf l G ad z fo sv d pa ke ik fa te u6 (sv 5) hB (by omega)) (cA_V hts kw_834 kw_8 kw_831 kw_833 kp_38 hdX8_costOf ⟨Nat.le_of_ble_eq_true rfl, Nat.le_of_ble_eq_true rfl⟩) rfl rfl rfl hl.1 rfl (Nat.le_of_ble_eq_true rfl) dX8_rearranges_17 ⟨Nat.le_of_ble_eq_true rfl, Nat.le_of_ble_eq_true rfl⟩ hP hD hS hA (pm_nil _) (fun r17 u17 H locs hp17 hP hD hS => ?_)
  have hP : va_P G.1 vwCl (mow G ad z fo sv d pa ke ik fa te u6) H := wp_pm (pm_nil _).symm hP
  have hD : va_D A (mow G ad z fo sv d pa ke ik fa te u6) := wd_pm (pm_nil _).symm hD
  subst hp17
  refine ti (y := (nI (coS sv (sv 5)))) rfl ?_
  refine lv_aload_n hx hb dX8_rearranges_20 rfl (lv_at hl 1 rfl) ?_
  refine lv_iload_n hx hb dX8_rearranges_21 rfl (lv_at hl 0 rfl) ?_
  refine ca_Vi (ci := 7) (q := (RX8, TX8, 17)) (rest := [.int (nI (coS sv (sv 5)))]) (wr := ([] : va_W)) F hX (mX8_costOf l G ad z fo sv d pa ke ik fa te u6 (anS sv) hB (Nat.lt_trans hB.anlt (by decide))) (cA_V hts kw_834 kw_8 kw_831 kw_833 kp_38 hdX8_costOf ⟨Nat.le_of_ble_eq_true rfl, Nat.le_of_ble_eq_true rfl⟩) rfl rfl rfl hl.1 rfl (Nat.le_of_ble_eq_true rfl) dX8_rearranges_22 ⟨Nat.le_of_ble_eq_true rfl, Nat.le_of_ble_eq_true rfl⟩ hP hD hS hA (pm_nil _) (fun r22 u22 H locs hp22 hP hD hS => ?_)
  have hP : va_P G.1 vwCl (mow G ad z fo sv d pa ke ik fa te u6) H := wp_pm (pm_nil _).symm hP
  have hD : va_D A (mow G ad z fo sv d pa ke ik fa te u6) := wd_pm (pm_nil _).symm hD
  subst hp22
  refine ti (y := (nI (coS sv (anS sv)))) rfl ?_
  refine lv_isub hx hb dX8_rearranges_25 (ti (y := (nI ((coS sv (sv 5)) - (coS sv (anS sv))))) (pk_sub (by omega)) ?_)
  refine lv_istore_n (lv' := [(2, .int (nI ((coS sv (sv 5)) - (coS sv (anS sv))))), (1, .int (nI (anS sv))), (0, .ref (ad 0))]) hx hb dX8_rearranges_26 rfl hl (by decide) rfl (fun ls hl => ?_)
  refine lv_iload_n hx hb dX8_rearranges_27 rfl (lv_at hl 0 rfl) ?_
  refine nv_zgt (x := (coS sv (sv 5)) - (coS sv (anS sv))) (tgt := 34) hx hb dX8_rearranges_28 (by decide) (by have := hB.cst (sv 5); omega) (fun c28 => ?_) (fun c28 => ?_)
  · refine lv_aload_n hx hb dX8_rearranges_34 rfl (lv_at hl 2 rfl) ?_
    refine ca_Vv (ci := 7) (q := (RX8, TX8, 17)) (rest := []) (wr := ([] : va_W)) F hX (mX8_notes l G ad z fo sv d pa ke ik fa te u6  hu4) (cA_V hts kw_786 kw_8 kw_783 kw_785 kp_28 hdX8_notes ⟨Nat.le_of_ble_eq_true rfl, Nat.le_of_ble_eq_true rfl⟩) rfl rfl rfl hl.1 rfl (Nat.le_of_ble_eq_true rfl) dX8_rearranges_35 ⟨Nat.le_of_ble_eq_true rfl, Nat.le_of_ble_eq_true rfl⟩ hP hD hS hA (pm_nil _) (fun u35 H locs hp35 hP hD hS => ?_)
    have hP : va_P G.1 vwCl (mow G ad (va_up z 4 (ntU (z 4) + 1)) fo sv d (ntP pa sv (z 4)) ke ik fa te u6) H := wp_pm (pm_nil _).symm hP
    have hD : va_D A (mow G ad (va_up z 4 (ntU (z 4) + 1)) fo sv d (ntP pa sv (z 4)) ke ik fa te u6) := wd_pm (pm_nil _).symm hD
    refine lv_aload_n hx hb dX8_rearranges_38 rfl (lv_at hl 2 rfl) ?_
    refine va_get (D := G.1) (ci := 7) (v := .ref (ad 1)) (C := RX8) (T := TX8) (N := 17) hx hb hts inA8 hown hX.1 hP 0 rfl rfl 1 (by decide) (hts _ kw_681) (fun _ h9 => h9) rfl dX8_rearranges_39 ?_
    refine lv_iconst (v := (nI 5)) hx hb dX8_rearranges_42 (by decide) ?_
    refine lv_iload_n hx hb dX8_rearranges_43 rfl (lv_at hl 1 rfl) ?_
    refine nv_ast (f := sv) (k := 5) (v := anS sv) hx hb hX hP hD hS 1 rfl (by omega) (by decide) dX8_rearranges_44 (fun H locs hP hD hS => ?_)
    have hP : va_P G.1 vwCl (mow G ad (va_up z 4 (ntU (z 4) + 1)) fo (va_up sv 5 (anS sv)) d (ntP pa sv (z 4)) ke ik fa te u6) H := hP
    have hD : va_D A (mow G ad (va_up z 4 (ntU (z 4) + 1)) fo (va_up sv 5 (anS sv)) d (ntP pa sv (z 4)) ke ik fa te u6) := hD
    refine lv_aload_n hx hb dX8_rearranges_45 rfl (lv_at hl 2 rfl) ?_
    refine ca_Vv (ci := 7) (q := (RX8, TX8, 17)) (rest := []) (wr := ([] : va_W)) F hX (mX8_bares l G ad (va_up z 4 (ntU (z 4) + 1)) fo (va_up sv 5 (anS sv)) d (ntP pa sv (z 4)) ke ik fa te u6  ) (cA_V hts kw_838 kw_8 kw_835 kw_837 kp_39 hdX8_bares ⟨Nat.le_of_ble_eq_true rfl, Nat.le_of_ble_eq_true rfl⟩) rfl rfl rfl hl.1 rfl (Nat.le_of_ble_eq_true rfl) dX8_rearranges_46 ⟨Nat.le_of_ble_eq_true rfl, Nat.le_of_ble_eq_true rfl⟩ hP hD hS hA (pm_nil _) (fun u46 H locs hp46 hP hD hS => ?_)
    have hP : va_P G.1 vwCl (mow G ad (va_up z 4 (ntU (z 4) + 1)) fo (baS (va_up sv 5 (anS sv))) d (ntP pa sv (z 4)) ke ik fa te u6) H := wp_pm (pm_nil _).symm hP
    have hD : va_D A (mow G ad (va_up z 4 (ntU (z 4) + 1)) fo (baS (va_up sv 5 (anS sv))) d (ntP pa sv (z 4)) ke ik fa te u6) := wd_pm (pm_nil _).symm hD
    refine lv_iload_n hx hb dX8_rearranges_49 rfl (lv_at hl 0 rfl) ?_
    exact re_i (v := (nI ((coS sv (sv 5)) - (coS sv (anS sv))))) hx hb hr hlocks hS u6 hP hD ⟨rfl, hu6⟩ dX8_rearranges_50
  · exact absurd c28 (by omega)

set_option maxHeartbeats 4000000 in
set_option maxRecDepth 100000 in
theorem mX8_cuts_state (l : Launch) (G : GG) (ad : Nat → Nat) (z : Nat → Nat) (fo : Option Nat) (sv : Nat → Nat) (d : Nat → Int32) (pa ke : Nat → Nat) (ik fa : Nat → Int32) (te aw : Nat → Nat) (k : Nat) (hB : SB sv) (hk : k < sv 1) (hst : (sv 6).testBit k = true) : Mi l yX8_cuts cX8_cuts 6 (some .int) (rmN 2 43) G [.ref (ad 0), .int (nI k)] (mow G ad z fo sv d pa ke ik fa te aw) (fun (r9 : Int32) (_ : Unit) => r9 = (-2)) (fun (_ : Unit) => mow G ad z fo sv d pa ke ik fa te aw) := by
  refine Mi.of (cc := cX8_cuts) (nL := 6) (by decide) (Nat.le_of_ble_eq_true rfl) ?_
  intro p e s m below meth c A ls F hr hlocks hnm hX hA hD hP hS hl
  have F : CallFix p m c cX8_cuts 6 s [.ref (ad 0), .int (nI k)].toArray wA RX8 := F
  obtain ⟨hx, hb, hml, hown, hts⟩ := id F
  have hl : lv_has ls 6 [(0, .ref (ad 0)), (1, .int (nI k))] := hl
  obtain ⟨⟨b0, b1, b2, b3, b4, b5, b6, b7, b8⟩, g1, g2, g3, g4⟩ := id hB
  have gf : ∀ j, sf sv j < 10 := fun j => g1 (16 + j) (by omega)
  have gg : ∀ j, sg sv j < 10 := fun j => g1 (28 + j) (by omega)
  have gc : ∀ j, sc sv j ≤ 9 := fun j => by have := g1 (40 + j) (by omega); unfold sc; omega
  have gf7 : ∀ j, j < 12 → sf sv j < 7 := g2
  have gg7 : ∀ j, j < 12 → sg sv j < 7 := g3
  refine lv_aload_n hx hb dX8_cuts_0 rfl (lv_at hl 0 rfl) ?_
  refine lv_iconst (v := (nI 0)) hx hb dX8_cuts_1 (by decide) ?_
  refine va_put (D := G.1) (ci := 7) (v := .int (nI 0)) (ty := .int) (C := RX8) (T := TX8) (N := 17) hx hb hts inA8 tyX8 tyX8_ok nmX8 hown hX.1 hP hD hS 0 rfl rfl 0 (by decide) (hts _ kw_680) (fun _ h9 => h9) rfl (by decide +kernel) rfl rfl (Nat.le_of_ble_eq_true rfl) dX8_cuts_2 (fun H locs hP hD hS => ?_)
  have hP : va_P G.1 vwCl (mow G ad z fo sv d pa ke ik fa te aw) H := hP
  have hD : va_D A (mow G ad z fo sv d pa ke ik fa te aw) := hD
  refine lv_aload_n hx hb dX8_cuts_5 rfl (lv_at hl 0 rfl) ?_
  refine lv_iload_n hx hb dX8_cuts_6 rfl (lv_at hl 1 rfl) ?_
  refine ca_Vi (ci := 7) (q := (RX8, TX8, 17)) (rest := []) (wr := ([] : va_W)) F hX (mX8_isLink l G ad z fo sv d pa ke ik fa te aw (nI k) hB) (cA_V hts kw_858 kw_8 kw_855 kw_857 kp_41 hdX8_isLink ⟨Nat.le_of_ble_eq_true rfl, Nat.le_of_ble_eq_true rfl⟩) rfl rfl rfl hl.1 rfl (Nat.le_of_ble_eq_true rfl) dX8_cuts_7 ⟨Nat.le_of_ble_eq_true rfl, Nat.le_of_ble_eq_true rfl⟩ hP hD hS hA (pm_nil _) (fun r7 u7 H locs hp7 hP hD hS => ?_)
  have hP : va_P G.1 vwCl (mow G ad z fo sv d pa ke ik fa te aw) H := wp_pm (pm_nil _).symm hP
  have hD : va_D A (mow G ad z fo sv d pa ke ik fa te aw) := wd_pm (pm_nil _).symm hD
  subst hp7
  refine ti (y := (bI true)) (by rw [nd_in (v := k) (n := sv 1) (by omega) (by omega)]) ?_
  refine bv_ne (b := true) (tgt := 15) hx hb dX8_cuts_10 (by decide) (fun c10 => ?_) (fun c10 => ?_)
  · refine lv_aload_n hx hb dX8_cuts_15 rfl (lv_at hl 0 rfl) ?_
    refine va_get (D := G.1) (ci := 7) (v := .ref (ad 1)) (C := RX8) (T := TX8) (N := 17) hx hb hts inA8 hown hX.1 hP 0 rfl rfl 1 (by decide) (hts _ kw_681) (fun _ h9 => h9) rfl dX8_cuts_16 ?_
    refine lv_bipush (v := (nI 6)) hx hb dX8_cuts_19 (by decide) ?_
    refine nv_ald (f := sv) (k := 6) hx hb hX hP 1 rfl (by omega) (by decide) dX8_cuts_21 ?_
    refine lv_iload_n hx hb dX8_cuts_22 rfl (lv_at hl 1 rfl) ?_
    refine ca_Si (rest := []) (wr := mow G ad z fo sv d pa ke ik fa te aw) F hX (mX8_has l G (sv 6) k (by omega) (by omega)) (cA_S hts kw_801 kw_8 kw_799 kw_800 hdX8_has ⟨Nat.le_of_ble_eq_true rfl, Nat.le_of_ble_eq_true rfl⟩) rfl hl.1 rfl (Nat.le_of_ble_eq_true rfl) dX8_cuts_23 ⟨Nat.le_of_ble_eq_true rfl, Nat.le_of_ble_eq_true rfl⟩ hP hD hS hA (List.Perm.refl _) (fun r23 u23 H locs hp23 hP hD hS => ?_)
    have hP : va_P G.1 vwCl (mow G ad z fo sv d pa ke ik fa te aw) H := hP
    have hD : va_D A (mow G ad z fo sv d pa ke ik fa te aw) := hD
    subst hp23
    refine bv_eq (b := (sv 6).testBit k) (tgt := 32) hx hb dX8_cuts_26 (by decide) (fun c26 => ?_) (fun c26 => ?_)
    · exact absurd (hst.symm.trans c26) (by decide)
    · refine lv_bipush (v := (-2)) hx hb dX8_cuts_29 (by decide) ?_
      exact re_i (v := (-2)) hx hb hr hlocks hS () hP hD rfl dX8_cuts_31
  · exact absurd c10 (by decide)

set_option maxHeartbeats 4000000 in
set_option maxRecDepth 100000 in
theorem mX8_cuts_no (l : Launch) (G : GG) (ad : Nat → Nat) (z : Nat → Nat) (fo : Option Nat) (sv : Nat → Nat) (d : Nat → Int32) (pa ke : Nat → Nat) (ik fa : Nat → Int32) (te aw : Nat → Nat) (k : Nat) (hB : SB sv) (hu4 : z 4 ≤ 6) (hk : k < sv 1) (hst : (sv 6).testBit k = false) (ht : (sv 5).testBit k = false) : Mi l yX8_cuts cX8_cuts 6 (some .int) (rmN 2 43) G [.ref (ad 0), .int (nI k)] (mow G ad z fo sv d pa ke ik fa te aw) (fun (r9 : Int32) (_ : Unit) => r9 = (nI 0)) (fun (_ : Unit) => mow G ad (va_up z 4 (ntU (z 4) + 1)) fo (va_up sv 6 (sv 6 ||| 2 ^ k)) d (ntP pa sv (z 4)) ke ik fa te aw) := by
  refine Mi.of (cc := cX8_cuts) (nL := 6) (by decide) (Nat.le_of_ble_eq_true rfl) ?_
  intro p e s m below meth c A ls F hr hlocks hnm hX hA hD hP hS hl
  have F : CallFix p m c cX8_cuts 6 s [.ref (ad 0), .int (nI k)].toArray wA RX8 := F
  obtain ⟨hx, hb, hml, hown, hts⟩ := id F
  have hl : lv_has ls 6 [(0, .ref (ad 0)), (1, .int (nI k))] := hl
  obtain ⟨⟨b0, b1, b2, b3, b4, b5, b6, b7, b8⟩, g1, g2, g3, g4⟩ := id hB
  have gf : ∀ j, sf sv j < 10 := fun j => g1 (16 + j) (by omega)
  have gg : ∀ j, sg sv j < 10 := fun j => g1 (28 + j) (by omega)
  have gc : ∀ j, sc sv j ≤ 9 := fun j => by have := g1 (40 + j) (by omega); unfold sc; omega
  have gf7 : ∀ j, j < 12 → sf sv j < 7 := g2
  have gg7 : ∀ j, j < 12 → sg sv j < 7 := g3
  refine lv_aload_n hx hb dX8_cuts_0 rfl (lv_at hl 0 rfl) ?_
  refine lv_iconst (v := (nI 0)) hx hb dX8_cuts_1 (by decide) ?_
  refine va_put (D := G.1) (ci := 7) (v := .int (nI 0)) (ty := .int) (C := RX8) (T := TX8) (N := 17) hx hb hts inA8 tyX8 tyX8_ok nmX8 hown hX.1 hP hD hS 0 rfl rfl 0 (by decide) (hts _ kw_680) (fun _ h9 => h9) rfl (by decide +kernel) rfl rfl (Nat.le_of_ble_eq_true rfl) dX8_cuts_2 (fun H locs hP hD hS => ?_)
  have hP : va_P G.1 vwCl (mow G ad z fo sv d pa ke ik fa te aw) H := hP
  have hD : va_D A (mow G ad z fo sv d pa ke ik fa te aw) := hD
  refine lv_aload_n hx hb dX8_cuts_5 rfl (lv_at hl 0 rfl) ?_
  refine lv_iload_n hx hb dX8_cuts_6 rfl (lv_at hl 1 rfl) ?_
  refine ca_Vi (ci := 7) (q := (RX8, TX8, 17)) (rest := []) (wr := ([] : va_W)) F hX (mX8_isLink l G ad z fo sv d pa ke ik fa te aw (nI k) hB) (cA_V hts kw_858 kw_8 kw_855 kw_857 kp_41 hdX8_isLink ⟨Nat.le_of_ble_eq_true rfl, Nat.le_of_ble_eq_true rfl⟩) rfl rfl rfl hl.1 rfl (Nat.le_of_ble_eq_true rfl) dX8_cuts_7 ⟨Nat.le_of_ble_eq_true rfl, Nat.le_of_ble_eq_true rfl⟩ hP hD hS hA (pm_nil _) (fun r7 u7 H locs hp7 hP hD hS => ?_)
  have hP : va_P G.1 vwCl (mow G ad z fo sv d pa ke ik fa te aw) H := wp_pm (pm_nil _).symm hP
  have hD : va_D A (mow G ad z fo sv d pa ke ik fa te aw) := wd_pm (pm_nil _).symm hD
  subst hp7
  refine ti (y := (bI true)) (by rw [nd_in (v := k) (n := sv 1) (by omega) (by omega)]) ?_
  refine bv_ne (b := true) (tgt := 15) hx hb dX8_cuts_10 (by decide) (fun c10 => ?_) (fun c10 => ?_)
  · refine lv_aload_n hx hb dX8_cuts_15 rfl (lv_at hl 0 rfl) ?_
    refine va_get (D := G.1) (ci := 7) (v := .ref (ad 1)) (C := RX8) (T := TX8) (N := 17) hx hb hts inA8 hown hX.1 hP 0 rfl rfl 1 (by decide) (hts _ kw_681) (fun _ h9 => h9) rfl dX8_cuts_16 ?_
    refine lv_bipush (v := (nI 6)) hx hb dX8_cuts_19 (by decide) ?_
    refine nv_ald (f := sv) (k := 6) hx hb hX hP 1 rfl (by omega) (by decide) dX8_cuts_21 ?_
    refine lv_iload_n hx hb dX8_cuts_22 rfl (lv_at hl 1 rfl) ?_
    refine ca_Si (rest := []) (wr := mow G ad z fo sv d pa ke ik fa te aw) F hX (mX8_has l G (sv 6) k (by omega) (by omega)) (cA_S hts kw_801 kw_8 kw_799 kw_800 hdX8_has ⟨Nat.le_of_ble_eq_true rfl, Nat.le_of_ble_eq_true rfl⟩) rfl hl.1 rfl (Nat.le_of_ble_eq_true rfl) dX8_cuts_23 ⟨Nat.le_of_ble_eq_true rfl, Nat.le_of_ble_eq_true rfl⟩ hP hD hS hA (List.Perm.refl _) (fun r23 u23 H locs hp23 hP hD hS => ?_)
    have hP : va_P G.1 vwCl (mow G ad z fo sv d pa ke ik fa te aw) H := hP
    have hD : va_D A (mow G ad z fo sv d pa ke ik fa te aw) := hD
    subst hp23
    refine bv_eq (b := (sv 6).testBit k) (tgt := 32) hx hb dX8_cuts_26 (by decide) (fun c26 => ?_) (fun c26 => ?_)
    · refine lv_aload_n hx hb dX8_cuts_32 rfl (lv_at hl 0 rfl) ?_
      refine ca_Vv (ci := 7) (q := (RX8, TX8, 17)) (rest := []) (wr := ([] : va_W)) F hX (mX8_notes l G ad z fo sv d pa ke ik fa te aw  hu4) (cA_V hts kw_786 kw_8 kw_783 kw_785 kp_28 hdX8_notes ⟨Nat.le_of_ble_eq_true rfl, Nat.le_of_ble_eq_true rfl⟩) rfl rfl rfl hl.1 rfl (Nat.le_of_ble_eq_true rfl) dX8_cuts_33 ⟨Nat.le_of_ble_eq_true rfl, Nat.le_of_ble_eq_true rfl⟩ hP hD hS hA (pm_nil _) (fun u33 H locs hp33 hP hD hS => ?_)
      have hP : va_P G.1 vwCl (mow G ad (va_up z 4 (ntU (z 4) + 1)) fo sv d (ntP pa sv (z 4)) ke ik fa te aw) H := wp_pm (pm_nil _).symm hP
      have hD : va_D A (mow G ad (va_up z 4 (ntU (z 4) + 1)) fo sv d (ntP pa sv (z 4)) ke ik fa te aw) := wd_pm (pm_nil _).symm hD
      refine lv_aload_n hx hb dX8_cuts_36 rfl (lv_at hl 0 rfl) ?_
      refine va_get (D := G.1) (ci := 7) (v := .ref (ad 1)) (C := RX8) (T := TX8) (N := 17) hx hb hts inA8 hown hX.1 hP 0 rfl rfl 1 (by decide) (hts _ kw_681) (fun _ h9 => h9) rfl dX8_cuts_37 ?_
      refine lv_bipush (v := (nI 6)) hx hb dX8_cuts_40 (by decide) ?_
      refine lv_dup2_11 hx hb dX8_cuts_42 rfl rfl ?_
      refine nv_ald (f := sv) (k := 6) hx hb hX hP 1 rfl (by omega) (by decide) dX8_cuts_43 ?_
      refine lv_iconst (v := (nI 1)) hx hb dX8_cuts_44 (by decide) ?_
      refine lv_iload_n hx hb dX8_cuts_45 rfl (lv_at hl 1 rfl) ?_
      refine lv_ishl hx hb dX8_cuts_46 (ti (y := (nI (2 ^ k))) (qn_sh1 (by omega)) ?_)
      refine lv_ior hx hb dX8_cuts_47 (ti (y := (nI ((sv 6) ||| (2 ^ k)))) (qn_or _ _) ?_)
      refine nv_ast (f := sv) (k := 6) (v := (sv 6) ||| (2 ^ k)) hx hb hX hP hD hS 1 rfl (by omega) (by decide) dX8_cuts_48 (fun H locs hP hD hS => ?_)
      have hP : va_P G.1 vwCl (mow G ad (va_up z 4 (ntU (z 4) + 1)) fo (va_up sv 6 ((sv 6) ||| (2 ^ k))) d (ntP pa sv (z 4)) ke ik fa te aw) H := hP
      have hD : va_D A (mow G ad (va_up z 4 (ntU (z 4) + 1)) fo (va_up sv 6 ((sv 6) ||| (2 ^ k))) d (ntP pa sv (z 4)) ke ik fa te aw) := hD
      refine lv_aload_n hx hb dX8_cuts_49 rfl (lv_at hl 0 rfl) ?_
      refine va_get (D := G.1) (ci := 7) (v := .ref (ad 1)) (C := RX8) (T := TX8) (N := 17) hx hb hts inA8 hown hX.1 hP 0 rfl rfl 1 (by decide) (hts _ kw_681) (fun _ h9 => h9) rfl dX8_cuts_50 ?_
      refine lv_iconst (v := (nI 5)) hx hb dX8_cuts_53 (by decide) ?_
      refine nv_ald (f := va_up sv 6 ((sv 6) ||| (2 ^ k))) (k := 5) hx hb hX hP 1 rfl (by omega) (by decide) dX8_cuts_54 ?_
      refine ti (y := (nI (sv 5))) rfl ?_
      refine lv_iload_n hx hb dX8_cuts_55 rfl (lv_at hl 1 rfl) ?_
      refine ca_Si (rest := []) (wr := mow G ad (va_up z 4 (ntU (z 4) + 1)) fo (va_up sv 6 ((sv 6) ||| (2 ^ k))) d (ntP pa sv (z 4)) ke ik fa te aw) F hX (mX8_has l G (sv 5) k (by omega) (by omega)) (cA_S hts kw_801 kw_8 kw_799 kw_800 hdX8_has ⟨Nat.le_of_ble_eq_true rfl, Nat.le_of_ble_eq_true rfl⟩) rfl hl.1 rfl (Nat.le_of_ble_eq_true rfl) dX8_cuts_56 ⟨Nat.le_of_ble_eq_true rfl, Nat.le_of_ble_eq_true rfl⟩ hP hD hS hA (List.Perm.refl _) (fun r56 u56 H locs hp56 hP hD hS => ?_)
      have hP : va_P G.1 vwCl (mow G ad (va_up z 4 (ntU (z 4) + 1)) fo (va_up sv 6 ((sv 6) ||| (2 ^ k))) d (ntP pa sv (z 4)) ke ik fa te aw) H := hP
      have hD : va_D A (mow G ad (va_up z 4 (ntU (z 4) + 1)) fo (va_up sv 6 ((sv 6) ||| (2 ^ k))) d (ntP pa sv (z 4)) ke ik fa te aw) := hD
      subst hp56
      refine bv_ne (b := (sv 5).testBit k) (tgt := 64) hx hb dX8_cuts_59 (by decide) (fun c59 => ?_) (fun c59 => ?_)
      · exact absurd (ht.symm.trans c59) (by decide)
      · refine lv_iconst (v := (nI 0)) hx hb dX8_cuts_62 (by decide) ?_
        exact re_i (v := (nI 0)) hx hb hr hlocks hS () hP hD rfl dX8_cuts_63
    · exact absurd (hst.symm.trans c26) (by decide)
  · exact absurd c10 (by decide)

set_option maxHeartbeats 4000000 in
set_option maxRecDepth 100000 in
theorem mX8_cuts_yes (l : Launch) (G : GG) (ad : Nat → Nat) (z : Nat → Nat) (fo : Option Nat) (sv : Nat → Nat) (d : Nat → Int32) (pa ke : Nat → Nat) (ik fa : Nat → Int32) (te aw : Nat → Nat) (k : Nat) (hB : SB sv) (ha : ∀ j, aw j ≤ 1000000) (hu4 : z 4 ≤ 6) (hk : k < sv 1) (hst : (sv 6).testBit k = false) (ht : (sv 5).testBit k = true) (hE : EN (sf sv) (sg sv) (sv 1) (sv 0)) (hWA : WA (sf sv) (sg sv) (sc sv) (sv 6 ||| 2 ^ k) (sv 1) (sv 0)) : Mi l yX8_cuts cX8_cuts 6 (some .int) (rmN 3 71) G [.ref (ad 0), .int (nI k)] (mow G ad z fo sv d pa ke ik fa te aw) (fun (r9 : Int32) (u9 : (Nat → Nat)) => r9 = nI (cmS sv k (sv 0)).2.2 ∧ ∀ j, u9 j ≤ 1000000) (fun (u9 : (Nat → Nat)) => mow G ad (va_up z 4 (ntU (z 4) + 1)) fo (cutS sv k) d (ntP pa sv (z 4)) ke ik fa te u9) := by
  refine Mi.of (cc := cX8_cuts) (nL := 6) (by decide) (Nat.le_of_ble_eq_true rfl) ?_
  intro p e s m below meth c A ls F hr hlocks hnm hX hA hD hP hS hl
  have F : CallFix p m c cX8_cuts 6 s [.ref (ad 0), .int (nI k)].toArray wA RX8 := F
  obtain ⟨hx, hb, hml, hown, hts⟩ := id F
  have hl : lv_has ls 6 [(0, .ref (ad 0)), (1, .int (nI k))] := hl
  obtain ⟨⟨b0, b1, b2, b3, b4, b5, b6, b7, b8⟩, g1, g2, g3, g4⟩ := id hB
  have gf : ∀ j, sf sv j < 10 := fun j => g1 (16 + j) (by omega)
  have gg : ∀ j, sg sv j < 10 := fun j => g1 (28 + j) (by omega)
  have gc : ∀ j, sc sv j ≤ 9 := fun j => by have := g1 (40 + j) (by omega); unfold sc; omega
  have gf7 : ∀ j, j < 12 → sf sv j < 7 := g2
  have gg7 : ∀ j, j < 12 → sg sv j < 7 := g3
  have hdn : sv 6 ||| 2 ^ k < 4096 := or_lt (n := 12) b7 (pw_lt (by omega))
  have hhg : hgM sv k < 4096 := Nat.lt_of_lt_of_le (mhaN_lt _ _ _ _) (pw12 b4)
  have hcm0 := fun v => mcS_lt (f := sf sv) (g := sg sv) (c := sc sv) (dn := sv 6 ||| 2 ^ k) (n := sv 0) (src := sv 2) b4 b5 hhg v
  refine lv_aload_n hx hb dX8_cuts_0 rfl (lv_at hl 0 rfl) ?_
  refine lv_iconst (v := (nI 0)) hx hb dX8_cuts_1 (by decide) ?_
  refine va_put (D := G.1) (ci := 7) (v := .int (nI 0)) (ty := .int) (C := RX8) (T := TX8) (N := 17) hx hb hts inA8 tyX8 tyX8_ok nmX8 hown hX.1 hP hD hS 0 rfl rfl 0 (by decide) (hts _ kw_680) (fun _ h9 => h9) rfl (by decide +kernel) rfl rfl (Nat.le_of_ble_eq_true rfl) dX8_cuts_2 (fun H locs hP hD hS => ?_)
  have hP : va_P G.1 vwCl (mow G ad z fo sv d pa ke ik fa te aw) H := hP
  have hD : va_D A (mow G ad z fo sv d pa ke ik fa te aw) := hD
  refine lv_aload_n hx hb dX8_cuts_5 rfl (lv_at hl 0 rfl) ?_
  refine lv_iload_n hx hb dX8_cuts_6 rfl (lv_at hl 1 rfl) ?_
  refine ca_Vi (ci := 7) (q := (RX8, TX8, 17)) (rest := []) (wr := ([] : va_W)) F hX (mX8_isLink l G ad z fo sv d pa ke ik fa te aw (nI k) hB) (cA_V hts kw_858 kw_8 kw_855 kw_857 kp_41 hdX8_isLink ⟨Nat.le_of_ble_eq_true rfl, Nat.le_of_ble_eq_true rfl⟩) rfl rfl rfl hl.1 rfl (Nat.le_of_ble_eq_true rfl) dX8_cuts_7 ⟨Nat.le_of_ble_eq_true rfl, Nat.le_of_ble_eq_true rfl⟩ hP hD hS hA (pm_nil _) (fun r7 u7 H locs hp7 hP hD hS => ?_)
  have hP : va_P G.1 vwCl (mow G ad z fo sv d pa ke ik fa te aw) H := wp_pm (pm_nil _).symm hP
  have hD : va_D A (mow G ad z fo sv d pa ke ik fa te aw) := wd_pm (pm_nil _).symm hD
  subst hp7
  refine ti (y := (bI true)) (by rw [nd_in (v := k) (n := sv 1) (by omega) (by omega)]) ?_
  refine bv_ne (b := true) (tgt := 15) hx hb dX8_cuts_10 (by decide) (fun c10 => ?_) (fun c10 => ?_)
  · refine lv_aload_n hx hb dX8_cuts_15 rfl (lv_at hl 0 rfl) ?_
    refine va_get (D := G.1) (ci := 7) (v := .ref (ad 1)) (C := RX8) (T := TX8) (N := 17) hx hb hts inA8 hown hX.1 hP 0 rfl rfl 1 (by decide) (hts _ kw_681) (fun _ h9 => h9) rfl dX8_cuts_16 ?_
    refine lv_bipush (v := (nI 6)) hx hb dX8_cuts_19 (by decide) ?_
    refine nv_ald (f := sv) (k := 6) hx hb hX hP 1 rfl (by omega) (by decide) dX8_cuts_21 ?_
    refine lv_iload_n hx hb dX8_cuts_22 rfl (lv_at hl 1 rfl) ?_
    refine ca_Si (rest := []) (wr := mow G ad z fo sv d pa ke ik fa te aw) F hX (mX8_has l G (sv 6) k (by omega) (by omega)) (cA_S hts kw_801 kw_8 kw_799 kw_800 hdX8_has ⟨Nat.le_of_ble_eq_true rfl, Nat.le_of_ble_eq_true rfl⟩) rfl hl.1 rfl (Nat.le_of_ble_eq_true rfl) dX8_cuts_23 ⟨Nat.le_of_ble_eq_true rfl, Nat.le_of_ble_eq_true rfl⟩ hP hD hS hA (List.Perm.refl _) (fun r23 u23 H locs hp23 hP hD hS => ?_)
    have hP : va_P G.1 vwCl (mow G ad z fo sv d pa ke ik fa te aw) H := hP
    have hD : va_D A (mow G ad z fo sv d pa ke ik fa te aw) := hD
    subst hp23
    refine bv_eq (b := (sv 6).testBit k) (tgt := 32) hx hb dX8_cuts_26 (by decide) (fun c26 => ?_) (fun c26 => ?_)
    · refine lv_aload_n hx hb dX8_cuts_32 rfl (lv_at hl 0 rfl) ?_
      refine ca_Vv (ci := 7) (q := (RX8, TX8, 17)) (rest := []) (wr := ([] : va_W)) F hX (mX8_notes l G ad z fo sv d pa ke ik fa te aw  hu4) (cA_V hts kw_786 kw_8 kw_783 kw_785 kp_28 hdX8_notes ⟨Nat.le_of_ble_eq_true rfl, Nat.le_of_ble_eq_true rfl⟩) rfl rfl rfl hl.1 rfl (Nat.le_of_ble_eq_true rfl) dX8_cuts_33 ⟨Nat.le_of_ble_eq_true rfl, Nat.le_of_ble_eq_true rfl⟩ hP hD hS hA (pm_nil _) (fun u33 H locs hp33 hP hD hS => ?_)
      have hP : va_P G.1 vwCl (mow G ad (va_up z 4 (ntU (z 4) + 1)) fo sv d (ntP pa sv (z 4)) ke ik fa te aw) H := wp_pm (pm_nil _).symm hP
      have hD : va_D A (mow G ad (va_up z 4 (ntU (z 4) + 1)) fo sv d (ntP pa sv (z 4)) ke ik fa te aw) := wd_pm (pm_nil _).symm hD
      refine lv_aload_n hx hb dX8_cuts_36 rfl (lv_at hl 0 rfl) ?_
      refine va_get (D := G.1) (ci := 7) (v := .ref (ad 1)) (C := RX8) (T := TX8) (N := 17) hx hb hts inA8 hown hX.1 hP 0 rfl rfl 1 (by decide) (hts _ kw_681) (fun _ h9 => h9) rfl dX8_cuts_37 ?_
      refine lv_bipush (v := (nI 6)) hx hb dX8_cuts_40 (by decide) ?_
      refine lv_dup2_11 hx hb dX8_cuts_42 rfl rfl ?_
      refine nv_ald (f := sv) (k := 6) hx hb hX hP 1 rfl (by omega) (by decide) dX8_cuts_43 ?_
      refine lv_iconst (v := (nI 1)) hx hb dX8_cuts_44 (by decide) ?_
      refine lv_iload_n hx hb dX8_cuts_45 rfl (lv_at hl 1 rfl) ?_
      refine lv_ishl hx hb dX8_cuts_46 (ti (y := (nI (2 ^ k))) (qn_sh1 (by omega)) ?_)
      refine lv_ior hx hb dX8_cuts_47 (ti (y := (nI ((sv 6) ||| (2 ^ k)))) (qn_or _ _) ?_)
      refine nv_ast (f := sv) (k := 6) (v := (sv 6) ||| (2 ^ k)) hx hb hX hP hD hS 1 rfl (by omega) (by decide) dX8_cuts_48 (fun H locs hP hD hS => ?_)
      have hP : va_P G.1 vwCl (mow G ad (va_up z 4 (ntU (z 4) + 1)) fo (va_up sv 6 ((sv 6) ||| (2 ^ k))) d (ntP pa sv (z 4)) ke ik fa te aw) H := hP
      have hD : va_D A (mow G ad (va_up z 4 (ntU (z 4) + 1)) fo (va_up sv 6 ((sv 6) ||| (2 ^ k))) d (ntP pa sv (z 4)) ke ik fa te aw) := hD
      refine lv_aload_n hx hb dX8_cuts_49 rfl (lv_at hl 0 rfl) ?_
      refine va_get (D := G.1) (ci := 7) (v := .ref (ad 1)) (C := RX8) (T := TX8) (N := 17) hx hb hts inA8 hown hX.1 hP 0 rfl rfl 1 (by decide) (hts _ kw_681) (fun _ h9 => h9) rfl dX8_cuts_50 ?_
      refine lv_iconst (v := (nI 5)) hx hb dX8_cuts_53 (by decide) ?_
      refine nv_ald (f := va_up sv 6 ((sv 6) ||| (2 ^ k))) (k := 5) hx hb hX hP 1 rfl (by omega) (by decide) dX8_cuts_54 ?_
      refine ti (y := (nI (sv 5))) rfl ?_
      refine lv_iload_n hx hb dX8_cuts_55 rfl (lv_at hl 1 rfl) ?_
      refine ca_Si (rest := []) (wr := mow G ad (va_up z 4 (ntU (z 4) + 1)) fo (va_up sv 6 ((sv 6) ||| (2 ^ k))) d (ntP pa sv (z 4)) ke ik fa te aw) F hX (mX8_has l G (sv 5) k (by omega) (by omega)) (cA_S hts kw_801 kw_8 kw_799 kw_800 hdX8_has ⟨Nat.le_of_ble_eq_true rfl, Nat.le_of_ble_eq_true rfl⟩) rfl hl.1 rfl (Nat.le_of_ble_eq_true rfl) dX8_cuts_56 ⟨Nat.le_of_ble_eq_true rfl, Nat.le_of_ble_eq_true rfl⟩ hP hD hS hA (List.Perm.refl _) (fun r56 u56 H locs hp56 hP hD hS => ?_)
      have hP : va_P G.1 vwCl (mow G ad (va_up z 4 (ntU (z 4) + 1)) fo (va_up sv 6 ((sv 6) ||| (2 ^ k))) d (ntP pa sv (z 4)) ke ik fa te aw) H := hP
      have hD : va_D A (mow G ad (va_up z 4 (ntU (z 4) + 1)) fo (va_up sv 6 ((sv 6) ||| (2 ^ k))) d (ntP pa sv (z 4)) ke ik fa te aw) := hD
      subst hp56
      refine bv_ne (b := (sv 5).testBit k) (tgt := 64) hx hb dX8_cuts_59 (by decide) (fun c59 => ?_) (fun c59 => ?_)
      · refine lv_iconst (v := (nI 0)) hx hb dX8_cuts_64 (by decide) ?_
        refine lv_istore_n (lv' := [(2, .int (nI 0)), (0, .ref (ad 0)), (1, .int (nI k))]) hx hb dX8_cuts_65 rfl hl (by decide) rfl (fun ls hl => ?_)
        refine lv_aload_n hx hb dX8_cuts_66 rfl (lv_at hl 1 rfl) ?_
        refine va_get (D := G.1) (ci := 7) (v := .ref (ad 1)) (C := RX8) (T := TX8) (N := 17) hx hb hts inA8 hown hX.1 hP 0 rfl rfl 1 (by decide) (hts _ kw_681) (fun _ h9 => h9) rfl dX8_cuts_67 ?_
        refine lv_iconst (v := (nI 5)) hx hb dX8_cuts_70 (by decide) ?_
        refine lv_aload_n hx hb dX8_cuts_71 rfl (lv_at hl 1 rfl) ?_
        refine lv_aload_n hx hb dX8_cuts_72 rfl (lv_at hl 1 rfl) ?_
        refine va_get (D := G.1) (ci := 7) (v := .ref (ad 1)) (C := RX8) (T := TX8) (N := 17) hx hb hts inA8 hown hX.1 hP 0 rfl rfl 1 (by decide) (hts _ kw_681) (fun _ h9 => h9) rfl dX8_cuts_73 ?_
        refine lv_iconst (v := (nI 5)) hx hb dX8_cuts_76 (by decide) ?_
        refine nv_ald (f := va_up sv 6 ((sv 6) ||| (2 ^ k))) (k := 5) hx hb hX hP 1 rfl (by omega) (by decide) dX8_cuts_77 ?_
        refine ti (y := (nI (sv 5))) rfl ?_
        refine lv_iconst (v := (nI 1)) hx hb dX8_cuts_78 (by decide) ?_
        refine lv_iload_n hx hb dX8_cuts_79 rfl (lv_at hl 2 rfl) ?_
        refine lv_ishl hx hb dX8_cuts_80 (ti (y := (nI (2 ^ k))) (qn_sh1 (by omega)) ?_)
        refine lv_iconst (v := (-1)) hx hb dX8_cuts_81 (by decide) ?_
        refine lv_ixor hx hb dX8_cuts_82 ?_
        refine lv_iand hx hb dX8_cuts_83 (ti (y := (nI (nd (sv 5) (2 ^ k)))) (qn_andn _ _) ?_)
        refine ca_Vi (ci := 7) (q := (RX8, TX8, 17)) (rest := [.int (nI 5), .ref (ad 1)]) (wr := ([] : va_W)) F hX (mX8_hanging l G ad (va_up z 4 (ntU (z 4) + 1)) fo (va_up sv 6 ((sv 6) ||| (2 ^ k))) d (ntP pa sv (z 4)) ke ik fa te aw (nd (sv 5) (2 ^ k)) (hB.u6 hdn) (by have := nd_le (sv 5) (2 ^ k); omega)) (cA_V hts kw_862 kw_8 kw_859 kw_861 kp_42 hdX8_hanging ⟨Nat.le_of_ble_eq_true rfl, Nat.le_of_ble_eq_true rfl⟩) rfl rfl rfl hl.1 rfl (Nat.le_of_ble_eq_true rfl) dX8_cuts_84 ⟨Nat.le_of_ble_eq_true rfl, Nat.le_of_ble_eq_true rfl⟩ hP hD hS hA (pm_nil _) (fun r84 u84 H locs hp84 hP hD hS => ?_)
        have hP : va_P G.1 vwCl (mow G ad (va_up z 4 (ntU (z 4) + 1)) fo (va_up sv 6 ((sv 6) ||| (2 ^ k))) d (ntP pa sv (z 4)) ke ik fa te aw) H := wp_pm (pm_nil _).symm hP
        have hD : va_D A (mow G ad (va_up z 4 (ntU (z 4) + 1)) fo (va_up sv 6 ((sv 6) ||| (2 ^ k))) d (ntP pa sv (z 4)) ke ik fa te aw) := wd_pm (pm_nil _).symm hD
        subst hp84
        refine ti (y := (nI (hgM sv k))) (by rw [sf_u (show 6 < 16 by decide), sg_u (show 6 < 28 by decide)]; rfl) ?_
        refine nv_ast (f := va_up sv 6 ((sv 6) ||| (2 ^ k))) (k := 5) (v := hgM sv k) hx hb hX hP hD hS 1 rfl (by omega) (by decide) dX8_cuts_87 (fun H locs hP hD hS => ?_)
        have hP : va_P G.1 vwCl (mow G ad (va_up z 4 (ntU (z 4) + 1)) fo (va_up (va_up sv 6 ((sv 6) ||| (2 ^ k))) 5 (hgM sv k)) d (ntP pa sv (z 4)) ke ik fa te aw) H := hP
        have hD : va_D A (mow G ad (va_up z 4 (ntU (z 4) + 1)) fo (va_up (va_up sv 6 ((sv 6) ||| (2 ^ k))) 5 (hgM sv k)) d (ntP pa sv (z 4)) ke ik fa te aw) := hD
        have e8 : va_up (va_up (va_up sv 6 (sv 6 ||| 2 ^ k)) 5 ((cmS sv k 0).2.1)) 4 ((cmS sv k 0).1) = va_up (va_up sv 6 ((sv 6) ||| (2 ^ k))) 5 (hgM sv k) := by funext j; show va_up (va_up (va_up sv 6 (sv 6 ||| 2 ^ k)) 5 (hgM sv k)) 4 (sv 4) j = va_up (va_up sv 6 (sv 6 ||| 2 ^ k)) 5 (hgM sv k) j; unfold va_up; by_cases h4 : j = 4; rw [if_pos h4, h4]; rfl; rw [if_neg h4]
        have hP : va_P G.1 vwCl (mow G ad (va_up z 4 (ntU (z 4) + 1)) fo (va_up (va_up (va_up sv 6 (sv 6 ||| 2 ^ k)) 5 ((cmS sv k 0).2.1)) 4 ((cmS sv k 0).1)) d (ntP pa sv (z 4)) ke ik fa te aw) H := by rw [e8]; exact hP
        have hD : va_D A (mow G ad (va_up z 4 (ntU (z 4) + 1)) fo (va_up (va_up (va_up sv 6 (sv 6 ||| 2 ^ k)) 5 ((cmS sv k 0).2.1)) 4 ((cmS sv k 0).1)) d (ntP pa sv (z 4)) ke ik fa te aw) := by rw [e8]; exact hD
        refine lv_iconst (v := (nI 0)) hx hb dX8_cuts_88 (by decide) ?_
        refine lv_istore_n (lv' := [(3, .int (nI 0)), (2, .int (nI 0)), (0, .ref (ad 0)), (1, .int (nI k))]) hx hb dX8_cuts_89 rfl hl (by decide) rfl (fun ls hl => ?_)
        have lp90 : ∀ (n90 : Nat) (v : Nat) (tt : Nat) (mm : Nat) (lo : Nat) (y : Nat → Nat), (sv 0 - v) < n90 → tt = (cmS sv k v).2.1 → mm = (cmS sv k v).1 → lo = (cmS sv k v).2.2 → (v ≤ sv 0) → (∀ j, y j ≤ 1000000) → ∀ (H : Heap) (locs : List Loc), va_P G.1 vwCl (mow G ad (va_up z 4 (ntU (z 4) + 1)) fo (va_up (va_up (va_up sv 6 (sv 6 ||| 2 ^ k)) 5 tt) 4 mm) d (ntP pa sv (z 4)) ke ik fa te y) H → va_D A (mow G ad (va_up z 4 (ntU (z 4) + 1)) fo (va_up (va_up (va_up sv 6 (sv 6 ||| 2 ^ k)) 5 tt) 4 mm) d (ntP pa sv (z 4)) ke ik fa te y) → va_S A s.heap H locs → ∀ (ls : Array Slot), lv_has ls 6 [(0, .ref (ad 0)), (1, .int (nI k)), (2, .int (nI lo)), (3, .int (nI v))] → WI p l e (rmN 3 71) s m [.ref (ad 0), .int (nI k)] below meth c H locs G A (fun (r9 : Int32) (u9 : (Nat → Nat)) => r9 = nI (cmS sv k (sv 0)).2.2 ∧ ∀ j, u9 j ≤ 1000000) (fun (u9 : (Nat → Nat)) => mow G ad (va_up z 4 (ntU (z 4) + 1)) fo (cutS sv k) d (ntP pa sv (z 4)) ke ik fa te u9) (F0 m 90 ls []) := by
          intro n90
          induction n90 with
          | zero => intro v tt mm lo y h9; exact absurd h9 (Nat.not_lt_zero _)
          | succ n90 ih90 =>
            intro v tt mm lo y hm90 e_tt e_mm e_lo hv hy H locs hP hD hS ls hl
            subst e_tt
            subst e_mm
            subst e_lo
            refine lv_iload_n hx hb dX8_cuts_90 rfl (lv_at hl 3 rfl) ?_
            refine lv_aload_n hx hb dX8_cuts_91 rfl (lv_at hl 0 rfl) ?_
            refine va_get (D := G.1) (ci := 7) (v := .ref (ad 1)) (C := RX8) (T := TX8) (N := 17) hx hb hts inA8 hown hX.1 hP 0 rfl rfl 1 (by decide) (hts _ kw_681) (fun _ h9 => h9) rfl dX8_cuts_92 ?_
            refine lv_iconst (v := (nI 0)) hx hb dX8_cuts_95 (by decide) ?_
            refine nv_ald (f := va_up (va_up (va_up sv 6 (sv 6 ||| 2 ^ k)) 5 ((cmS sv k v).2.1)) 4 ((cmS sv k v).1)) (k := 0) hx hb hX hP 1 rfl (by omega) (by decide) dX8_cuts_96 ?_
            refine ti (y := (nI (sv 0))) rfl ?_
            refine nv_ge (x := v) (y := sv 0) (tgt := 223) hx hb dX8_cuts_97 (by decide) (by omega) (by omega) (fun c97 => ?_) (fun c97 => ?_)
            · have ev : v = sv 0 := by omega
              have hP : va_P G.1 vwCl (mow G ad (va_up z 4 (ntU (z 4) + 1)) fo (va_up (va_up (va_up sv 6 (sv 6 ||| 2 ^ k)) 5 ((cmS sv k (sv 0)).2.1)) 4 ((cmS sv k (sv 0)).1)) d (ntP pa sv (z 4)) ke ik fa te y) H := by rw [← ev]; exact hP
              have hD : va_D A (mow G ad (va_up z 4 (ntU (z 4) + 1)) fo (va_up (va_up (va_up sv 6 (sv 6 ||| 2 ^ k)) 5 ((cmS sv k (sv 0)).2.1)) 4 ((cmS sv k (sv 0)).1)) d (ntP pa sv (z 4)) ke ik fa te y) := by rw [← ev]; exact hD
              refine lv_aload_n hx hb dX8_cuts_223 rfl (lv_at hl 0 rfl) ?_
              refine va_get (D := G.1) (ci := 7) (v := .ref (ad 1)) (C := RX8) (T := TX8) (N := 17) hx hb hts inA8 hown hX.1 hP 0 rfl rfl 1 (by decide) (hts _ kw_681) (fun _ h9 => h9) rfl dX8_cuts_224 ?_
              refine lv_iconst (v := (nI 5)) hx hb dX8_cuts_227 (by decide) ?_
              refine lv_aload_n hx hb dX8_cuts_228 rfl (lv_at hl 0 rfl) ?_
              refine lv_aload_n hx hb dX8_cuts_229 rfl (lv_at hl 0 rfl) ?_
              refine va_get (D := G.1) (ci := 7) (v := .ref (ad 1)) (C := RX8) (T := TX8) (N := 17) hx hb hts inA8 hown hX.1 hP 0 rfl rfl 1 (by decide) (hts _ kw_681) (fun _ h9 => h9) rfl dX8_cuts_230 ?_
              refine lv_iconst (v := (nI 5)) hx hb dX8_cuts_233 (by decide) ?_
              refine nv_ald (f := va_up (va_up (va_up sv 6 (sv 6 ||| 2 ^ k)) 5 ((cmS sv k (sv 0)).2.1)) 4 ((cmS sv k (sv 0)).1)) (k := 5) hx hb hX hP 1 rfl (by omega) (by decide) dX8_cuts_234 ?_
              refine ti (y := (nI ((cmS sv k (sv 0)).2.1))) rfl ?_
              refine ca_Vi (ci := 7) (q := (RX8, TX8, 17)) (rest := [.int (nI 5), .ref (ad 1)]) (wr := ([] : va_W)) F hX (mX8_pruned l G ad (va_up z 4 (ntU (z 4) + 1)) fo (va_up (va_up (va_up sv 6 (sv 6 ||| 2 ^ k)) 5 ((cmS sv k (sv 0)).2.1)) 4 ((cmS sv k (sv 0)).1)) d (ntP pa sv (z 4)) ke ik fa te y ((cmS sv k (sv 0)).2.1) (((hB.u6 hdn).u5 (hcm0 _).2.1).u4 (hcm0 _).1) (hcm0 _).2.1) (cA_V hts kw_846 kw_8 kw_843 kw_845 kp_40 hdX8_pruned ⟨Nat.le_of_ble_eq_true rfl, Nat.le_of_ble_eq_true rfl⟩) rfl rfl rfl hl.1 rfl (Nat.le_of_ble_eq_true rfl) dX8_cuts_235 ⟨Nat.le_of_ble_eq_true rfl, Nat.le_of_ble_eq_true rfl⟩ hP hD hS hA (pm_nil _) (fun r235 u235 H locs hp235 hP hD hS => ?_)
              have hP : va_P G.1 vwCl (mow G ad (va_up z 4 (ntU (z 4) + 1)) fo (va_up (va_up (va_up sv 6 (sv 6 ||| 2 ^ k)) 5 ((cmS sv k (sv 0)).2.1)) 4 ((cmS sv k (sv 0)).1)) d (ntP pa sv (z 4)) ke ik fa te y) H := wp_pm (pm_nil _).symm hP
              have hD : va_D A (mow G ad (va_up z 4 (ntU (z 4) + 1)) fo (va_up (va_up (va_up sv 6 (sv 6 ||| 2 ^ k)) 5 ((cmS sv k (sv 0)).2.1)) 4 ((cmS sv k (sv 0)).1)) d (ntP pa sv (z 4)) ke ik fa te y) := wd_pm (pm_nil _).symm hD
              subst hp235
              refine ti (y := (nI (mpN (sf sv) (sg sv) (sv 1) (sv 0) (sv 2) (cmS sv k (sv 0)).1 4096 (cmS sv k (sv 0)).2.1))) (by simp only [sf_u (show 4 < 16 by decide), sg_u (show 4 < 28 by decide), sc_u (show 4 < 40 by decide), sf_u (show 5 < 16 by decide), sg_u (show 5 < 28 by decide), sc_u (show 5 < 40 by decide), sf_u (show 6 < 16 by decide), sg_u (show 6 < 28 by decide), sc_u (show 6 < 40 by decide)]; rfl) ?_
              refine nv_ast (f := va_up (va_up (va_up sv 6 (sv 6 ||| 2 ^ k)) 5 ((cmS sv k (sv 0)).2.1)) 4 ((cmS sv k (sv 0)).1)) (k := 5) (v := mpN (sf sv) (sg sv) (sv 1) (sv 0) (sv 2) (cmS sv k (sv 0)).1 4096 (cmS sv k (sv 0)).2.1) hx hb hX hP hD hS 1 rfl (by omega) (by decide) dX8_cuts_238 (fun H locs hP hD hS => ?_)
              have hP : va_P G.1 vwCl (mow G ad (va_up z 4 (ntU (z 4) + 1)) fo (va_up (va_up (va_up (va_up sv 6 (sv 6 ||| 2 ^ k)) 5 ((cmS sv k (sv 0)).2.1)) 4 ((cmS sv k (sv 0)).1)) 5 (mpN (sf sv) (sg sv) (sv 1) (sv 0) (sv 2) (cmS sv k (sv 0)).1 4096 (cmS sv k (sv 0)).2.1)) d (ntP pa sv (z 4)) ke ik fa te y) H := hP
              have hD : va_D A (mow G ad (va_up z 4 (ntU (z 4) + 1)) fo (va_up (va_up (va_up (va_up sv 6 (sv 6 ||| 2 ^ k)) 5 ((cmS sv k (sv 0)).2.1)) 4 ((cmS sv k (sv 0)).1)) 5 (mpN (sf sv) (sg sv) (sv 1) (sv 0) (sv 2) (cmS sv k (sv 0)).1 4096 (cmS sv k (sv 0)).2.1)) d (ntP pa sv (z 4)) ke ik fa te y) := hD
              have e8 : cutS sv k = va_up (va_up (va_up (va_up sv 6 (sv 6 ||| 2 ^ k)) 5 ((cmS sv k (sv 0)).2.1)) 4 ((cmS sv k (sv 0)).1)) 5 (mpN (sf sv) (sg sv) (sv 1) (sv 0) (sv 2) (cmS sv k (sv 0)).1 4096 (cmS sv k (sv 0)).2.1) := by funext j; unfold cutS va_up; by_cases h5 : j = 5; simp [h5]; by_cases h4 : j = 4; simp [h4, h5]; simp [h4, h5]
              have hP : va_P G.1 vwCl (mow G ad (va_up z 4 (ntU (z 4) + 1)) fo (cutS sv k) d (ntP pa sv (z 4)) ke ik fa te y) H := by rw [e8]; exact hP
              have hD : va_D A (mow G ad (va_up z 4 (ntU (z 4) + 1)) fo (cutS sv k) d (ntP pa sv (z 4)) ke ik fa te y) := by rw [e8]; exact hD
              refine lv_iload_n hx hb dX8_cuts_239 rfl (lv_at hl 2 rfl) ?_
              exact re_i (v := (nI ((cmS sv k v).2.2))) hx hb hr hlocks hS y hP hD ⟨by rw [ev], hy⟩ dX8_cuts_240
            · have hcm := hcm0 v
              refine lv_aload_n hx hb dX8_cuts_100 rfl (lv_at hl 0 rfl) ?_
              refine lv_aload_n hx hb dX8_cuts_101 rfl (lv_at hl 0 rfl) ?_
              refine va_get (D := G.1) (ci := 7) (v := .ref (ad 1)) (C := RX8) (T := TX8) (N := 17) hx hb hts inA8 hown hX.1 hP 0 rfl rfl 1 (by decide) (hts _ kw_681) (fun _ h9 => h9) rfl dX8_cuts_102 ?_
              refine lv_iconst (v := (nI 5)) hx hb dX8_cuts_105 (by decide) ?_
              refine nv_ald (f := va_up (va_up (va_up sv 6 (sv 6 ||| 2 ^ k)) 5 ((cmS sv k v).2.1)) 4 ((cmS sv k v).1)) (k := 5) hx hb hX hP 1 rfl (by omega) (by decide) dX8_cuts_106 ?_
              refine ti (y := (nI ((cmS sv k v).2.1))) rfl ?_
              refine ca_Vi (ci := 7) (q := (RX8, TX8, 17)) (rest := []) (wr := ([] : va_W)) F hX (mX8_nodesOf l G ad (va_up z 4 (ntU (z 4) + 1)) fo (va_up (va_up (va_up sv 6 (sv 6 ||| 2 ^ k)) 5 ((cmS sv k v).2.1)) 4 ((cmS sv k v).1)) d (ntP pa sv (z 4)) ke ik fa te y ((cmS sv k v).2.1) (((hB.u6 hdn).u5 hcm.2.1).u4 hcm.1) (Nat.lt_trans hcm.2.1 (by decide))) (cA_V hts kw_798 kw_8 kw_795 kw_797 kp_30 hdX8_nodesOf ⟨Nat.le_of_ble_eq_true rfl, Nat.le_of_ble_eq_true rfl⟩) rfl rfl rfl hl.1 rfl (Nat.le_of_ble_eq_true rfl) dX8_cuts_107 ⟨Nat.le_of_ble_eq_true rfl, Nat.le_of_ble_eq_true rfl⟩ hP hD hS hA (pm_nil _) (fun r107 u107 H locs hp107 hP hD hS => ?_)
              have hP : va_P G.1 vwCl (mow G ad (va_up z 4 (ntU (z 4) + 1)) fo (va_up (va_up (va_up sv 6 (sv 6 ||| 2 ^ k)) 5 ((cmS sv k v).2.1)) 4 ((cmS sv k v).1)) d (ntP pa sv (z 4)) ke ik fa te y) H := wp_pm (pm_nil _).symm hP
              have hD : va_D A (mow G ad (va_up z 4 (ntU (z 4) + 1)) fo (va_up (va_up (va_up sv 6 (sv 6 ||| 2 ^ k)) 5 ((cmS sv k v).2.1)) 4 ((cmS sv k v).1)) d (ntP pa sv (z 4)) ke ik fa te y) := wd_pm (pm_nil _).symm hD
              subst hp107
              refine ti (y := (nI (clo (sf sv) (sg sv) (cmS sv k v).2.1 (sv 1) (sv 2)))) (by simp only [sf_u (show 4 < 16 by decide), sg_u (show 4 < 28 by decide), sc_u (show 4 < 40 by decide), sf_u (show 5 < 16 by decide), sg_u (show 5 < 28 by decide), sc_u (show 5 < 40 by decide), sf_u (show 6 < 16 by decide), sg_u (show 6 < 28 by decide), sc_u (show 6 < 40 by decide)]; rfl) ?_
              refine lv_istore (lv' := [(4, .int (nI (clo (sf sv) (sg sv) (cmS sv k v).2.1 (sv 1) (sv 2)))), (0, .ref (ad 0)), (1, .int (nI k)), (2, .int (nI ((cmS sv k v).2.2))), (3, .int (nI v))]) hx hb dX8_cuts_110 hl (by decide) rfl (fun ls hl => ?_)
              refine lv_aload_n hx hb dX8_cuts_112 rfl (lv_at hl 1 rfl) ?_
              refine va_get (D := G.1) (ci := 7) (v := .ref (ad 1)) (C := RX8) (T := TX8) (N := 17) hx hb hts inA8 hown hX.1 hP 0 rfl rfl 1 (by decide) (hts _ kw_681) (fun _ h9 => h9) rfl dX8_cuts_113 ?_
              refine lv_iconst (v := (nI 4)) hx hb dX8_cuts_116 (by decide) ?_
              refine nv_ald (f := va_up (va_up (va_up sv 6 (sv 6 ||| 2 ^ k)) 5 ((cmS sv k v).2.1)) 4 ((cmS sv k v).1)) (k := 4) hx hb hX hP 1 rfl (by omega) (by decide) dX8_cuts_117 ?_
              refine ti (y := (nI ((cmS sv k v).1))) rfl ?_
              refine lv_iload_n hx hb dX8_cuts_118 rfl (lv_at hl 4 rfl) ?_
              refine ca_Si (rest := []) (wr := mow G ad (va_up z 4 (ntU (z 4) + 1)) fo (va_up (va_up (va_up sv 6 (sv 6 ||| 2 ^ k)) 5 ((cmS sv k v).2.1)) 4 ((cmS sv k v).1)) d (ntP pa sv (z 4)) ke ik fa te y) F hX (mX8_has l G ((cmS sv k v).1) v (Nat.lt_trans hcm.1 (by decide)) (by omega)) (cA_S hts kw_801 kw_8 kw_799 kw_800 hdX8_has ⟨Nat.le_of_ble_eq_true rfl, Nat.le_of_ble_eq_true rfl⟩) rfl hl.1 rfl (Nat.le_of_ble_eq_true rfl) dX8_cuts_119 ⟨Nat.le_of_ble_eq_true rfl, Nat.le_of_ble_eq_true rfl⟩ hP hD hS hA (List.Perm.refl _) (fun r119 u119 H locs hp119 hP hD hS => ?_)
              have hP : va_P G.1 vwCl (mow G ad (va_up z 4 (ntU (z 4) + 1)) fo (va_up (va_up (va_up sv 6 (sv 6 ||| 2 ^ k)) 5 ((cmS sv k v).2.1)) 4 ((cmS sv k v).1)) d (ntP pa sv (z 4)) ke ik fa te y) H := hP
              have hD : va_D A (mow G ad (va_up z 4 (ntU (z 4) + 1)) fo (va_up (va_up (va_up sv 6 (sv 6 ||| 2 ^ k)) 5 ((cmS sv k v).2.1)) 4 ((cmS sv k v).1)) d (ntP pa sv (z 4)) ke ik fa te y) := hD
              subst hp119
              refine bv_eq (b := ((cmS sv k v).1).testBit v) (tgt := 217) hx hb dX8_cuts_122 (by decide) (fun c122 => ?_) (fun c122 => ?_)
              · refine lv_iinc (v := (nI (v + 1))) (lv' := [(3, .int (nI (v + 1))), (4, .int (nI (clo (sf sv) (sg sv) (cmS sv k v).2.1 (sv 1) (sv 2)))), (0, .ref (ad 0)), (1, .int (nI k)), (2, .int (nI ((cmS sv k v).2.2)))]) hx hb dX8_cuts_217 hl (k := 4) rfl (qn_inc _) (by decide) rfl (fun ls hl => ?_)
                refine lv_goto (tgt := 90) hx hb dX8_cuts_220 (by decide) ?_
                exact ih90 (v + 1) ((cmS sv k v).2.1) ((cmS sv k v).1) ((cmS sv k v).2.2) y (by omega) (by rw [cmS_no1 c122]) (by rw [cmS_no1 c122]) (by rw [cmS_no1 c122]) (by omega) hy _ _ hP hD hS ls (lv_sub hl [2, 3, 4, 0] rfl)
              · refine lv_iload hx hb dX8_cuts_125 (lv_at hl 0 rfl) ?_
                refine lv_iload_n hx hb dX8_cuts_127 rfl (lv_at hl 4 rfl) ?_
                refine ca_Si (rest := []) (wr := mow G ad (va_up z 4 (ntU (z 4) + 1)) fo (va_up (va_up (va_up sv 6 (sv 6 ||| 2 ^ k)) 5 ((cmS sv k v).2.1)) 4 ((cmS sv k v).1)) d (ntP pa sv (z 4)) ke ik fa te y) F hX (mX8_has l G (clo (sf sv) (sg sv) (cmS sv k v).2.1 (sv 1) (sv 2)) v (by have := clo_lt gf gg (set := (cmS sv k v).2.1) (L := sv 1) (src := sv 2) (by omega); omega) (by omega)) (cA_S hts kw_801 kw_8 kw_799 kw_800 hdX8_has ⟨Nat.le_of_ble_eq_true rfl, Nat.le_of_ble_eq_true rfl⟩) rfl hl.1 rfl (Nat.le_of_ble_eq_true rfl) dX8_cuts_128 ⟨Nat.le_of_ble_eq_true rfl, Nat.le_of_ble_eq_true rfl⟩ hP hD hS hA (List.Perm.refl _) (fun r128 u128 H locs hp128 hP hD hS => ?_)
                have hP : va_P G.1 vwCl (mow G ad (va_up z 4 (ntU (z 4) + 1)) fo (va_up (va_up (va_up sv 6 (sv 6 ||| 2 ^ k)) 5 ((cmS sv k v).2.1)) 4 ((cmS sv k v).1)) d (ntP pa sv (z 4)) ke ik fa te y) H := hP
                have hD : va_D A (mow G ad (va_up z 4 (ntU (z 4) + 1)) fo (va_up (va_up (va_up sv 6 (sv 6 ||| 2 ^ k)) 5 ((cmS sv k v).2.1)) 4 ((cmS sv k v).1)) d (ntP pa sv (z 4)) ke ik fa te y) := hD
                subst hp128
                refine bv_ne (b := (clo (sf sv) (sg sv) (cmS sv k v).2.1 (sv 1) (sv 2)).testBit v) (tgt := 217) hx hb dX8_cuts_131 (by decide) (fun c131 => ?_) (fun c131 => ?_)
                · refine lv_iinc (v := (nI (v + 1))) (lv' := [(3, .int (nI (v + 1))), (4, .int (nI (clo (sf sv) (sg sv) (cmS sv k v).2.1 (sv 1) (sv 2)))), (0, .ref (ad 0)), (1, .int (nI k)), (2, .int (nI ((cmS sv k v).2.2)))]) hx hb dX8_cuts_217 hl (k := 4) rfl (qn_inc _) (by decide) rfl (fun ls hl => ?_)
                  refine lv_goto (tgt := 90) hx hb dX8_cuts_220 (by decide) ?_
                  exact ih90 (v + 1) ((cmS sv k v).2.1) ((cmS sv k v).1) ((cmS sv k v).2.2) y (by omega) (by rw [cmS_no2 c131]) (by rw [cmS_no2 c131]) (by rw [cmS_no2 c131]) (by omega) hy _ _ hP hD hS ls (lv_sub hl [2, 3, 4, 0] rfl)
                · refine lv_aload_n hx hb dX8_cuts_134 rfl (lv_at hl 1 rfl) ?_
                  refine lv_iload hx hb dX8_cuts_135 (lv_at hl 0 rfl) ?_
                  refine ca_Vv (ci := 7) (q := (RX8, TX8, 17)) (rest := []) (wr := ([] : va_W)) F hX (mX8_measures l G ad (va_up z 4 (ntU (z 4) + 1)) fo (va_up (va_up (va_up sv 6 (sv 6 ||| 2 ^ k)) 5 ((cmS sv k v).2.1)) 4 ((cmS sv k v).1)) d (ntP pa sv (z 4)) ke ik fa te y (clo (sf sv) (sg sv) (cmS sv k v).2.1 (sv 1) (sv 2)) (((hB.u6 hdn).u5 hcm.2.1).u4 hcm.1) hy (by have := clo_lt gf gg (set := (cmS sv k v).2.1) (L := sv 1) (src := sv 2) (by omega); omega)) (cA_V hts kw_805 kw_8 kw_802 kw_804 kp_31 hdX8_measures ⟨Nat.le_of_ble_eq_true rfl, Nat.le_of_ble_eq_true rfl⟩) rfl rfl rfl hl.1 rfl (Nat.le_of_ble_eq_true rfl) dX8_cuts_137 ⟨Nat.le_of_ble_eq_true rfl, Nat.le_of_ble_eq_true rfl⟩ hP hD hS hA (pm_nil _) (fun u137 H locs hp137 hP hD hS => ?_)
                  have hP : va_P G.1 vwCl (mow G ad (va_up z 4 (ntU (z 4) + 1)) fo (va_up (va_up (va_up sv 6 (sv 6 ||| 2 ^ k)) 5 ((cmS sv k v).2.1)) 4 ((cmS sv k v).1)) d (ntP pa sv (z 4)) ke ik fa te (mesN (sf (va_up (va_up (va_up sv 6 (sv 6 ||| 2 ^ k)) 5 ((cmS sv k v).2.1)) 4 ((cmS sv k v).1))) (sg (va_up (va_up (va_up sv 6 (sv 6 ||| 2 ^ k)) 5 ((cmS sv k v).2.1)) 4 ((cmS sv k v).1))) (sc (va_up (va_up (va_up sv 6 (sv 6 ||| 2 ^ k)) 5 ((cmS sv k v).2.1)) 4 ((cmS sv k v).1))) ((va_up (va_up (va_up sv 6 (sv 6 ||| 2 ^ k)) 5 ((cmS sv k v).2.1)) 4 ((cmS sv k v).1)) 6) ((va_up (va_up (va_up sv 6 (sv 6 ||| 2 ^ k)) 5 ((cmS sv k v).2.1)) 4 ((cmS sv k v).1)) 1) ((va_up (va_up (va_up sv 6 (sv 6 ||| 2 ^ k)) 5 ((cmS sv k v).2.1)) 4 ((cmS sv k v).1)) 0) (clo (sf sv) (sg sv) (cmS sv k v).2.1 (sv 1) (sv 2)) y)) H := wp_pm (pm_nil _).symm hP
                  have hD : va_D A (mow G ad (va_up z 4 (ntU (z 4) + 1)) fo (va_up (va_up (va_up sv 6 (sv 6 ||| 2 ^ k)) 5 ((cmS sv k v).2.1)) 4 ((cmS sv k v).1)) d (ntP pa sv (z 4)) ke ik fa te (mesN (sf (va_up (va_up (va_up sv 6 (sv 6 ||| 2 ^ k)) 5 ((cmS sv k v).2.1)) 4 ((cmS sv k v).1))) (sg (va_up (va_up (va_up sv 6 (sv 6 ||| 2 ^ k)) 5 ((cmS sv k v).2.1)) 4 ((cmS sv k v).1))) (sc (va_up (va_up (va_up sv 6 (sv 6 ||| 2 ^ k)) 5 ((cmS sv k v).2.1)) 4 ((cmS sv k v).1))) ((va_up (va_up (va_up sv 6 (sv 6 ||| 2 ^ k)) 5 ((cmS sv k v).2.1)) 4 ((cmS sv k v).1)) 6) ((va_up (va_up (va_up sv 6 (sv 6 ||| 2 ^ k)) 5 ((cmS sv k v).2.1)) 4 ((cmS sv k v).1)) 1) ((va_up (va_up (va_up sv 6 (sv 6 ||| 2 ^ k)) 5 ((cmS sv k v).2.1)) 4 ((cmS sv k v).1)) 0) (clo (sf sv) (sg sv) (cmS sv k v).2.1 (sv 1) (sv 2)) y)) := wd_pm (pm_nil _).symm hD
                  have e8 : mesN (sf sv) (sg sv) (sc sv) (sv 6 ||| 2 ^ k) (sv 1) (sv 0) (clo (sf sv) (sg sv) (cmS sv k v).2.1 (sv 1) (sv 2)) y = mesN (sf (va_up (va_up (va_up sv 6 (sv 6 ||| 2 ^ k)) 5 ((cmS sv k v).2.1)) 4 ((cmS sv k v).1))) (sg (va_up (va_up (va_up sv 6 (sv 6 ||| 2 ^ k)) 5 ((cmS sv k v).2.1)) 4 ((cmS sv k v).1))) (sc (va_up (va_up (va_up sv 6 (sv 6 ||| 2 ^ k)) 5 ((cmS sv k v).2.1)) 4 ((cmS sv k v).1))) ((va_up (va_up (va_up sv 6 (sv 6 ||| 2 ^ k)) 5 ((cmS sv k v).2.1)) 4 ((cmS sv k v).1)) 6) ((va_up (va_up (va_up sv 6 (sv 6 ||| 2 ^ k)) 5 ((cmS sv k v).2.1)) 4 ((cmS sv k v).1)) 1) ((va_up (va_up (va_up sv 6 (sv 6 ||| 2 ^ k)) 5 ((cmS sv k v).2.1)) 4 ((cmS sv k v).1)) 0) (clo (sf sv) (sg sv) (cmS sv k v).2.1 (sv 1) (sv 2)) y := by simp only [sf_u (show 4 < 16 by decide), sg_u (show 4 < 28 by decide), sc_u (show 4 < 40 by decide), sf_u (show 5 < 16 by decide), sg_u (show 5 < 28 by decide), sc_u (show 5 < 40 by decide), sf_u (show 6 < 16 by decide), sg_u (show 6 < 28 by decide), sc_u (show 6 < 40 by decide)]; rfl
                  have hag := mes_ag (c := sc sv) (dn := (sv 6 ||| 2 ^ k)) (goals := clo (sf sv) (sg sv) (cmS sv k v).2.1 (sv 1) (sv 2)) hE y
                  have hym : ∀ j, (mesN (sf sv) (sg sv) (sc sv) (sv 6 ||| 2 ^ k) (sv 1) (sv 0) (clo (sf sv) (sg sv) (cmS sv k v).2.1 (sv 1) (sv 2)) y) j ≤ 1000000 := mesN_le hy
                  have hwl := W0_le (sf sv) (sg sv) (sc sv) (sv 6 ||| 2 ^ k) (sv 1) (sv 0) (clo (sf sv) (sg sv) (cmS sv k v).2.1 (sv 1) (sv 2))
                  have hP : va_P G.1 vwCl (mow G ad (va_up z 4 (ntU (z 4) + 1)) fo (va_up (va_up (va_up sv 6 (sv 6 ||| 2 ^ k)) 5 ((cmS sv k v).2.1)) 4 ((cmS sv k v).1)) d (ntP pa sv (z 4)) ke ik fa te (mesN (sf sv) (sg sv) (sc sv) (sv 6 ||| 2 ^ k) (sv 1) (sv 0) (clo (sf sv) (sg sv) (cmS sv k v).2.1 (sv 1) (sv 2)) y)) H := by rw [e8]; exact hP
                  have hD : va_D A (mow G ad (va_up z 4 (ntU (z 4) + 1)) fo (va_up (va_up (va_up sv 6 (sv 6 ||| 2 ^ k)) 5 ((cmS sv k v).2.1)) 4 ((cmS sv k v).1)) d (ntP pa sv (z 4)) ke ik fa te (mesN (sf sv) (sg sv) (sc sv) (sv 6 ||| 2 ^ k) (sv 1) (sv 0) (clo (sf sv) (sg sv) (cmS sv k v).2.1 (sv 1) (sv 2)) y)) := by rw [e8]; exact hD
                  refine lv_aload_n hx hb dX8_cuts_140 rfl (lv_at hl 1 rfl) ?_
                  refine va_get (D := G.1) (ci := 7) (v := .ref (ad 8)) (C := RX8) (T := TX8) (N := 17) hx hb hts inA8 hown hX.1 hP 0 rfl rfl 15 (by decide) (hts _ kw_695) (fun _ h9 => h9) rfl dX8_cuts_141 ?_
                  refine lv_iload_n hx hb dX8_cuts_144 rfl (lv_at hl 4 rfl) ?_
                  refine nv_ald (f := mesN (sf sv) (sg sv) (sc sv) (sv 6 ||| 2 ^ k) (sv 1) (sv 0) (clo (sf sv) (sg sv) (cmS sv k v).2.1 (sv 1) (sv 2)) y) (k := v) hx hb hX hP 8 rfl (by omega) (by decide) dX8_cuts_145 ?_
                  refine ti (y := (nI ((W0 (sf sv) (sg sv) (sc sv) (sv 6 ||| 2 ^ k) (sv 1) (sv 0) (clo (sf sv) (sg sv) (cmS sv k v).2.1 (sv 1) (sv 2))) v))) (by rw [hag v (by omega)]) ?_
                  refine lv_ldc (v := (nI 1000000)) hx hb hown (hts _ kw_806) dX8_cuts_146 ?_
                  refine nv_ge (x := (W0 (sf sv) (sg sv) (sc sv) (sv 6 ||| 2 ^ k) (sv 1) (sv 0) (clo (sf sv) (sg sv) (cmS sv k v).2.1 (sv 1) (sv 2))) v) (y := 1000000) (tgt := 155) hx hb dX8_cuts_148 (by decide) (by have := hwl v; omega) (by decide) (fun c148 => ?_) (fun c148 => ?_)
                  · refine lv_iconst (v := (nI 0)) hx hb dX8_cuts_155 (by decide) ?_
                    refine lv_istore (lv' := [(5, .int (nI 0)), (4, .int (nI (clo (sf sv) (sg sv) (cmS sv k v).2.1 (sv 1) (sv 2)))), (0, .ref (ad 0)), (1, .int (nI k)), (2, .int (nI ((cmS sv k v).2.2))), (3, .int (nI v))]) hx hb dX8_cuts_156 hl (by decide) rfl (fun ls hl => ?_)
                    refine lv_aload_n hx hb dX8_cuts_158 rfl (lv_at hl 2 rfl) ?_
                    refine va_get (D := G.1) (ci := 7) (v := .ref (ad 1)) (C := RX8) (T := TX8) (N := 17) hx hb hts inA8 hown hX.1 hP 0 rfl rfl 1 (by decide) (hts _ kw_681) (fun _ h9 => h9) rfl dX8_cuts_159 ?_
                    refine lv_iconst (v := (nI 5)) hx hb dX8_cuts_162 (by decide) ?_
                    refine lv_dup2_11 hx hb dX8_cuts_163 rfl rfl ?_
                    refine nv_ald (f := va_up (va_up (va_up sv 6 (sv 6 ||| 2 ^ k)) 5 ((cmS sv k v).2.1)) 4 ((cmS sv k v).1)) (k := 5) hx hb hX hP 1 rfl (by omega) (by decide) dX8_cuts_164 ?_
                    refine ti (y := (nI ((cmS sv k v).2.1))) rfl ?_
                    refine lv_iload hx hb dX8_cuts_165 (lv_at hl 0 rfl) ?_
                    refine nv_zeq (x := 0) (tgt := 178) hx hb dX8_cuts_167 (by decide) (by decide) (fun _ => ?_) (fun h9 => absurd h9 (by decide))
                    refine lv_iconst (v := (nI 0)) hx hb dX8_cuts_178 (by decide) ?_
                    refine lv_ior hx hb dX8_cuts_179 (ti (y := (nI (((cmS sv k v).2.1) ||| 0))) (qn_or _ _) ?_)
                    refine nv_ast (f := va_up (va_up (va_up sv 6 (sv 6 ||| 2 ^ k)) 5 ((cmS sv k v).2.1)) 4 ((cmS sv k v).1)) (k := 5) (v := ((cmS sv k v).2.1) ||| 0) hx hb hX hP hD hS 1 rfl (by omega) (by decide) dX8_cuts_180 (fun H locs hP hD hS => ?_)
                    have hP : va_P G.1 vwCl (mow G ad (va_up z 4 (ntU (z 4) + 1)) fo (va_up (va_up (va_up (va_up sv 6 (sv 6 ||| 2 ^ k)) 5 ((cmS sv k v).2.1)) 4 ((cmS sv k v).1)) 5 (((cmS sv k v).2.1) ||| 0)) d (ntP pa sv (z 4)) ke ik fa te (mesN (sf sv) (sg sv) (sc sv) (sv 6 ||| 2 ^ k) (sv 1) (sv 0) (clo (sf sv) (sg sv) (cmS sv k v).2.1 (sv 1) (sv 2)) y)) H := hP
                    have hD : va_D A (mow G ad (va_up z 4 (ntU (z 4) + 1)) fo (va_up (va_up (va_up (va_up sv 6 (sv 6 ||| 2 ^ k)) 5 ((cmS sv k v).2.1)) 4 ((cmS sv k v).1)) 5 (((cmS sv k v).2.1) ||| 0)) d (ntP pa sv (z 4)) ke ik fa te (mesN (sf sv) (sg sv) (sc sv) (sv 6 ||| 2 ^ k) (sv 1) (sv 0) (clo (sf sv) (sg sv) (cmS sv k v).2.1 (sv 1) (sv 2)) y)) := hD
                    refine lv_aload_n hx hb dX8_cuts_181 rfl (lv_at hl 2 rfl) ?_
                    refine va_get (D := G.1) (ci := 7) (v := .ref (ad 1)) (C := RX8) (T := TX8) (N := 17) hx hb hts inA8 hown hX.1 hP 0 rfl rfl 1 (by decide) (hts _ kw_681) (fun _ h9 => h9) rfl dX8_cuts_182 ?_
                    refine lv_iconst (v := (nI 4)) hx hb dX8_cuts_185 (by decide) ?_
                    refine lv_dup2_11 hx hb dX8_cuts_186 rfl rfl ?_
                    refine nv_ald (f := va_up (va_up (va_up (va_up sv 6 (sv 6 ||| 2 ^ k)) 5 ((cmS sv k v).2.1)) 4 ((cmS sv k v).1)) 5 (((cmS sv k v).2.1) ||| 0)) (k := 4) hx hb hX hP 1 rfl (by omega) (by decide) dX8_cuts_187 ?_
                    refine ti (y := (nI ((cmS sv k v).1))) rfl ?_
                    refine lv_iload hx hb dX8_cuts_188 (lv_at hl 0 rfl) ?_
                    refine nv_zeq (x := 0) (tgt := 197) hx hb dX8_cuts_190 (by decide) (by decide) (fun _ => ?_) (fun h9 => absurd h9 (by decide))
                    refine lv_iconst (v := (nI 1)) hx hb dX8_cuts_197 (by decide) ?_
                    refine lv_iload_n hx hb dX8_cuts_198 rfl (lv_at hl 5 rfl) ?_
                    refine lv_ishl hx hb dX8_cuts_199 (ti (y := (nI (2 ^ v))) (qn_sh1 (by omega)) ?_)
                    refine lv_iconst (v := (-1)) hx hb dX8_cuts_200 (by decide) ?_
                    refine lv_ixor hx hb dX8_cuts_201 ?_
                    refine lv_iand hx hb dX8_cuts_202 (ti (y := (nI (nd ((cmS sv k v).1) (2 ^ v)))) (qn_andn _ _) ?_)
                    refine nv_ast (f := va_up (va_up (va_up (va_up sv 6 (sv 6 ||| 2 ^ k)) 5 ((cmS sv k v).2.1)) 4 ((cmS sv k v).1)) 5 (((cmS sv k v).2.1) ||| 0)) (k := 4) (v := nd ((cmS sv k v).1) (2 ^ v)) hx hb hX hP hD hS 1 rfl (by omega) (by decide) dX8_cuts_203 (fun H locs hP hD hS => ?_)
                    have hP : va_P G.1 vwCl (mow G ad (va_up z 4 (ntU (z 4) + 1)) fo (va_up (va_up (va_up (va_up (va_up sv 6 (sv 6 ||| 2 ^ k)) 5 ((cmS sv k v).2.1)) 4 ((cmS sv k v).1)) 5 (((cmS sv k v).2.1) ||| 0)) 4 (nd ((cmS sv k v).1) (2 ^ v))) d (ntP pa sv (z 4)) ke ik fa te (mesN (sf sv) (sg sv) (sc sv) (sv 6 ||| 2 ^ k) (sv 1) (sv 0) (clo (sf sv) (sg sv) (cmS sv k v).2.1 (sv 1) (sv 2)) y)) H := hP
                    have hD : va_D A (mow G ad (va_up z 4 (ntU (z 4) + 1)) fo (va_up (va_up (va_up (va_up (va_up sv 6 (sv 6 ||| 2 ^ k)) 5 ((cmS sv k v).2.1)) 4 ((cmS sv k v).1)) 5 (((cmS sv k v).2.1) ||| 0)) 4 (nd ((cmS sv k v).1) (2 ^ v))) d (ntP pa sv (z 4)) ke ik fa te (mesN (sf sv) (sg sv) (sc sv) (sv 6 ||| 2 ^ k) (sv 1) (sv 0) (clo (sf sv) (sg sv) (cmS sv k v).2.1 (sv 1) (sv 2)) y)) := hD
                    refine lv_iload_n hx hb dX8_cuts_204 rfl (lv_at hl 4 rfl) ?_
                    refine lv_iload hx hb dX8_cuts_205 (lv_at hl 0 rfl) ?_
                    refine nv_zeq (x := 0) (tgt := 214) hx hb dX8_cuts_207 (by decide) (by decide) (fun _ => ?_) (fun h9 => absurd h9 (by decide))
                    refine lv_iconst (v := (nI 1)) hx hb dX8_cuts_214 (by decide) ?_
                    refine lv_iadd hx hb dX8_cuts_215 (ti (y := (nI (((cmS sv k v).2.2) + 1))) (nI_add _ _) ?_)
                    refine lv_istore_n (lv' := [(2, .int (nI (((cmS sv k v).2.2) + 1))), (5, .int (nI 0)), (4, .int (nI (clo (sf sv) (sg sv) (cmS sv k v).2.1 (sv 1) (sv 2)))), (0, .ref (ad 0)), (1, .int (nI k)), (3, .int (nI v))]) hx hb dX8_cuts_216 rfl hl (by decide) rfl (fun ls hl => ?_)
                    have e8 : va_up (va_up (va_up sv 6 (sv 6 ||| 2 ^ k)) 5 ((cmS sv k v).2.1 ||| 0)) 4 (nd (cmS sv k v).1 (2 ^ v)) = va_up (va_up (va_up (va_up (va_up sv 6 (sv 6 ||| 2 ^ k)) 5 ((cmS sv k v).2.1)) 4 ((cmS sv k v).1)) 5 (((cmS sv k v).2.1) ||| 0)) 4 (nd ((cmS sv k v).1) (2 ^ v)) := (up45 _ _ _ _ _).symm
                    have hP : va_P G.1 vwCl (mow G ad (va_up z 4 (ntU (z 4) + 1)) fo (va_up (va_up (va_up sv 6 (sv 6 ||| 2 ^ k)) 5 ((cmS sv k v).2.1 ||| 0)) 4 (nd (cmS sv k v).1 (2 ^ v))) d (ntP pa sv (z 4)) ke ik fa te (mesN (sf sv) (sg sv) (sc sv) (sv 6 ||| 2 ^ k) (sv 1) (sv 0) (clo (sf sv) (sg sv) (cmS sv k v).2.1 (sv 1) (sv 2)) y)) H := by rw [e8]; exact hP
                    have hD : va_D A (mow G ad (va_up z 4 (ntU (z 4) + 1)) fo (va_up (va_up (va_up sv 6 (sv 6 ||| 2 ^ k)) 5 ((cmS sv k v).2.1 ||| 0)) 4 (nd (cmS sv k v).1 (2 ^ v))) d (ntP pa sv (z 4)) ke ik fa te (mesN (sf sv) (sg sv) (sc sv) (sv 6 ||| 2 ^ k) (sv 1) (sv 0) (clo (sf sv) (sg sv) (cmS sv k v).2.1 (sv 1) (sv 2)) y)) := by rw [e8]; exact hD
                    refine lv_iinc (v := (nI (v + 1))) (lv' := [(3, .int (nI (v + 1))), (2, .int (nI (((cmS sv k v).2.2) + 1))), (5, .int (nI 0)), (4, .int (nI (clo (sf sv) (sg sv) (cmS sv k v).2.1 (sv 1) (sv 2)))), (0, .ref (ad 0)), (1, .int (nI k))]) hx hb dX8_cuts_217 hl (k := 5) rfl (qn_inc _) (by decide) rfl (fun ls hl => ?_)
                    refine lv_goto (tgt := 90) hx hb dX8_cuts_220 (by decide) ?_
                    exact ih90 (v + 1) ((cmS sv k v).2.1 ||| 0) (nd (cmS sv k v).1 (2 ^ v)) (((cmS sv k v).2.2) + 1) (mesN (sf sv) (sg sv) (sc sv) (sv 6 ||| 2 ^ k) (sv 1) (sv 0) (clo (sf sv) (sg sv) (cmS sv k v).2.1 (sv 1) (sv 2)) y) (by omega) (by rw [cmS_lost c122 c131 c148]) (by rw [cmS_lost c122 c131 c148]) (by rw [cmS_lost c122 c131 c148]) (by omega) hym _ _ hP hD hS ls (lv_sub hl [4, 5, 1, 0] rfl)
                  · refine lv_iconst (v := (nI 1)) hx hb dX8_cuts_151 (by decide) ?_
                    refine lv_goto (tgt := 156) hx hb dX8_cuts_152 (by decide) ?_
                    refine lv_istore (lv' := [(5, .int (nI 1)), (4, .int (nI (clo (sf sv) (sg sv) (cmS sv k v).2.1 (sv 1) (sv 2)))), (0, .ref (ad 0)), (1, .int (nI k)), (2, .int (nI ((cmS sv k v).2.2))), (3, .int (nI v))]) hx hb dX8_cuts_156 hl (by decide) rfl (fun ls hl => ?_)
                    refine lv_aload_n hx hb dX8_cuts_158 rfl (lv_at hl 2 rfl) ?_
                    refine va_get (D := G.1) (ci := 7) (v := .ref (ad 1)) (C := RX8) (T := TX8) (N := 17) hx hb hts inA8 hown hX.1 hP 0 rfl rfl 1 (by decide) (hts _ kw_681) (fun _ h9 => h9) rfl dX8_cuts_159 ?_
                    refine lv_iconst (v := (nI 5)) hx hb dX8_cuts_162 (by decide) ?_
                    refine lv_dup2_11 hx hb dX8_cuts_163 rfl rfl ?_
                    refine nv_ald (f := va_up (va_up (va_up sv 6 (sv 6 ||| 2 ^ k)) 5 ((cmS sv k v).2.1)) 4 ((cmS sv k v).1)) (k := 5) hx hb hX hP 1 rfl (by omega) (by decide) dX8_cuts_164 ?_
                    refine ti (y := (nI ((cmS sv k v).2.1))) rfl ?_
                    refine lv_iload hx hb dX8_cuts_165 (lv_at hl 0 rfl) ?_
                    refine nv_zeq (x := 1) (tgt := 178) hx hb dX8_cuts_167 (by decide) (by decide) (fun h9 => absurd h9 (by decide)) (fun _ => ?_)
                    refine lv_aload_n hx hb dX8_cuts_170 rfl (lv_at hl 2 rfl) ?_
                    refine lv_iload_n hx hb dX8_cuts_171 rfl (lv_at hl 5 rfl) ?_
                    refine ca_Vi (ci := 7) (q := (RX8, TX8, 17)) (rest := [.int (nI ((cmS sv k v).2.1)), .int (nI 5), .ref (ad 1)]) (wr := ([] : va_W)) F hX (mX8_wayOf l G ad (va_up z 4 (ntU (z 4) + 1)) fo (va_up (va_up (va_up sv 6 (sv 6 ||| 2 ^ k)) 5 ((cmS sv k v).2.1)) 4 ((cmS sv k v).1)) d (ntP pa sv (z 4)) ke ik fa te (mesN (sf sv) (sg sv) (sc sv) (sv 6 ||| 2 ^ k) (sv 1) (sv 0) (clo (sf sv) (sg sv) (cmS sv k v).2.1 (sv 1) (sv 2)) y) v (((hB.u6 hdn).u5 hcm.2.1).u4 hcm.1) hym (by show v < sv 0; omega) (by rw [hag v (by omega)]; exact c148) (by simp only [sf_u (show 4 < 16 by decide), sg_u (show 4 < 28 by decide), sc_u (show 4 < 40 by decide), sf_u (show 5 < 16 by decide), sg_u (show 5 < 28 by decide), sc_u (show 5 < 40 by decide), sf_u (show 6 < 16 by decide), sg_u (show 6 < 28 by decide), sc_u (show 6 < 40 by decide)]; exact WOK_ag hE hag (hWA _))) (cA_V hts kw_810 kw_8 kw_807 kw_809 kp_32 hdX8_wayOf ⟨Nat.le_of_ble_eq_true rfl, Nat.le_of_ble_eq_true rfl⟩) rfl rfl rfl hl.1 rfl (Nat.le_of_ble_eq_true rfl) dX8_cuts_172 ⟨Nat.le_of_ble_eq_true rfl, Nat.le_of_ble_eq_true rfl⟩ hP hD hS hA (pm_nil _) (fun r172 u172 H locs hp172 hP hD hS => ?_)
                    have hP : va_P G.1 vwCl (mow G ad (va_up z 4 (ntU (z 4) + 1)) fo (va_up (va_up (va_up sv 6 (sv 6 ||| 2 ^ k)) 5 ((cmS sv k v).2.1)) 4 ((cmS sv k v).1)) d (ntP pa sv (z 4)) ke ik fa te (mesN (sf sv) (sg sv) (sc sv) (sv 6 ||| 2 ^ k) (sv 1) (sv 0) (clo (sf sv) (sg sv) (cmS sv k v).2.1 (sv 1) (sv 2)) y)) H := wp_pm (pm_nil _).symm hP
                    have hD : va_D A (mow G ad (va_up z 4 (ntU (z 4) + 1)) fo (va_up (va_up (va_up sv 6 (sv 6 ||| 2 ^ k)) 5 ((cmS sv k v).2.1)) 4 ((cmS sv k v).1)) d (ntP pa sv (z 4)) ke ik fa te (mesN (sf sv) (sg sv) (sc sv) (sv 6 ||| 2 ^ k) (sv 1) (sv 0) (clo (sf sv) (sg sv) (cmS sv k v).2.1 (sv 1) (sv 2)) y)) := wd_pm (pm_nil _).symm hD
                    subst hp172
                    refine lv_goto (tgt := 179) hx hb dX8_cuts_175 (by decide) ?_
                    refine ti (y := (nI (wyM (sf sv) (sg sv) (sc sv) (sv 6 ||| 2 ^ k) (sv 1) (sv 0) (sv 2) (cmS sv k v).2.1 v))) (by simp only [sf_u (show 4 < 16 by decide), sg_u (show 4 < 28 by decide), sc_u (show 4 < 40 by decide), sf_u (show 5 < 16 by decide), sg_u (show 5 < 28 by decide), sc_u (show 5 < 40 by decide), sf_u (show 6 < 16 by decide), sg_u (show 6 < 28 by decide), sc_u (show 6 < 40 by decide)]; exact congrArg nI (wfM_ag hE hag _ _ _ (by omega))) ?_
                    refine lv_ior hx hb dX8_cuts_179 (ti (y := (nI (((cmS sv k v).2.1) ||| (wyM (sf sv) (sg sv) (sc sv) (sv 6 ||| 2 ^ k) (sv 1) (sv 0) (sv 2) (cmS sv k v).2.1 v)))) (qn_or _ _) ?_)
                    refine nv_ast (f := va_up (va_up (va_up sv 6 (sv 6 ||| 2 ^ k)) 5 ((cmS sv k v).2.1)) 4 ((cmS sv k v).1)) (k := 5) (v := ((cmS sv k v).2.1) ||| (wyM (sf sv) (sg sv) (sc sv) (sv 6 ||| 2 ^ k) (sv 1) (sv 0) (sv 2) (cmS sv k v).2.1 v)) hx hb hX hP hD hS 1 rfl (by omega) (by decide) dX8_cuts_180 (fun H locs hP hD hS => ?_)
                    have hP : va_P G.1 vwCl (mow G ad (va_up z 4 (ntU (z 4) + 1)) fo (va_up (va_up (va_up (va_up sv 6 (sv 6 ||| 2 ^ k)) 5 ((cmS sv k v).2.1)) 4 ((cmS sv k v).1)) 5 (((cmS sv k v).2.1) ||| (wyM (sf sv) (sg sv) (sc sv) (sv 6 ||| 2 ^ k) (sv 1) (sv 0) (sv 2) (cmS sv k v).2.1 v))) d (ntP pa sv (z 4)) ke ik fa te (mesN (sf sv) (sg sv) (sc sv) (sv 6 ||| 2 ^ k) (sv 1) (sv 0) (clo (sf sv) (sg sv) (cmS sv k v).2.1 (sv 1) (sv 2)) y)) H := hP
                    have hD : va_D A (mow G ad (va_up z 4 (ntU (z 4) + 1)) fo (va_up (va_up (va_up (va_up sv 6 (sv 6 ||| 2 ^ k)) 5 ((cmS sv k v).2.1)) 4 ((cmS sv k v).1)) 5 (((cmS sv k v).2.1) ||| (wyM (sf sv) (sg sv) (sc sv) (sv 6 ||| 2 ^ k) (sv 1) (sv 0) (sv 2) (cmS sv k v).2.1 v))) d (ntP pa sv (z 4)) ke ik fa te (mesN (sf sv) (sg sv) (sc sv) (sv 6 ||| 2 ^ k) (sv 1) (sv 0) (clo (sf sv) (sg sv) (cmS sv k v).2.1 (sv 1) (sv 2)) y)) := hD
                    refine lv_aload_n hx hb dX8_cuts_181 rfl (lv_at hl 2 rfl) ?_
                    refine va_get (D := G.1) (ci := 7) (v := .ref (ad 1)) (C := RX8) (T := TX8) (N := 17) hx hb hts inA8 hown hX.1 hP 0 rfl rfl 1 (by decide) (hts _ kw_681) (fun _ h9 => h9) rfl dX8_cuts_182 ?_
                    refine lv_iconst (v := (nI 4)) hx hb dX8_cuts_185 (by decide) ?_
                    refine lv_dup2_11 hx hb dX8_cuts_186 rfl rfl ?_
                    refine nv_ald (f := va_up (va_up (va_up (va_up sv 6 (sv 6 ||| 2 ^ k)) 5 ((cmS sv k v).2.1)) 4 ((cmS sv k v).1)) 5 (((cmS sv k v).2.1) ||| (wyM (sf sv) (sg sv) (sc sv) (sv 6 ||| 2 ^ k) (sv 1) (sv 0) (sv 2) (cmS sv k v).2.1 v))) (k := 4) hx hb hX hP 1 rfl (by omega) (by decide) dX8_cuts_187 ?_
                    refine ti (y := (nI ((cmS sv k v).1))) rfl ?_
                    refine lv_iload hx hb dX8_cuts_188 (lv_at hl 0 rfl) ?_
                    refine nv_zeq (x := 1) (tgt := 197) hx hb dX8_cuts_190 (by decide) (by decide) (fun h9 => absurd h9 (by decide)) (fun _ => ?_)
                    refine lv_iconst (v := (-1)) hx hb dX8_cuts_193 (by decide) ?_
                    refine lv_goto (tgt := 202) hx hb dX8_cuts_194 (by decide) ?_
                    refine lv_iand hx hb dX8_cuts_202 (ti (y := (nI ((cmS sv k v).1))) qn_andm1 ?_)
                    refine nv_ast (f := va_up (va_up (va_up (va_up sv 6 (sv 6 ||| 2 ^ k)) 5 ((cmS sv k v).2.1)) 4 ((cmS sv k v).1)) 5 (((cmS sv k v).2.1) ||| (wyM (sf sv) (sg sv) (sc sv) (sv 6 ||| 2 ^ k) (sv 1) (sv 0) (sv 2) (cmS sv k v).2.1 v))) (k := 4) (v := (cmS sv k v).1) hx hb hX hP hD hS 1 rfl (by omega) (by decide) dX8_cuts_203 (fun H locs hP hD hS => ?_)
                    have hP : va_P G.1 vwCl (mow G ad (va_up z 4 (ntU (z 4) + 1)) fo (va_up (va_up (va_up (va_up (va_up sv 6 (sv 6 ||| 2 ^ k)) 5 ((cmS sv k v).2.1)) 4 ((cmS sv k v).1)) 5 (((cmS sv k v).2.1) ||| (wyM (sf sv) (sg sv) (sc sv) (sv 6 ||| 2 ^ k) (sv 1) (sv 0) (sv 2) (cmS sv k v).2.1 v))) 4 ((cmS sv k v).1)) d (ntP pa sv (z 4)) ke ik fa te (mesN (sf sv) (sg sv) (sc sv) (sv 6 ||| 2 ^ k) (sv 1) (sv 0) (clo (sf sv) (sg sv) (cmS sv k v).2.1 (sv 1) (sv 2)) y)) H := hP
                    have hD : va_D A (mow G ad (va_up z 4 (ntU (z 4) + 1)) fo (va_up (va_up (va_up (va_up (va_up sv 6 (sv 6 ||| 2 ^ k)) 5 ((cmS sv k v).2.1)) 4 ((cmS sv k v).1)) 5 (((cmS sv k v).2.1) ||| (wyM (sf sv) (sg sv) (sc sv) (sv 6 ||| 2 ^ k) (sv 1) (sv 0) (sv 2) (cmS sv k v).2.1 v))) 4 ((cmS sv k v).1)) d (ntP pa sv (z 4)) ke ik fa te (mesN (sf sv) (sg sv) (sc sv) (sv 6 ||| 2 ^ k) (sv 1) (sv 0) (clo (sf sv) (sg sv) (cmS sv k v).2.1 (sv 1) (sv 2)) y)) := hD
                    refine lv_iload_n hx hb dX8_cuts_204 rfl (lv_at hl 4 rfl) ?_
                    refine lv_iload hx hb dX8_cuts_205 (lv_at hl 0 rfl) ?_
                    refine nv_zeq (x := 1) (tgt := 214) hx hb dX8_cuts_207 (by decide) (by decide) (fun h9 => absurd h9 (by decide)) (fun _ => ?_)
                    refine lv_iconst (v := (nI 0)) hx hb dX8_cuts_210 (by decide) ?_
                    refine lv_goto (tgt := 215) hx hb dX8_cuts_211 (by decide) ?_
                    refine lv_iadd hx hb dX8_cuts_215 (ti (y := (nI (((cmS sv k v).2.2) + 0))) (nI_add _ _) ?_)
                    refine lv_istore_n (lv' := [(2, .int (nI (((cmS sv k v).2.2) + 0))), (5, .int (nI 1)), (4, .int (nI (clo (sf sv) (sg sv) (cmS sv k v).2.1 (sv 1) (sv 2)))), (0, .ref (ad 0)), (1, .int (nI k)), (3, .int (nI v))]) hx hb dX8_cuts_216 rfl hl (by decide) rfl (fun ls hl => ?_)
                    have e8 : va_up (va_up (va_up sv 6 (sv 6 ||| 2 ^ k)) 5 ((cmS sv k v).2.1 ||| wyM (sf sv) (sg sv) (sc sv) (sv 6 ||| 2 ^ k) (sv 1) (sv 0) (sv 2) (cmS sv k v).2.1 v)) 4 ((cmS sv k v).1) = va_up (va_up (va_up (va_up (va_up sv 6 (sv 6 ||| 2 ^ k)) 5 ((cmS sv k v).2.1)) 4 ((cmS sv k v).1)) 5 (((cmS sv k v).2.1) ||| (wyM (sf sv) (sg sv) (sc sv) (sv 6 ||| 2 ^ k) (sv 1) (sv 0) (sv 2) (cmS sv k v).2.1 v))) 4 ((cmS sv k v).1) := (up45 _ _ _ _ _).symm
                    have hP : va_P G.1 vwCl (mow G ad (va_up z 4 (ntU (z 4) + 1)) fo (va_up (va_up (va_up sv 6 (sv 6 ||| 2 ^ k)) 5 ((cmS sv k v).2.1 ||| wyM (sf sv) (sg sv) (sc sv) (sv 6 ||| 2 ^ k) (sv 1) (sv 0) (sv 2) (cmS sv k v).2.1 v)) 4 ((cmS sv k v).1)) d (ntP pa sv (z 4)) ke ik fa te (mesN (sf sv) (sg sv) (sc sv) (sv 6 ||| 2 ^ k) (sv 1) (sv 0) (clo (sf sv) (sg sv) (cmS sv k v).2.1 (sv 1) (sv 2)) y)) H := by rw [e8]; exact hP
                    have hD : va_D A (mow G ad (va_up z 4 (ntU (z 4) + 1)) fo (va_up (va_up (va_up sv 6 (sv 6 ||| 2 ^ k)) 5 ((cmS sv k v).2.1 ||| wyM (sf sv) (sg sv) (sc sv) (sv 6 ||| 2 ^ k) (sv 1) (sv 0) (sv 2) (cmS sv k v).2.1 v)) 4 ((cmS sv k v).1)) d (ntP pa sv (z 4)) ke ik fa te (mesN (sf sv) (sg sv) (sc sv) (sv 6 ||| 2 ^ k) (sv 1) (sv 0) (clo (sf sv) (sg sv) (cmS sv k v).2.1 (sv 1) (sv 2)) y)) := by rw [e8]; exact hD
                    refine lv_iinc (v := (nI (v + 1))) (lv' := [(3, .int (nI (v + 1))), (2, .int (nI (((cmS sv k v).2.2) + 0))), (5, .int (nI 1)), (4, .int (nI (clo (sf sv) (sg sv) (cmS sv k v).2.1 (sv 1) (sv 2)))), (0, .ref (ad 0)), (1, .int (nI k))]) hx hb dX8_cuts_217 hl (k := 5) rfl (qn_inc _) (by decide) rfl (fun ls hl => ?_)
                    refine lv_goto (tgt := 90) hx hb dX8_cuts_220 (by decide) ?_
                    exact ih90 (v + 1) ((cmS sv k v).2.1 ||| wyM (sf sv) (sg sv) (sc sv) (sv 6 ||| 2 ^ k) (sv 1) (sv 0) (sv 2) (cmS sv k v).2.1 v) ((cmS sv k v).1) (((cmS sv k v).2.2) + 0) (mesN (sf sv) (sg sv) (sc sv) (sv 6 ||| 2 ^ k) (sv 1) (sv 0) (clo (sf sv) (sg sv) (cmS sv k v).2.1 (sv 1) (sv 2)) y) (by omega) (by rw [cmS_way c122 c131 c148]) (by rw [cmS_way c122 c131 c148]) (by rw [cmS_way c122 c131 c148]) (by omega) hym _ _ hP hD hS ls (lv_sub hl [4, 5, 1, 0] rfl)
        exact lp90 _ 0 ((cmS sv k 0).2.1) ((cmS sv k 0).1) 0 aw (Nat.lt_succ_self _) rfl rfl rfl (Nat.zero_le _) ha _ _ hP hD hS ls (lv_sub hl [2, 3, 1, 0] rfl)
      · exact absurd (ht.symm.trans c59) (by decide)
    · exact absurd (hst.symm.trans c26) (by decide)
  · exact absurd c10 (by decide)

set_option maxHeartbeats 4000000 in
set_option maxRecDepth 100000 in
theorem mX8_mends_state (l : Launch) (G : GG) (ad : Nat → Nat) (z : Nat → Nat) (fo : Option Nat) (sv : Nat → Nat) (d : Nat → Int32) (pa ke : Nat → Nat) (ik fa : Nat → Int32) (te aw : Nat → Nat) (k : Nat) (hB : SB sv) (hk : k < sv 1) (hst : (sv 6).testBit k = false) : Mi l yX8_mends cX8_mends 2 (some .int) (rmN 2 43) G [.ref (ad 0), .int (nI k)] (mow G ad z fo sv d pa ke ik fa te aw) (fun (r9 : Int32) (_ : Unit) => r9 = (-2)) (fun (_ : Unit) => mow G ad z fo sv d pa ke ik fa te aw) := by
  refine Mi.of (cc := cX8_mends) (nL := 2) (by decide) (Nat.le_of_ble_eq_true rfl) ?_
  intro p e s m below meth c A ls F hr hlocks hnm hX hA hD hP hS hl
  have F : CallFix p m c cX8_mends 2 s [.ref (ad 0), .int (nI k)].toArray wA RX8 := F
  obtain ⟨hx, hb, hml, hown, hts⟩ := id F
  have hl : lv_has ls 2 [(0, .ref (ad 0)), (1, .int (nI k))] := hl
  obtain ⟨⟨b0, b1, b2, b3, b4, b5, b6, b7, b8⟩, g1, g2, g3, g4⟩ := id hB
  have gf : ∀ j, sf sv j < 10 := fun j => g1 (16 + j) (by omega)
  have gg : ∀ j, sg sv j < 10 := fun j => g1 (28 + j) (by omega)
  have gc : ∀ j, sc sv j ≤ 9 := fun j => by have := g1 (40 + j) (by omega); unfold sc; omega
  have gf7 : ∀ j, j < 12 → sf sv j < 7 := g2
  have gg7 : ∀ j, j < 12 → sg sv j < 7 := g3
  refine lv_aload_n hx hb dX8_mends_0 rfl (lv_at hl 0 rfl) ?_
  refine lv_iconst (v := (nI 0)) hx hb dX8_mends_1 (by decide) ?_
  refine va_put (D := G.1) (ci := 7) (v := .int (nI 0)) (ty := .int) (C := RX8) (T := TX8) (N := 17) hx hb hts inA8 tyX8 tyX8_ok nmX8 hown hX.1 hP hD hS 0 rfl rfl 0 (by decide) (hts _ kw_680) (fun _ h9 => h9) rfl (by decide +kernel) rfl rfl (Nat.le_of_ble_eq_true rfl) dX8_mends_2 (fun H locs hP hD hS => ?_)
  have hP : va_P G.1 vwCl (mow G ad z fo sv d pa ke ik fa te aw) H := hP
  have hD : va_D A (mow G ad z fo sv d pa ke ik fa te aw) := hD
  refine lv_aload_n hx hb dX8_mends_5 rfl (lv_at hl 0 rfl) ?_
  refine lv_iload_n hx hb dX8_mends_6 rfl (lv_at hl 1 rfl) ?_
  refine ca_Vi (ci := 7) (q := (RX8, TX8, 17)) (rest := []) (wr := ([] : va_W)) F hX (mX8_isLink l G ad z fo sv d pa ke ik fa te aw (nI k) hB) (cA_V hts kw_858 kw_8 kw_855 kw_857 kp_41 hdX8_isLink ⟨Nat.le_of_ble_eq_true rfl, Nat.le_of_ble_eq_true rfl⟩) rfl rfl rfl hl.1 rfl (Nat.le_of_ble_eq_true rfl) dX8_mends_7 ⟨Nat.le_of_ble_eq_true rfl, Nat.le_of_ble_eq_true rfl⟩ hP hD hS hA (pm_nil _) (fun r7 u7 H locs hp7 hP hD hS => ?_)
  have hP : va_P G.1 vwCl (mow G ad z fo sv d pa ke ik fa te aw) H := wp_pm (pm_nil _).symm hP
  have hD : va_D A (mow G ad z fo sv d pa ke ik fa te aw) := wd_pm (pm_nil _).symm hD
  subst hp7
  refine ti (y := (bI true)) (by rw [nd_in (v := k) (n := sv 1) (by omega) (by omega)]) ?_
  refine bv_ne (b := true) (tgt := 15) hx hb dX8_mends_10 (by decide) (fun c10 => ?_) (fun c10 => ?_)
  · refine lv_aload_n hx hb dX8_mends_15 rfl (lv_at hl 0 rfl) ?_
    refine va_get (D := G.1) (ci := 7) (v := .ref (ad 1)) (C := RX8) (T := TX8) (N := 17) hx hb hts inA8 hown hX.1 hP 0 rfl rfl 1 (by decide) (hts _ kw_681) (fun _ h9 => h9) rfl dX8_mends_16 ?_
    refine lv_bipush (v := (nI 6)) hx hb dX8_mends_19 (by decide) ?_
    refine nv_ald (f := sv) (k := 6) hx hb hX hP 1 rfl (by omega) (by decide) dX8_mends_21 ?_
    refine lv_iload_n hx hb dX8_mends_22 rfl (lv_at hl 1 rfl) ?_
    refine ca_Si (rest := []) (wr := mow G ad z fo sv d pa ke ik fa te aw) F hX (mX8_has l G (sv 6) k (by omega) (by omega)) (cA_S hts kw_801 kw_8 kw_799 kw_800 hdX8_has ⟨Nat.le_of_ble_eq_true rfl, Nat.le_of_ble_eq_true rfl⟩) rfl hl.1 rfl (Nat.le_of_ble_eq_true rfl) dX8_mends_23 ⟨Nat.le_of_ble_eq_true rfl, Nat.le_of_ble_eq_true rfl⟩ hP hD hS hA (List.Perm.refl _) (fun r23 u23 H locs hp23 hP hD hS => ?_)
    have hP : va_P G.1 vwCl (mow G ad z fo sv d pa ke ik fa te aw) H := hP
    have hD : va_D A (mow G ad z fo sv d pa ke ik fa te aw) := hD
    subst hp23
    refine bv_ne (b := (sv 6).testBit k) (tgt := 32) hx hb dX8_mends_26 (by decide) (fun c26 => ?_) (fun c26 => ?_)
    · exact absurd (hst.symm.trans c26) (by decide)
    · refine lv_bipush (v := (-2)) hx hb dX8_mends_29 (by decide) ?_
      exact re_i (v := (-2)) hx hb hr hlocks hS () hP hD rfl dX8_mends_31
  · exact absurd c10 (by decide)

set_option maxHeartbeats 4000000 in
set_option maxRecDepth 100000 in
theorem mX8_mends_ok (l : Launch) (G : GG) (ad : Nat → Nat) (z : Nat → Nat) (fo : Option Nat) (sv : Nat → Nat) (d : Nat → Int32) (pa ke : Nat → Nat) (ik fa : Nat → Int32) (te aw : Nat → Nat) (k : Nat) (hB : SB sv) (hu4 : z 4 ≤ 6) (hk : k < sv 1) (hst : (sv 6).testBit k = true) : Mi l yX8_mends cX8_mends 2 (some .int) (rmN 2 43) G [.ref (ad 0), .int (nI k)] (mow G ad z fo sv d pa ke ik fa te aw) (fun (r9 : Int32) (_ : Unit) => r9 = (nI (bts (nd (sv 6) (2 ^ k)) 12))) (fun (_ : Unit) => mow G ad (va_up z 4 (ntU (z 4) + 1)) fo (va_up sv 6 (nd (sv 6) (2 ^ k))) d (ntP pa sv (z 4)) ke ik fa te aw) := by
  refine Mi.of (cc := cX8_mends) (nL := 2) (by decide) (Nat.le_of_ble_eq_true rfl) ?_
  intro p e s m below meth c A ls F hr hlocks hnm hX hA hD hP hS hl
  have F : CallFix p m c cX8_mends 2 s [.ref (ad 0), .int (nI k)].toArray wA RX8 := F
  obtain ⟨hx, hb, hml, hown, hts⟩ := id F
  have hl : lv_has ls 2 [(0, .ref (ad 0)), (1, .int (nI k))] := hl
  obtain ⟨⟨b0, b1, b2, b3, b4, b5, b6, b7, b8⟩, g1, g2, g3, g4⟩ := id hB
  have gf : ∀ j, sf sv j < 10 := fun j => g1 (16 + j) (by omega)
  have gg : ∀ j, sg sv j < 10 := fun j => g1 (28 + j) (by omega)
  have gc : ∀ j, sc sv j ≤ 9 := fun j => by have := g1 (40 + j) (by omega); unfold sc; omega
  have gf7 : ∀ j, j < 12 → sf sv j < 7 := g2
  have gg7 : ∀ j, j < 12 → sg sv j < 7 := g3
  have hn9 := nd_le (sv 6) (2 ^ k)
  refine lv_aload_n hx hb dX8_mends_0 rfl (lv_at hl 0 rfl) ?_
  refine lv_iconst (v := (nI 0)) hx hb dX8_mends_1 (by decide) ?_
  refine va_put (D := G.1) (ci := 7) (v := .int (nI 0)) (ty := .int) (C := RX8) (T := TX8) (N := 17) hx hb hts inA8 tyX8 tyX8_ok nmX8 hown hX.1 hP hD hS 0 rfl rfl 0 (by decide) (hts _ kw_680) (fun _ h9 => h9) rfl (by decide +kernel) rfl rfl (Nat.le_of_ble_eq_true rfl) dX8_mends_2 (fun H locs hP hD hS => ?_)
  have hP : va_P G.1 vwCl (mow G ad z fo sv d pa ke ik fa te aw) H := hP
  have hD : va_D A (mow G ad z fo sv d pa ke ik fa te aw) := hD
  refine lv_aload_n hx hb dX8_mends_5 rfl (lv_at hl 0 rfl) ?_
  refine lv_iload_n hx hb dX8_mends_6 rfl (lv_at hl 1 rfl) ?_
  refine ca_Vi (ci := 7) (q := (RX8, TX8, 17)) (rest := []) (wr := ([] : va_W)) F hX (mX8_isLink l G ad z fo sv d pa ke ik fa te aw (nI k) hB) (cA_V hts kw_858 kw_8 kw_855 kw_857 kp_41 hdX8_isLink ⟨Nat.le_of_ble_eq_true rfl, Nat.le_of_ble_eq_true rfl⟩) rfl rfl rfl hl.1 rfl (Nat.le_of_ble_eq_true rfl) dX8_mends_7 ⟨Nat.le_of_ble_eq_true rfl, Nat.le_of_ble_eq_true rfl⟩ hP hD hS hA (pm_nil _) (fun r7 u7 H locs hp7 hP hD hS => ?_)
  have hP : va_P G.1 vwCl (mow G ad z fo sv d pa ke ik fa te aw) H := wp_pm (pm_nil _).symm hP
  have hD : va_D A (mow G ad z fo sv d pa ke ik fa te aw) := wd_pm (pm_nil _).symm hD
  subst hp7
  refine ti (y := (bI true)) (by rw [nd_in (v := k) (n := sv 1) (by omega) (by omega)]) ?_
  refine bv_ne (b := true) (tgt := 15) hx hb dX8_mends_10 (by decide) (fun c10 => ?_) (fun c10 => ?_)
  · refine lv_aload_n hx hb dX8_mends_15 rfl (lv_at hl 0 rfl) ?_
    refine va_get (D := G.1) (ci := 7) (v := .ref (ad 1)) (C := RX8) (T := TX8) (N := 17) hx hb hts inA8 hown hX.1 hP 0 rfl rfl 1 (by decide) (hts _ kw_681) (fun _ h9 => h9) rfl dX8_mends_16 ?_
    refine lv_bipush (v := (nI 6)) hx hb dX8_mends_19 (by decide) ?_
    refine nv_ald (f := sv) (k := 6) hx hb hX hP 1 rfl (by omega) (by decide) dX8_mends_21 ?_
    refine lv_iload_n hx hb dX8_mends_22 rfl (lv_at hl 1 rfl) ?_
    refine ca_Si (rest := []) (wr := mow G ad z fo sv d pa ke ik fa te aw) F hX (mX8_has l G (sv 6) k (by omega) (by omega)) (cA_S hts kw_801 kw_8 kw_799 kw_800 hdX8_has ⟨Nat.le_of_ble_eq_true rfl, Nat.le_of_ble_eq_true rfl⟩) rfl hl.1 rfl (Nat.le_of_ble_eq_true rfl) dX8_mends_23 ⟨Nat.le_of_ble_eq_true rfl, Nat.le_of_ble_eq_true rfl⟩ hP hD hS hA (List.Perm.refl _) (fun r23 u23 H locs hp23 hP hD hS => ?_)
    have hP : va_P G.1 vwCl (mow G ad z fo sv d pa ke ik fa te aw) H := hP
    have hD : va_D A (mow G ad z fo sv d pa ke ik fa te aw) := hD
    subst hp23
    refine bv_ne (b := (sv 6).testBit k) (tgt := 32) hx hb dX8_mends_26 (by decide) (fun c26 => ?_) (fun c26 => ?_)
    · refine lv_aload_n hx hb dX8_mends_32 rfl (lv_at hl 0 rfl) ?_
      refine ca_Vv (ci := 7) (q := (RX8, TX8, 17)) (rest := []) (wr := ([] : va_W)) F hX (mX8_notes l G ad z fo sv d pa ke ik fa te aw  hu4) (cA_V hts kw_786 kw_8 kw_783 kw_785 kp_28 hdX8_notes ⟨Nat.le_of_ble_eq_true rfl, Nat.le_of_ble_eq_true rfl⟩) rfl rfl rfl hl.1 rfl (Nat.le_of_ble_eq_true rfl) dX8_mends_33 ⟨Nat.le_of_ble_eq_true rfl, Nat.le_of_ble_eq_true rfl⟩ hP hD hS hA (pm_nil _) (fun u33 H locs hp33 hP hD hS => ?_)
      have hP : va_P G.1 vwCl (mow G ad (va_up z 4 (ntU (z 4) + 1)) fo sv d (ntP pa sv (z 4)) ke ik fa te aw) H := wp_pm (pm_nil _).symm hP
      have hD : va_D A (mow G ad (va_up z 4 (ntU (z 4) + 1)) fo sv d (ntP pa sv (z 4)) ke ik fa te aw) := wd_pm (pm_nil _).symm hD
      refine lv_aload_n hx hb dX8_mends_36 rfl (lv_at hl 0 rfl) ?_
      refine va_get (D := G.1) (ci := 7) (v := .ref (ad 1)) (C := RX8) (T := TX8) (N := 17) hx hb hts inA8 hown hX.1 hP 0 rfl rfl 1 (by decide) (hts _ kw_681) (fun _ h9 => h9) rfl dX8_mends_37 ?_
      refine lv_bipush (v := (nI 6)) hx hb dX8_mends_40 (by decide) ?_
      refine lv_dup2_11 hx hb dX8_mends_42 rfl rfl ?_
      refine nv_ald (f := sv) (k := 6) hx hb hX hP 1 rfl (by omega) (by decide) dX8_mends_43 ?_
      refine lv_iconst (v := (nI 1)) hx hb dX8_mends_44 (by decide) ?_
      refine lv_iload_n hx hb dX8_mends_45 rfl (lv_at hl 1 rfl) ?_
      refine lv_ishl hx hb dX8_mends_46 (ti (y := (nI (2 ^ k))) (qn_sh1 (by omega)) ?_)
      refine lv_iconst (v := (-1)) hx hb dX8_mends_47 (by decide) ?_
      refine lv_ixor hx hb dX8_mends_48 ?_
      refine lv_iand hx hb dX8_mends_49 (ti (y := (nI (nd (sv 6) (2 ^ k)))) (qn_andn _ _) ?_)
      refine nv_ast (f := sv) (k := 6) (v := nd (sv 6) (2 ^ k)) hx hb hX hP hD hS 1 rfl (by omega) (by decide) dX8_mends_50 (fun H locs hP hD hS => ?_)
      have hP : va_P G.1 vwCl (mow G ad (va_up z 4 (ntU (z 4) + 1)) fo (va_up sv 6 (nd (sv 6) (2 ^ k))) d (ntP pa sv (z 4)) ke ik fa te aw) H := hP
      have hD : va_D A (mow G ad (va_up z 4 (ntU (z 4) + 1)) fo (va_up sv 6 (nd (sv 6) (2 ^ k))) d (ntP pa sv (z 4)) ke ik fa te aw) := hD
      refine lv_aload_n hx hb dX8_mends_51 rfl (lv_at hl 0 rfl) ?_
      refine va_get (D := G.1) (ci := 7) (v := .ref (ad 1)) (C := RX8) (T := TX8) (N := 17) hx hb hts inA8 hown hX.1 hP 0 rfl rfl 1 (by decide) (hts _ kw_681) (fun _ h9 => h9) rfl dX8_mends_52 ?_
      refine lv_bipush (v := (nI 6)) hx hb dX8_mends_55 (by decide) ?_
      refine nv_ald (f := va_up sv 6 (nd (sv 6) (2 ^ k))) (k := 6) hx hb hX hP 1 rfl (by omega) (by decide) dX8_mends_57 ?_
      refine ti (y := (nI (nd (sv 6) (2 ^ k)))) rfl ?_
      refine ca_Si (rest := []) (wr := mow G ad (va_up z 4 (ntU (z 4) + 1)) fo (va_up sv 6 (nd (sv 6) (2 ^ k))) d (ntP pa sv (z 4)) ke ik fa te aw) F hX (mX8_bits l G (nd (sv 6) (2 ^ k)) (by omega)) (cA_S hts kw_869 kw_8 kw_867 kw_868 hdX8_bits ⟨Nat.le_of_ble_eq_true rfl, Nat.le_of_ble_eq_true rfl⟩) rfl hl.1 rfl (Nat.le_of_ble_eq_true rfl) dX8_mends_58 ⟨Nat.le_of_ble_eq_true rfl, Nat.le_of_ble_eq_true rfl⟩ hP hD hS hA (List.Perm.refl _) (fun r58 u58 H locs hp58 hP hD hS => ?_)
      have hP : va_P G.1 vwCl (mow G ad (va_up z 4 (ntU (z 4) + 1)) fo (va_up sv 6 (nd (sv 6) (2 ^ k))) d (ntP pa sv (z 4)) ke ik fa te aw) H := hP
      have hD : va_D A (mow G ad (va_up z 4 (ntU (z 4) + 1)) fo (va_up sv 6 (nd (sv 6) (2 ^ k))) d (ntP pa sv (z 4)) ke ik fa te aw) := hD
      subst hp58
      exact re_i (v := (nI (bts (nd (sv 6) (2 ^ k)) 12))) hx hb hr hlocks hS () hP hD rfl dX8_mends_61
    · exact absurd (hst.symm.trans c26) (by decide)
  · exact absurd c10 (by decide)

theorem hdX8_limits : hdOK yX8_limits 1 := by decide +kernel
set_option maxHeartbeats 4000000 in
set_option maxRecDepth 100000 in
theorem mX8_limits_bad (l : Launch) (G : GG) (ad : Nat → Nat) (z : Nat → Nat) (fo : Option Nat) (sv : Nat → Nat) (d : Nat → Int32) (pa ke : Nat → Nat) (ik fa : Nat → Int32) (te aw : Nat → Nat) (x : Int32) (hx9 : ¬ (0 ≤ x.toInt ∧ x.toInt ≤ 9)) : Mi l yX8_limits cX8_limits 3 (some .int) (rmN 1 22) G [.ref (ad 0), .int x] (mow G ad z fo sv d pa ke ik fa te aw) (fun (r9 : Int32) (_ : Unit) => r9 = (-1)) (fun (_ : Unit) => mow G ad z fo sv d pa ke ik fa te aw) := by
  refine Mi.of (cc := cX8_limits) (nL := 3) (by decide) (Nat.le_of_ble_eq_true rfl) ?_
  intro p e s m below meth c A ls F hr hlocks hnm hX hA hD hP hS hl
  have F : CallFix p m c cX8_limits 3 s [.ref (ad 0), .int x].toArray wA RX8 := F
  obtain ⟨hx, hb, hml, hown, hts⟩ := id F
  have hl : lv_has ls 3 [(0, .ref (ad 0)), (1, .int x)] := hl
  refine lv_aload_n hx hb dX8_limits_0 rfl (lv_at hl 0 rfl) ?_
  refine lv_iconst (v := (nI 0)) hx hb dX8_limits_1 (by decide) ?_
  refine va_put (D := G.1) (ci := 7) (v := .int (nI 0)) (ty := .int) (C := RX8) (T := TX8) (N := 17) hx hb hts inA8 tyX8 tyX8_ok nmX8 hown hX.1 hP hD hS 0 rfl rfl 0 (by decide) (hts _ kw_680) (fun _ h9 => h9) rfl (by decide +kernel) rfl rfl (Nat.le_of_ble_eq_true rfl) dX8_limits_2 (fun H locs hP hD hS => ?_)
  have hP : va_P G.1 vwCl (mow G ad z fo sv d pa ke ik fa te aw) H := hP
  have hD : va_D A (mow G ad z fo sv d pa ke ik fa te aw) := hD
  refine lv_iload_n hx hb dX8_limits_5 rfl (lv_at hl 1 rfl) ?_
  refine lv_iconst (v := (nI 0)) hx hb dX8_limits_6 (by decide) ?_
  refine lv_bipush (v := (nI 9)) hx hb dX8_limits_7 (by decide) ?_
  refine ca_Si (rest := []) (wr := mow G ad z fo sv d pa ke ik fa te aw) F hX (mX8_in l G x (nI 0) (nI 9)) (cA_S hts kw_738 kw_8 kw_736 kw_737 hdX8_in ⟨Nat.le_of_ble_eq_true rfl, Nat.le_of_ble_eq_true rfl⟩) rfl hl.1 rfl (Nat.le_of_ble_eq_true rfl) dX8_limits_9 ⟨Nat.le_of_ble_eq_true rfl, Nat.le_of_ble_eq_true rfl⟩ hP hD hS hA (List.Perm.refl _) (fun r9 u9 H locs hp9 hP hD hS => ?_)
  have hP : va_P G.1 vwCl (mow G ad z fo sv d pa ke ik fa te aw) H := hP
  have hD : va_D A (mow G ad z fo sv d pa ke ik fa te aw) := hD
  subst hp9
  refine ti (y := (bI (decide (0 ≤ x.toInt ∧ x.toInt ≤ 9)))) (by rw [in_dec2 x (by decide)]; rfl) ?_
  refine bv_ne (b := decide (0 ≤ x.toInt ∧ x.toInt ≤ 9)) (tgt := 17) hx hb dX8_limits_12 (by decide) (fun c12 => ?_) (fun c12 => ?_)
  · exact absurd (of_decide_eq_true c12) hx9
  · refine lv_iconst (v := (-1)) hx hb dX8_limits_15 (by decide) ?_
    exact re_i (v := (-1)) hx hb hr hlocks hS () hP hD rfl dX8_limits_16

set_option maxHeartbeats 4000000 in
set_option maxRecDepth 100000 in
theorem mX8_limits_state (l : Launch) (G : GG) (ad : Nat → Nat) (z : Nat → Nat) (fo : Option Nat) (sv : Nat → Nat) (d : Nat → Int32) (pa ke : Nat → Nat) (ik fa : Nat → Int32) (te aw : Nat → Nat) (x : Nat) (hB : SB sv) (hx9 : x ≤ 9) (hst : sv 3 = x) : Mi l yX8_limits cX8_limits 3 (some .int) (rmN 1 22) G [.ref (ad 0), .int (nI x)] (mow G ad z fo sv d pa ke ik fa te aw) (fun (r9 : Int32) (_ : Unit) => r9 = (-2)) (fun (_ : Unit) => mow G ad z fo sv d pa ke ik fa te aw) := by
  refine Mi.of (cc := cX8_limits) (nL := 3) (by decide) (Nat.le_of_ble_eq_true rfl) ?_
  intro p e s m below meth c A ls F hr hlocks hnm hX hA hD hP hS hl
  have F : CallFix p m c cX8_limits 3 s [.ref (ad 0), .int (nI x)].toArray wA RX8 := F
  obtain ⟨hx, hb, hml, hown, hts⟩ := id F
  have hl : lv_has ls 3 [(0, .ref (ad 0)), (1, .int (nI x))] := hl
  obtain ⟨⟨b0, b1, b2, b3, b4, b5, b6, b7, b8⟩, g1, g2, g3, g4⟩ := id hB
  have gf : ∀ j, sf sv j < 10 := fun j => g1 (16 + j) (by omega)
  have gg : ∀ j, sg sv j < 10 := fun j => g1 (28 + j) (by omega)
  have gc : ∀ j, sc sv j ≤ 9 := fun j => by have := g1 (40 + j) (by omega); unfold sc; omega
  have gf7 : ∀ j, j < 12 → sf sv j < 7 := g2
  have gg7 : ∀ j, j < 12 → sg sv j < 7 := g3
  refine lv_aload_n hx hb dX8_limits_0 rfl (lv_at hl 0 rfl) ?_
  refine lv_iconst (v := (nI 0)) hx hb dX8_limits_1 (by decide) ?_
  refine va_put (D := G.1) (ci := 7) (v := .int (nI 0)) (ty := .int) (C := RX8) (T := TX8) (N := 17) hx hb hts inA8 tyX8 tyX8_ok nmX8 hown hX.1 hP hD hS 0 rfl rfl 0 (by decide) (hts _ kw_680) (fun _ h9 => h9) rfl (by decide +kernel) rfl rfl (Nat.le_of_ble_eq_true rfl) dX8_limits_2 (fun H locs hP hD hS => ?_)
  have hP : va_P G.1 vwCl (mow G ad z fo sv d pa ke ik fa te aw) H := hP
  have hD : va_D A (mow G ad z fo sv d pa ke ik fa te aw) := hD
  refine lv_iload_n hx hb dX8_limits_5 rfl (lv_at hl 1 rfl) ?_
  refine lv_iconst (v := (nI 0)) hx hb dX8_limits_6 (by decide) ?_
  refine lv_bipush (v := (nI 9)) hx hb dX8_limits_7 (by decide) ?_
  refine ca_Si (rest := []) (wr := mow G ad z fo sv d pa ke ik fa te aw) F hX (mX8_in l G (nI x) (nI 0) (nI 9)) (cA_S hts kw_738 kw_8 kw_736 kw_737 hdX8_in ⟨Nat.le_of_ble_eq_true rfl, Nat.le_of_ble_eq_true rfl⟩) rfl hl.1 rfl (Nat.le_of_ble_eq_true rfl) dX8_limits_9 ⟨Nat.le_of_ble_eq_true rfl, Nat.le_of_ble_eq_true rfl⟩ hP hD hS hA (List.Perm.refl _) (fun r9 u9 H locs hp9 hP hD hS => ?_)
  have hP : va_P G.1 vwCl (mow G ad z fo sv d pa ke ik fa te aw) H := hP
  have hD : va_D A (mow G ad z fo sv d pa ke ik fa te aw) := hD
  subst hp9
  refine ti (y := (bI true)) (by rw [in_in (v := x) (n := 9) (by omega) (by decide)]) ?_
  refine bv_ne (b := true) (tgt := 17) hx hb dX8_limits_12 (by decide) (fun c12 => ?_) (fun c12 => ?_)
  · refine lv_aload_n hx hb dX8_limits_17 rfl (lv_at hl 0 rfl) ?_
    refine va_get (D := G.1) (ci := 7) (v := .ref (ad 1)) (C := RX8) (T := TX8) (N := 17) hx hb hts inA8 hown hX.1 hP 0 rfl rfl 1 (by decide) (hts _ kw_681) (fun _ h9 => h9) rfl dX8_limits_18 ?_
    refine lv_iconst (v := (nI 3)) hx hb dX8_limits_21 (by decide) ?_
    refine nv_ald (f := sv) (k := 3) hx hb hX hP 1 rfl (by omega) (by decide) dX8_limits_22 ?_
    refine lv_istore_n (lv' := [(2, .int (nI (sv 3))), (0, .ref (ad 0)), (1, .int (nI x))]) hx hb dX8_limits_23 rfl hl (by decide) rfl (fun ls hl => ?_)
    refine lv_iload_n hx hb dX8_limits_24 rfl (lv_at hl 0 rfl) ?_
    refine lv_iload_n hx hb dX8_limits_25 rfl (lv_at hl 2 rfl) ?_
    refine nv_ne (x := sv 3) (y := x) (tgt := 32) hx hb dX8_limits_26 (by decide) (by omega) (by omega) (fun c26 => ?_) (fun c26 => ?_)
    · exact absurd hst c26
    · refine lv_bipush (v := (-2)) hx hb dX8_limits_29 (by decide) ?_
      exact re_i (v := (-2)) hx hb hr hlocks hS () hP hD rfl dX8_limits_31
  · exact absurd c12 (by decide)

set_option maxHeartbeats 4000000 in
set_option maxRecDepth 100000 in
theorem mX8_limits_ok (l : Launch) (G : GG) (ad : Nat → Nat) (z : Nat → Nat) (fo : Option Nat) (sv : Nat → Nat) (d : Nat → Int32) (pa ke : Nat → Nat) (ik fa : Nat → Int32) (te aw : Nat → Nat) (x : Nat) (hB : SB sv) (hu4 : z 4 ≤ 6) (hx9 : x ≤ 9) (hst : sv 3 ≠ x) : Mi l yX8_limits cX8_limits 3 (some .int) (rmN 1 22) G [.ref (ad 0), .int (nI x)] (mow G ad z fo sv d pa ke ik fa te aw) (fun (r9 : Int32) (_ : Unit) => r9 = (nI (sv 3))) (fun (_ : Unit) => mow G ad (va_up z 4 (ntU (z 4) + 1)) fo (va_up sv 3 x) d (ntP pa sv (z 4)) ke ik fa te aw) := by
  refine Mi.of (cc := cX8_limits) (nL := 3) (by decide) (Nat.le_of_ble_eq_true rfl) ?_
  intro p e s m below meth c A ls F hr hlocks hnm hX hA hD hP hS hl
  have F : CallFix p m c cX8_limits 3 s [.ref (ad 0), .int (nI x)].toArray wA RX8 := F
  obtain ⟨hx, hb, hml, hown, hts⟩ := id F
  have hl : lv_has ls 3 [(0, .ref (ad 0)), (1, .int (nI x))] := hl
  obtain ⟨⟨b0, b1, b2, b3, b4, b5, b6, b7, b8⟩, g1, g2, g3, g4⟩ := id hB
  have gf : ∀ j, sf sv j < 10 := fun j => g1 (16 + j) (by omega)
  have gg : ∀ j, sg sv j < 10 := fun j => g1 (28 + j) (by omega)
  have gc : ∀ j, sc sv j ≤ 9 := fun j => by have := g1 (40 + j) (by omega); unfold sc; omega
  have gf7 : ∀ j, j < 12 → sf sv j < 7 := g2
  have gg7 : ∀ j, j < 12 → sg sv j < 7 := g3
  refine lv_aload_n hx hb dX8_limits_0 rfl (lv_at hl 0 rfl) ?_
  refine lv_iconst (v := (nI 0)) hx hb dX8_limits_1 (by decide) ?_
  refine va_put (D := G.1) (ci := 7) (v := .int (nI 0)) (ty := .int) (C := RX8) (T := TX8) (N := 17) hx hb hts inA8 tyX8 tyX8_ok nmX8 hown hX.1 hP hD hS 0 rfl rfl 0 (by decide) (hts _ kw_680) (fun _ h9 => h9) rfl (by decide +kernel) rfl rfl (Nat.le_of_ble_eq_true rfl) dX8_limits_2 (fun H locs hP hD hS => ?_)
  have hP : va_P G.1 vwCl (mow G ad z fo sv d pa ke ik fa te aw) H := hP
  have hD : va_D A (mow G ad z fo sv d pa ke ik fa te aw) := hD
  refine lv_iload_n hx hb dX8_limits_5 rfl (lv_at hl 1 rfl) ?_
  refine lv_iconst (v := (nI 0)) hx hb dX8_limits_6 (by decide) ?_
  refine lv_bipush (v := (nI 9)) hx hb dX8_limits_7 (by decide) ?_
  refine ca_Si (rest := []) (wr := mow G ad z fo sv d pa ke ik fa te aw) F hX (mX8_in l G (nI x) (nI 0) (nI 9)) (cA_S hts kw_738 kw_8 kw_736 kw_737 hdX8_in ⟨Nat.le_of_ble_eq_true rfl, Nat.le_of_ble_eq_true rfl⟩) rfl hl.1 rfl (Nat.le_of_ble_eq_true rfl) dX8_limits_9 ⟨Nat.le_of_ble_eq_true rfl, Nat.le_of_ble_eq_true rfl⟩ hP hD hS hA (List.Perm.refl _) (fun r9 u9 H locs hp9 hP hD hS => ?_)
  have hP : va_P G.1 vwCl (mow G ad z fo sv d pa ke ik fa te aw) H := hP
  have hD : va_D A (mow G ad z fo sv d pa ke ik fa te aw) := hD
  subst hp9
  refine ti (y := (bI true)) (by rw [in_in (v := x) (n := 9) (by omega) (by decide)]) ?_
  refine bv_ne (b := true) (tgt := 17) hx hb dX8_limits_12 (by decide) (fun c12 => ?_) (fun c12 => ?_)
  · refine lv_aload_n hx hb dX8_limits_17 rfl (lv_at hl 0 rfl) ?_
    refine va_get (D := G.1) (ci := 7) (v := .ref (ad 1)) (C := RX8) (T := TX8) (N := 17) hx hb hts inA8 hown hX.1 hP 0 rfl rfl 1 (by decide) (hts _ kw_681) (fun _ h9 => h9) rfl dX8_limits_18 ?_
    refine lv_iconst (v := (nI 3)) hx hb dX8_limits_21 (by decide) ?_
    refine nv_ald (f := sv) (k := 3) hx hb hX hP 1 rfl (by omega) (by decide) dX8_limits_22 ?_
    refine lv_istore_n (lv' := [(2, .int (nI (sv 3))), (0, .ref (ad 0)), (1, .int (nI x))]) hx hb dX8_limits_23 rfl hl (by decide) rfl (fun ls hl => ?_)
    refine lv_iload_n hx hb dX8_limits_24 rfl (lv_at hl 0 rfl) ?_
    refine lv_iload_n hx hb dX8_limits_25 rfl (lv_at hl 2 rfl) ?_
    refine nv_ne (x := sv 3) (y := x) (tgt := 32) hx hb dX8_limits_26 (by decide) (by omega) (by omega) (fun c26 => ?_) (fun c26 => ?_)
    · refine lv_aload_n hx hb dX8_limits_32 rfl (lv_at hl 1 rfl) ?_
      refine ca_Vv (ci := 7) (q := (RX8, TX8, 17)) (rest := []) (wr := ([] : va_W)) F hX (mX8_notes l G ad z fo sv d pa ke ik fa te aw  hu4) (cA_V hts kw_786 kw_8 kw_783 kw_785 kp_28 hdX8_notes ⟨Nat.le_of_ble_eq_true rfl, Nat.le_of_ble_eq_true rfl⟩) rfl rfl rfl hl.1 rfl (Nat.le_of_ble_eq_true rfl) dX8_limits_33 ⟨Nat.le_of_ble_eq_true rfl, Nat.le_of_ble_eq_true rfl⟩ hP hD hS hA (pm_nil _) (fun u33 H locs hp33 hP hD hS => ?_)
      have hP : va_P G.1 vwCl (mow G ad (va_up z 4 (ntU (z 4) + 1)) fo sv d (ntP pa sv (z 4)) ke ik fa te aw) H := wp_pm (pm_nil _).symm hP
      have hD : va_D A (mow G ad (va_up z 4 (ntU (z 4) + 1)) fo sv d (ntP pa sv (z 4)) ke ik fa te aw) := wd_pm (pm_nil _).symm hD
      refine lv_aload_n hx hb dX8_limits_36 rfl (lv_at hl 1 rfl) ?_
      refine va_get (D := G.1) (ci := 7) (v := .ref (ad 1)) (C := RX8) (T := TX8) (N := 17) hx hb hts inA8 hown hX.1 hP 0 rfl rfl 1 (by decide) (hts _ kw_681) (fun _ h9 => h9) rfl dX8_limits_37 ?_
      refine lv_iconst (v := (nI 3)) hx hb dX8_limits_40 (by decide) ?_
      refine lv_iload_n hx hb dX8_limits_41 rfl (lv_at hl 2 rfl) ?_
      refine nv_ast (f := sv) (k := 3) (v := x) hx hb hX hP hD hS 1 rfl (by omega) (by decide) dX8_limits_42 (fun H locs hP hD hS => ?_)
      have hP : va_P G.1 vwCl (mow G ad (va_up z 4 (ntU (z 4) + 1)) fo (va_up sv 3 x) d (ntP pa sv (z 4)) ke ik fa te aw) H := hP
      have hD : va_D A (mow G ad (va_up z 4 (ntU (z 4) + 1)) fo (va_up sv 3 x) d (ntP pa sv (z 4)) ke ik fa te aw) := hD
      refine lv_iload_n hx hb dX8_limits_43 rfl (lv_at hl 0 rfl) ?_
      exact re_i (v := (nI (sv 3))) hx hb hr hlocks hS () hP hD rfl dX8_limits_44
    · exact absurd c26 hst
  · exact absurd c12 (by decide)

theorem hdX8_undo : hdOK yX8_undo 0 := by decide +kernel
set_option maxHeartbeats 4000000 in
set_option maxRecDepth 100000 in
theorem mX8_undo_state (l : Launch) (G : GG) (ad : Nat → Nat) (z : Nat → Nat) (fo : Option Nat) (sv : Nat → Nat) (d : Nat → Int32) (pa ke : Nat → Nat) (ik fa : Nat → Int32) (te aw : Nat → Nat)  (hz : z 4 = 0) : Mi l yX8_undo cX8_undo 2 (some .int) (rmN 0 0) G [.ref (ad 0)] (mow G ad z fo sv d pa ke ik fa te aw) (fun (r9 : Int32) (_ : Unit) => r9 = (-2)) (fun (_ : Unit) => mow G ad z fo sv d pa ke ik fa te aw) := by
  refine Mi.of (cc := cX8_undo) (nL := 2) (by decide) (Nat.le_of_ble_eq_true rfl) ?_
  intro p e s m below meth c A ls F hr hlocks hnm hX hA hD hP hS hl
  have F : CallFix p m c cX8_undo 2 s [.ref (ad 0)].toArray wA RX8 := F
  obtain ⟨hx, hb, hml, hown, hts⟩ := id F
  have hl : lv_has ls 2 [(0, .ref (ad 0))] := hl
  refine lv_aload_n hx hb dX8_undo_0 rfl (lv_at hl 0 rfl) ?_
  refine lv_iconst (v := (nI 0)) hx hb dX8_undo_1 (by decide) ?_
  refine va_put (D := G.1) (ci := 7) (v := .int (nI 0)) (ty := .int) (C := RX8) (T := TX8) (N := 17) hx hb hts inA8 tyX8 tyX8_ok nmX8 hown hX.1 hP hD hS 0 rfl rfl 0 (by decide) (hts _ kw_680) (fun _ h9 => h9) rfl (by decide +kernel) rfl rfl (Nat.le_of_ble_eq_true rfl) dX8_undo_2 (fun H locs hP hD hS => ?_)
  have hP : va_P G.1 vwCl (mow G ad z fo sv d pa ke ik fa te aw) H := hP
  have hD : va_D A (mow G ad z fo sv d pa ke ik fa te aw) := hD
  refine lv_aload_n hx hb dX8_undo_5 rfl (lv_at hl 0 rfl) ?_
  refine va_get (D := G.1) (ci := 7) (v := .int (nI (z 4))) (C := RX8) (T := TX8) (N := 17) hx hb hts inA8 hown hX.1 hP 0 rfl rfl 4 (by decide) (hts _ kw_684) (fun _ h9 => h9) rfl dX8_undo_6 ?_
  refine nv_zne (x := z 4) (tgt := 15) hx hb dX8_undo_9 (by decide) (by omega) (fun c9 => ?_) (fun c9 => ?_)
  · exact absurd hz c9
  · refine lv_bipush (v := (-2)) hx hb dX8_undo_12 (by decide) ?_
    exact re_i (v := (-2)) hx hb hr hlocks hS () hP hD rfl dX8_undo_14

set_option maxHeartbeats 4000000 in
set_option maxRecDepth 100000 in
theorem mX8_undo_ok (l : Launch) (G : GG) (ad : Nat → Nat) (z : Nat → Nat) (fo : Option Nat) (sv : Nat → Nat) (d : Nat → Int32) (pa ke : Nat → Nat) (ik fa : Nat → Int32) (te aw : Nat → Nat)  (hu4 : z 4 ≤ 6) (hz : 0 < z 4) : Mi l yX8_undo cX8_undo 2 (some .int) (rmN 0 0) G [.ref (ad 0)] (mow G ad z fo sv d pa ke ik fa te aw) (fun (r9 : Int32) (_ : Unit) => r9 = (nI (z 4 - 1))) (fun (_ : Unit) => mow G ad (va_up z 4 (z 4 - 1)) fo (geP sv pa (52 * (z 4 - 1)) 52) d pa ke ik fa te aw) := by
  refine Mi.of (cc := cX8_undo) (nL := 2) (by decide) (Nat.le_of_ble_eq_true rfl) ?_
  intro p e s m below meth c A ls F hr hlocks hnm hX hA hD hP hS hl
  have F : CallFix p m c cX8_undo 2 s [.ref (ad 0)].toArray wA RX8 := F
  obtain ⟨hx, hb, hml, hown, hts⟩ := id F
  have hl : lv_has ls 2 [(0, .ref (ad 0))] := hl
  refine lv_aload_n hx hb dX8_undo_0 rfl (lv_at hl 0 rfl) ?_
  refine lv_iconst (v := (nI 0)) hx hb dX8_undo_1 (by decide) ?_
  refine va_put (D := G.1) (ci := 7) (v := .int (nI 0)) (ty := .int) (C := RX8) (T := TX8) (N := 17) hx hb hts inA8 tyX8 tyX8_ok nmX8 hown hX.1 hP hD hS 0 rfl rfl 0 (by decide) (hts _ kw_680) (fun _ h9 => h9) rfl (by decide +kernel) rfl rfl (Nat.le_of_ble_eq_true rfl) dX8_undo_2 (fun H locs hP hD hS => ?_)
  have hP : va_P G.1 vwCl (mow G ad z fo sv d pa ke ik fa te aw) H := hP
  have hD : va_D A (mow G ad z fo sv d pa ke ik fa te aw) := hD
  refine lv_aload_n hx hb dX8_undo_5 rfl (lv_at hl 0 rfl) ?_
  refine va_get (D := G.1) (ci := 7) (v := .int (nI (z 4))) (C := RX8) (T := TX8) (N := 17) hx hb hts inA8 hown hX.1 hP 0 rfl rfl 4 (by decide) (hts _ kw_684) (fun _ h9 => h9) rfl dX8_undo_6 ?_
  refine nv_zne (x := z 4) (tgt := 15) hx hb dX8_undo_9 (by decide) (by omega) (fun c9 => ?_) (fun c9 => ?_)
  · refine lv_aload_n hx hb dX8_undo_15 rfl (lv_at hl 0 rfl) ?_
    refine lv_dup hx hb dX8_undo_16 rfl ?_
    refine va_get (D := G.1) (ci := 7) (v := .int (nI (z 4))) (C := RX8) (T := TX8) (N := 17) hx hb hts inA8 hown hX.1 hP 0 rfl rfl 4 (by decide) (hts _ kw_684) (fun _ h9 => h9) rfl dX8_undo_17 ?_
    refine lv_iconst (v := (nI 1)) hx hb dX8_undo_20 (by decide) ?_
    refine lv_isub hx hb dX8_undo_21 (ti (y := (nI ((z 4) - 1))) (pk_sub (by omega)) ?_)
    refine va_put (D := G.1) (ci := 7) (v := .int (nI ((z 4) - 1))) (ty := .int) (C := RX8) (T := TX8) (N := 17) hx hb hts inA8 tyX8 tyX8_ok nmX8 hown hX.1 hP hD hS 0 rfl rfl 4 (by decide) (hts _ kw_684) (fun _ h9 => h9) rfl (by decide +kernel) rfl rfl (Nat.le_of_ble_eq_true rfl) dX8_undo_22 (fun H locs hP hD hS => ?_)
    have hP : va_P G.1 vwCl (mow G ad (va_up z 4 ((z 4) - 1)) fo sv d pa ke ik fa te aw) H := hP
    have hD : va_D A (mow G ad (va_up z 4 ((z 4) - 1)) fo sv d pa ke ik fa te aw) := hD
    refine lv_iconst (v := (nI 0)) hx hb dX8_undo_25 (by decide) ?_
    refine lv_istore_n (lv' := [(1, .int (nI 0)), (0, .ref (ad 0))]) hx hb dX8_undo_26 rfl hl (by decide) rfl (fun ls hl => ?_)
    have lp27 : ∀ (n27 : Nat) (k : Nat) (y : Nat → Nat), (52 - k) < n27 → y = geP sv pa (52 * (z 4 - 1)) k → (k ≤ 52) → ∀ (H : Heap) (locs : List Loc), va_P G.1 vwCl (mow G ad (va_up z 4 (z 4 - 1)) fo y d pa ke ik fa te aw) H → va_D A (mow G ad (va_up z 4 (z 4 - 1)) fo y d pa ke ik fa te aw) → va_S A s.heap H locs → ∀ (ls : Array Slot), lv_has ls 2 [(0, .ref (ad 0)), (1, .int (nI k))] → WI p l e (rmN 0 0) s m [.ref (ad 0)] below meth c H locs G A (fun (r9 : Int32) (_ : Unit) => r9 = (nI (z 4 - 1))) (fun (_ : Unit) => mow G ad (va_up z 4 (z 4 - 1)) fo (geP sv pa (52 * (z 4 - 1)) 52) d pa ke ik fa te aw) (F0 m 27 ls []) := by
      intro n27
      induction n27 with
      | zero => intro k y h9; exact absurd h9 (Nat.not_lt_zero _)
      | succ n27 ih27 =>
        intro k y hm27 e_y hk H locs hP hD hS ls hl
        subst e_y
        refine lv_iload_n hx hb dX8_undo_27 rfl (lv_at hl 1 rfl) ?_
        refine lv_bipush (v := (nI 52)) hx hb dX8_undo_28 (by decide) ?_
        refine nv_ge (x := k) (y := 52) (tgt := 59) hx hb dX8_undo_30 (by decide) (by omega) (by decide) (fun c30 => ?_) (fun c30 => ?_)
        · refine lv_aload_n hx hb dX8_undo_59 rfl (lv_at hl 0 rfl) ?_
          refine va_get (D := G.1) (ci := 7) (v := .int (nI (z 4 - 1))) (C := RX8) (T := TX8) (N := 17) hx hb hts inA8 hown hX.1 hP 0 rfl rfl 4 (by decide) (hts _ kw_684) (fun _ h9 => h9) rfl dX8_undo_60 ?_
          have e9 : k = 52 := (by omega)
          rw [e9] at hP hD
          exact re_i (v := (nI (z 4 - 1))) hx hb hr hlocks hS () hP hD rfl dX8_undo_63
        · refine lv_aload_n hx hb dX8_undo_33 rfl (lv_at hl 0 rfl) ?_
          refine va_get (D := G.1) (ci := 7) (v := .ref (ad 1)) (C := RX8) (T := TX8) (N := 17) hx hb hts inA8 hown hX.1 hP 0 rfl rfl 1 (by decide) (hts _ kw_681) (fun _ h9 => h9) rfl dX8_undo_34 ?_
          refine lv_iload_n hx hb dX8_undo_37 rfl (lv_at hl 1 rfl) ?_
          refine lv_aload_n hx hb dX8_undo_38 rfl (lv_at hl 0 rfl) ?_
          refine va_get (D := G.1) (ci := 7) (v := .ref (ad 3)) (C := RX8) (T := TX8) (N := 17) hx hb hts inA8 hown hX.1 hP 0 rfl rfl 3 (by decide) (hts _ kw_683) (fun _ h9 => h9) rfl dX8_undo_39 ?_
          refine lv_bipush (v := (nI 52)) hx hb dX8_undo_42 (by decide) ?_
          refine lv_aload_n hx hb dX8_undo_44 rfl (lv_at hl 0 rfl) ?_
          refine va_get (D := G.1) (ci := 7) (v := .int (nI (z 4 - 1))) (C := RX8) (T := TX8) (N := 17) hx hb hts inA8 hown hX.1 hP 0 rfl rfl 4 (by decide) (hts _ kw_684) (fun _ h9 => h9) rfl dX8_undo_45 ?_
          refine lv_imul hx hb dX8_undo_48 (ti (y := (nI (52 * (z 4 - 1)))) (pk_mul _ _) ?_)
          refine lv_iload_n hx hb dX8_undo_49 rfl (lv_at hl 1 rfl) ?_
          refine lv_iadd hx hb dX8_undo_50 (ti (y := (nI ((52 * (z 4 - 1)) + k))) (nI_add _ _) ?_)
          refine nv_ald (f := pa) (k := (52 * (z 4 - 1)) + k) hx hb hX hP 3 rfl (by omega) (by decide) dX8_undo_51 ?_
          refine nv_ast (f := (geP sv pa (52 * (z 4 - 1)) k)) (k := k) (v := pa ((52 * (z 4 - 1)) + k)) hx hb hX hP hD hS 1 rfl (by omega) (by decide) dX8_undo_52 (fun H locs hP hD hS => ?_)
          have hP : va_P G.1 vwCl (mow G ad (va_up z 4 (z 4 - 1)) fo (va_up (geP sv pa (52 * (z 4 - 1)) k) k (pa ((52 * (z 4 - 1)) + k))) d pa ke ik fa te aw) H := hP
          have hD : va_D A (mow G ad (va_up z 4 (z 4 - 1)) fo (va_up (geP sv pa (52 * (z 4 - 1)) k) k (pa ((52 * (z 4 - 1)) + k))) d pa ke ik fa te aw) := hD
          refine lv_iinc (v := (nI (k + 1))) (lv' := [(1, .int (nI (k + 1))), (0, .ref (ad 0))]) hx hb dX8_undo_53 hl (k := 1) rfl (qn_inc _) (by decide) rfl (fun ls hl => ?_)
          refine lv_goto (tgt := 27) hx hb dX8_undo_56 (by decide) ?_
          exact ih27 (k + 1) (va_up (geP sv pa (52 * (z 4 - 1)) k) k (pa ((52 * (z 4 - 1)) + k))) (by omega) (geP_s _ _ _ _) (by omega) _ _ hP hD hS ls (lv_sub hl [1, 0] rfl)
    exact lp27 _ 0 sv (Nat.lt_succ_self _) (geP_0 _ _ _).symm (Nat.zero_le _) _ _ hP hD hS ls (lv_sub hl [1, 0] rfl)
  · exact absurd c9 (by omega)

