theorem tel_lt {q : Nat} (h : q < 2 ^ 30) : -10 - nI q < 0 := by
  rw [Int32.lt_iff_toInt_lt, Int32.toInt_sub, nI_toInt (by omega)]
  have h1 : (-10 : Int32).toInt = -10 := by decide
  have h2 : (0 : Int32).toInt = 0 := by decide
  rw [h1, h2, Int.bmod_eq_of_le (by omega) (by omega)]
  omega

theorem nz_le1 : ∀ n : Fin 128, nz0 (nI n.val) ≤ nI 256 := by decide +kernel
theorem nz_le2 : ∀ n : Fin 128, nz0 (nI n.val) ≤ nI 65536 := by decide +kernel
theorem nz_0 : ∀ n : Fin 128, n.val ≠ 0 → ¬ 0 < nz0 (nI n.val) → nz0 (nI n.val) &&& nI 32 = nI (lowB n.val 7) := by decide +kernel
theorem nz_tt : ∀ n : Fin 128, n.val ≠ 0 → 0 < nz0 (nI n.val) → nz0 (nI n.val) ≤ nI 16 → nz0 (nI n.val) ≤ nI 4 → nI 1 + us (nz0 (nI n.val)) (nI 1) = nI (lowB n.val 7) := by decide +kernel
theorem nz_tf : ∀ n : Fin 128, n.val ≠ 0 → 0 < nz0 (nI n.val) → nz0 (nI n.val) ≤ nI 16 → ¬ nz0 (nI n.val) ≤ nI 4 → nI 3 + us (us (nz0 (nI n.val)) (nI 2)) (nI 1) = nI (lowB n.val 7) := by decide +kernel
theorem nz_ft : ∀ n : Fin 128, n.val ≠ 0 → 0 < nz0 (nI n.val) → ¬ nz0 (nI n.val) ≤ nI 16 → us (nz0 (nI n.val)) (nI 4) ≤ nI 4 → nI 5 + us (us (nz0 (nI n.val)) (nI 4)) (nI 1) = nI (lowB n.val 7) := by decide +kernel
theorem nz_ff : ∀ n : Fin 128, n.val ≠ 0 → 0 < nz0 (nI n.val) → ¬ nz0 (nI n.val) ≤ nI 16 → ¬ us (nz0 (nI n.val)) (nI 4) ≤ nI 4 → nI 7 + us (us (us (nz0 (nI n.val)) (nI 4)) (nI 2)) (nI 1) = nI (lowB n.val 7) := by decide +kernel

theorem hdJ6_numberOfTrailingZeros_0f7a4 : hdOK yJ6_numberOfTrailingZeros_0f7a4 1 := by decide +kernel
set_option maxHeartbeats 4000000 in
set_option maxRecDepth 100000 in
theorem mJ6_numberOfTrailingZeros_0f7a4 (l : Launch) (G : GG) (n : Nat) (hn : n < 128) (hn0 : n ≠ 0) : Mi l yJ6_numberOfTrailingZeros_0f7a4 cJ6_numberOfTrailingZeros_0f7a4 2 (some .int) (rmN 0 0) G [.int (nI n)] (([] : va_W)) (fun (r9 : Int32) (_ : Unit) => r9 = (nI (lowB n 7))) (fun (_ : Unit) => ([] : va_W)) := by
  refine Mi.of (cc := cJ6_numberOfTrailingZeros_0f7a4) (nL := 2) (by decide) (Nat.le_of_ble_eq_true rfl) ?_
  intro p e s m below meth c A ls F hr hlocks hnm hX hA hD hP hS hl
  have F : CallFix p m c cJ6_numberOfTrailingZeros_0f7a4 2 s [.int (nI n)].toArray wA RJ6 := F
  obtain ⟨hx, hb, hml, hown, hts⟩ := id F
  have hl : lv_has ls 2 [(0, .int (nI n))] := hl
  refine lv_iload_n hx hb dJ6_numberOfTrailingZeros_0f7a4_0 rfl (lv_at hl 0 rfl) ?_
  refine lv_iconst (v := (-1)) hx hb dJ6_numberOfTrailingZeros_0f7a4_1 (by decide) ?_
  refine lv_ixor hx hb dJ6_numberOfTrailingZeros_0f7a4_2 ?_
  refine lv_iload_n hx hb dJ6_numberOfTrailingZeros_0f7a4_3 rfl (lv_at hl 0 rfl) ?_
  refine lv_iconst (v := (nI 1)) hx hb dJ6_numberOfTrailingZeros_0f7a4_4 (by decide) ?_
  refine lv_isub hx hb dJ6_numberOfTrailingZeros_0f7a4_5 ?_
  refine lv_iand hx hb dJ6_numberOfTrailingZeros_0f7a4_6 ?_
  refine ti (y := (nz0 (nI n))) rfl ?_
  refine lv_istore_n (lv' := [(0, .int (nz0 (nI n)))]) hx hb dJ6_numberOfTrailingZeros_0f7a4_7 rfl hl (by decide) rfl (fun ls hl => ?_)
  refine lv_iload_n hx hb dJ6_numberOfTrailingZeros_0f7a4_8 rfl (lv_at hl 0 rfl) ?_
  refine lv_if_gt (x := (nz0 (nI n))) (tgt := 17) hx hb dJ6_numberOfTrailingZeros_0f7a4_9 (by decide) (fun c9 => ?_) (fun c9 => ?_)
  · refine lv_iconst (v := (nI 1)) hx hb dJ6_numberOfTrailingZeros_0f7a4_17 (by decide) ?_
    refine lv_istore_n (lv' := [(1, .int (nI 1)), (0, .int (nz0 (nI n)))]) hx hb dJ6_numberOfTrailingZeros_0f7a4_18 rfl hl (by decide) rfl (fun ls hl => ?_)
    refine lv_iload_n hx hb dJ6_numberOfTrailingZeros_0f7a4_19 rfl (lv_at hl 1 rfl) ?_
    refine lv_ldcw (v := (nI 65536)) hx hb hown (hts _ kw_657) dJ6_numberOfTrailingZeros_0f7a4_20 ?_
    refine lv_icmp_le (x := (nz0 (nI n))) (y := (nI 65536)) (tgt := 34) hx hb dJ6_numberOfTrailingZeros_0f7a4_23 (by decide) (fun c23 => ?_) (fun c23 => ?_)
    · refine lv_iload_n hx hb dJ6_numberOfTrailingZeros_0f7a4_34 rfl (lv_at hl 1 rfl) ?_
      refine lv_sipush (v := (nI 256)) hx hb dJ6_numberOfTrailingZeros_0f7a4_35 (by decide) ?_
      refine lv_icmp_le (x := (nz0 (nI n))) (y := (nI 256)) (tgt := 49) hx hb dJ6_numberOfTrailingZeros_0f7a4_38 (by decide) (fun c38 => ?_) (fun c38 => ?_)
      · refine lv_iload_n hx hb dJ6_numberOfTrailingZeros_0f7a4_49 rfl (lv_at hl 1 rfl) ?_
        refine lv_bipush (v := (nI 16)) hx hb dJ6_numberOfTrailingZeros_0f7a4_50 (by decide) ?_
        refine lv_icmp_le (x := (nz0 (nI n))) (y := (nI 16)) (tgt := 62) hx hb dJ6_numberOfTrailingZeros_0f7a4_52 (by decide) (fun c52 => ?_) (fun c52 => ?_)
        · refine lv_iload_n hx hb dJ6_numberOfTrailingZeros_0f7a4_62 rfl (lv_at hl 1 rfl) ?_
          refine lv_iconst (v := (nI 4)) hx hb dJ6_numberOfTrailingZeros_0f7a4_63 (by decide) ?_
          refine lv_icmp_le (x := (nz0 (nI n))) (y := (nI 4)) (tgt := 74) hx hb dJ6_numberOfTrailingZeros_0f7a4_64 (by decide) (fun c64 => ?_) (fun c64 => ?_)
          · refine lv_iload_n hx hb dJ6_numberOfTrailingZeros_0f7a4_74 rfl (lv_at hl 0 rfl) ?_
            refine lv_iload_n hx hb dJ6_numberOfTrailingZeros_0f7a4_75 rfl (lv_at hl 1 rfl) ?_
            refine lv_iconst (v := (nI 1)) hx hb dJ6_numberOfTrailingZeros_0f7a4_76 (by decide) ?_
            refine lv_iushr (v := ((nz0 (nI n)).toUInt32 >>> ((nI 1).toUInt32 &&& Int32.toUInt32 31)).toInt32) hx hb dJ6_numberOfTrailingZeros_0f7a4_77 rfl ?_
            refine lv_iadd hx hb dJ6_numberOfTrailingZeros_0f7a4_78 ?_
            exact re_i (v := ((nI 1) + (((nz0 (nI n)).toUInt32 >>> ((nI 1).toUInt32 &&& Int32.toUInt32 31)).toInt32))) hx hb hr hlocks hS () hP hD (nz_tt ⟨n, hn⟩ hn0 c9 c52 c64) dJ6_numberOfTrailingZeros_0f7a4_79
          · refine lv_iinc (v := (nI 3)) (lv' := [(1, .int (nI 3)), (0, .int (nz0 (nI n)))]) hx hb dJ6_numberOfTrailingZeros_0f7a4_67 hl (k := 0) rfl (by decide) (by decide) rfl (fun ls hl => ?_)
            refine lv_iload_n hx hb dJ6_numberOfTrailingZeros_0f7a4_70 rfl (lv_at hl 1 rfl) ?_
            refine lv_iconst (v := (nI 2)) hx hb dJ6_numberOfTrailingZeros_0f7a4_71 (by decide) ?_
            refine lv_iushr (v := ((nz0 (nI n)).toUInt32 >>> ((nI 2).toUInt32 &&& Int32.toUInt32 31)).toInt32) hx hb dJ6_numberOfTrailingZeros_0f7a4_72 rfl ?_
            refine lv_istore_n (lv' := [(0, .int (((nz0 (nI n)).toUInt32 >>> ((nI 2).toUInt32 &&& Int32.toUInt32 31)).toInt32)), (1, .int (nI 3))]) hx hb dJ6_numberOfTrailingZeros_0f7a4_73 rfl hl (by decide) rfl (fun ls hl => ?_)
            refine lv_iload_n hx hb dJ6_numberOfTrailingZeros_0f7a4_74 rfl (lv_at hl 1 rfl) ?_
            refine lv_iload_n hx hb dJ6_numberOfTrailingZeros_0f7a4_75 rfl (lv_at hl 0 rfl) ?_
            refine lv_iconst (v := (nI 1)) hx hb dJ6_numberOfTrailingZeros_0f7a4_76 (by decide) ?_
            refine lv_iushr (v := ((((nz0 (nI n)).toUInt32 >>> ((nI 2).toUInt32 &&& Int32.toUInt32 31)).toInt32).toUInt32 >>> ((nI 1).toUInt32 &&& Int32.toUInt32 31)).toInt32) hx hb dJ6_numberOfTrailingZeros_0f7a4_77 rfl ?_
            refine lv_iadd hx hb dJ6_numberOfTrailingZeros_0f7a4_78 ?_
            exact re_i (v := ((nI 3) + (((((nz0 (nI n)).toUInt32 >>> ((nI 2).toUInt32 &&& Int32.toUInt32 31)).toInt32).toUInt32 >>> ((nI 1).toUInt32 &&& Int32.toUInt32 31)).toInt32))) hx hb hr hlocks hS () hP hD (nz_tf ⟨n, hn⟩ hn0 c9 c52 c64) dJ6_numberOfTrailingZeros_0f7a4_79
        · refine lv_iinc (v := (nI 5)) (lv' := [(1, .int (nI 5)), (0, .int (nz0 (nI n)))]) hx hb dJ6_numberOfTrailingZeros_0f7a4_55 hl (k := 0) rfl (by decide) (by decide) rfl (fun ls hl => ?_)
          refine lv_iload_n hx hb dJ6_numberOfTrailingZeros_0f7a4_58 rfl (lv_at hl 1 rfl) ?_
          refine lv_iconst (v := (nI 4)) hx hb dJ6_numberOfTrailingZeros_0f7a4_59 (by decide) ?_
          refine lv_iushr (v := ((nz0 (nI n)).toUInt32 >>> ((nI 4).toUInt32 &&& Int32.toUInt32 31)).toInt32) hx hb dJ6_numberOfTrailingZeros_0f7a4_60 rfl ?_
          refine ti (y := (us (nz0 (nI n)) (nI 4))) rfl ?_
          refine lv_istore_n (lv' := [(0, .int (us (nz0 (nI n)) (nI 4))), (1, .int (nI 5))]) hx hb dJ6_numberOfTrailingZeros_0f7a4_61 rfl hl (by decide) rfl (fun ls hl => ?_)
          refine lv_iload_n hx hb dJ6_numberOfTrailingZeros_0f7a4_62 rfl (lv_at hl 0 rfl) ?_
          refine lv_iconst (v := (nI 4)) hx hb dJ6_numberOfTrailingZeros_0f7a4_63 (by decide) ?_
          refine lv_icmp_le (x := (us (nz0 (nI n)) (nI 4))) (y := (nI 4)) (tgt := 74) hx hb dJ6_numberOfTrailingZeros_0f7a4_64 (by decide) (fun c64 => ?_) (fun c64 => ?_)
          · refine lv_iload_n hx hb dJ6_numberOfTrailingZeros_0f7a4_74 rfl (lv_at hl 1 rfl) ?_
            refine lv_iload_n hx hb dJ6_numberOfTrailingZeros_0f7a4_75 rfl (lv_at hl 0 rfl) ?_
            refine lv_iconst (v := (nI 1)) hx hb dJ6_numberOfTrailingZeros_0f7a4_76 (by decide) ?_
            refine lv_iushr (v := ((us (nz0 (nI n)) (nI 4)).toUInt32 >>> ((nI 1).toUInt32 &&& Int32.toUInt32 31)).toInt32) hx hb dJ6_numberOfTrailingZeros_0f7a4_77 rfl ?_
            refine lv_iadd hx hb dJ6_numberOfTrailingZeros_0f7a4_78 ?_
            exact re_i (v := ((nI 5) + (((us (nz0 (nI n)) (nI 4)).toUInt32 >>> ((nI 1).toUInt32 &&& Int32.toUInt32 31)).toInt32))) hx hb hr hlocks hS () hP hD (nz_ft ⟨n, hn⟩ hn0 c9 c52 c64) dJ6_numberOfTrailingZeros_0f7a4_79
          · refine lv_iinc (v := (nI 7)) (lv' := [(1, .int (nI 7)), (0, .int (us (nz0 (nI n)) (nI 4)))]) hx hb dJ6_numberOfTrailingZeros_0f7a4_67 hl (k := 1) rfl (by decide) (by decide) rfl (fun ls hl => ?_)
            refine lv_iload_n hx hb dJ6_numberOfTrailingZeros_0f7a4_70 rfl (lv_at hl 1 rfl) ?_
            refine lv_iconst (v := (nI 2)) hx hb dJ6_numberOfTrailingZeros_0f7a4_71 (by decide) ?_
            refine lv_iushr (v := ((us (nz0 (nI n)) (nI 4)).toUInt32 >>> ((nI 2).toUInt32 &&& Int32.toUInt32 31)).toInt32) hx hb dJ6_numberOfTrailingZeros_0f7a4_72 rfl ?_
            refine lv_istore_n (lv' := [(0, .int (((us (nz0 (nI n)) (nI 4)).toUInt32 >>> ((nI 2).toUInt32 &&& Int32.toUInt32 31)).toInt32)), (1, .int (nI 7))]) hx hb dJ6_numberOfTrailingZeros_0f7a4_73 rfl hl (by decide) rfl (fun ls hl => ?_)
            refine lv_iload_n hx hb dJ6_numberOfTrailingZeros_0f7a4_74 rfl (lv_at hl 1 rfl) ?_
            refine lv_iload_n hx hb dJ6_numberOfTrailingZeros_0f7a4_75 rfl (lv_at hl 0 rfl) ?_
            refine lv_iconst (v := (nI 1)) hx hb dJ6_numberOfTrailingZeros_0f7a4_76 (by decide) ?_
            refine lv_iushr (v := ((((us (nz0 (nI n)) (nI 4)).toUInt32 >>> ((nI 2).toUInt32 &&& Int32.toUInt32 31)).toInt32).toUInt32 >>> ((nI 1).toUInt32 &&& Int32.toUInt32 31)).toInt32) hx hb dJ6_numberOfTrailingZeros_0f7a4_77 rfl ?_
            refine lv_iadd hx hb dJ6_numberOfTrailingZeros_0f7a4_78 ?_
            exact re_i (v := ((nI 7) + (((((us (nz0 (nI n)) (nI 4)).toUInt32 >>> ((nI 2).toUInt32 &&& Int32.toUInt32 31)).toInt32).toUInt32 >>> ((nI 1).toUInt32 &&& Int32.toUInt32 31)).toInt32))) hx hb hr hlocks hS () hP hD (nz_ff ⟨n, hn⟩ hn0 c9 c52 c64) dJ6_numberOfTrailingZeros_0f7a4_79
      · exact absurd (nz_le1 ⟨n, hn⟩) c38
    · exact absurd (nz_le2 ⟨n, hn⟩) c23
  · refine lv_iload_n hx hb dJ6_numberOfTrailingZeros_0f7a4_12 rfl (lv_at hl 0 rfl) ?_
    refine lv_bipush (v := (nI 32)) hx hb dJ6_numberOfTrailingZeros_0f7a4_13 (by decide) ?_
    refine lv_iand hx hb dJ6_numberOfTrailingZeros_0f7a4_15 ?_
    exact re_i (v := ((nz0 (nI n)) &&& (nI 32))) hx hb hr hlocks hS () hP hD (nz_0 ⟨n, hn⟩ hn0 c9) dJ6_numberOfTrailingZeros_0f7a4_16

theorem hdX7_fittingNodes : hdOK yX7_fittingNodes 0 := by decide +kernel
set_option maxHeartbeats 4000000 in
set_option maxRecDepth 100000 in
theorem mX7_fittingNodes (l : Launch) (G : GG) (od td nn dd pd : Nat → Nat) (bo : Nat) (wd sd e0 e1 : Nat → Nat) (kp : Nat → Int32) (a : Nat → Nat) (r : Nat → Nat → Nat) (w : Nat → Nat) (us : Nat) (wh : Nat → Nat) (nu : Nat → Int32) (ss : Nat) (hT : TB a r) (hss : ss ≤ 6) (hwh : ∀ j, wh j < 2) : Mi l yX7_fittingNodes cX7_fittingNodes 3 (some .int) (rmN 4 91) G [.ref (od 0)] (obw G od (td 0) (nn 0) (dd 0) (pd 0) bo (wd 0) (sd 0) (e0 0) (e1 0) kp ++ (tkw G nn a r ++ (wyw G wd w us ++ (sgw G sd wh nu ss)))) (fun (r9 : Int32) (_ : (Nat → Nat) × Nat) => r9 = nI (fiN a (wtA a r (a 8)) wh nu ss (a 0))) (fun (u : (Nat → Nat) × Nat) => obw G od (td 0) (nn 0) (dd 0) (pd 0) bo (wd 0) (sd 0) (e0 0) (e1 0) kp ++ (tkw G nn a r ++ (wyw G wd u.1 u.2 ++ (sgw G sd wh nu ss)))) := by
  refine Mi.of (cc := cX7_fittingNodes) (nL := 3) (by decide) (Nat.le_of_ble_eq_true rfl) ?_
  intro p e s m below meth c A ls F hr hlocks hnm hX hA hD hP hS hl
  have F : CallFix p m c cX7_fittingNodes 3 s [.ref (od 0)].toArray wA RX7 := F
  obtain ⟨hx, hb, hml, hown, hts⟩ := id F
  have hl : lv_has ls 3 [(0, .ref (od 0))] := hl
  obtain ⟨t0, t1, t2, t3, t4, t5, t6, t7, t8, t9, t10, t11, t12⟩ := id hT
  refine lv_aload_n hx hb dX7_fittingNodes_0 rfl (lv_at hl 0 rfl) ?_
  refine va_get (D := G.1) (ci := 6) (v := .ref (wd 0)) (C := RX7) (T := TX7) (N := 9) hx hb hts inA7 hown hX.1 hP 0 rfl rfl 5 (by decide) (hts _ kw_199) (fun _ h9 => h9) rfl dX7_fittingNodes_1 ?_
  refine lv_aload_n hx hb dX7_fittingNodes_4 rfl (lv_at hl 0 rfl) ?_
  refine va_get (D := G.1) (ci := 6) (v := .ref (nn 0)) (C := RX7) (T := TX7) (N := 9) hx hb hts inA7 hown hX.1 hP 0 rfl rfl 1 (by decide) (hts _ kw_195) (fun _ h9 => h9) rfl dX7_fittingNodes_5 ?_
  refine lv_aload_n hx hb dX7_fittingNodes_8 rfl (lv_at hl 0 rfl) ?_
  refine va_get (D := G.1) (ci := 6) (v := .ref (nn 0)) (C := RX7) (T := TX7) (N := 9) hx hb hts inA7 hown hX.1 hP 0 rfl rfl 1 (by decide) (hts _ kw_195) (fun _ h9 => h9) rfl dX7_fittingNodes_9 ?_
  refine va_get (D := G.1) (ci := 3) (v := .int (nI (a 8))) (C := RX4) (T := TX4) (N := 12) hx hb hts inA4 hown hX.1 hP 3 rfl rfl 8 (by decide) (hts _ kw_99) (fun _ h9 => h9) rfl dX7_fittingNodes_12 ?_
  refine ca_Vv (ci := 5) (q := (RX6, TX6, 2)) (rest := []) (wr := obw G od (td 0) (nn 0) (dd 0) (pd 0) bo (wd 0) (sd 0) (e0 0) (e1 0) kp ++ (sgw G sd wh nu ss)) F hX (mX6_find l G wd w us nn a r (a 8) hT (by omega)) (cA_V hts kw_405 kw_6 kw_402 kw_403 kw_404 hdX6_find ⟨Nat.le_of_ble_eq_true rfl, Nat.le_of_ble_eq_true rfl⟩) rfl rfl rfl hl.1 rfl (Nat.le_of_ble_eq_true rfl) dX7_fittingNodes_15 ⟨Nat.le_of_ble_eq_true rfl, Nat.le_of_ble_eq_true rfl⟩ hP hD hS hA (((pm_sw _ _ _).trans ((List.Perm.append_left _ (pm_sw _ _ _)).trans (pm_sw _ _ _))).trans (List.Perm.of_eq (List.append_assoc _ _ _).symm)) (fun u15 H locs hp15 hP hD hS => ?_)
  have hP : va_P G.1 vwCl (obw G od (td 0) (nn 0) (dd 0) (pd 0) bo (wd 0) (sd 0) (e0 0) (e1 0) kp ++ (tkw G nn a r ++ (wyw G wd (wtN (r 0) (r 1) (r 2) (nd (2 ^ (a 3) - 1) (a 9)) (a 3) (a 0) (nof (r 0) (r 1) (a 1) (a 8) (a 3))) (nd (2 ^ (a 3) - 1) (a 9)) ++ (sgw G sd wh nu ss)))) H := wp_pm (((pm_sw _ _ _).trans ((List.Perm.append_left _ (pm_sw _ _ _)).trans (pm_sw _ _ _))).trans (List.Perm.of_eq (List.append_assoc _ _ _).symm)).symm hP
  have hD : va_D A (obw G od (td 0) (nn 0) (dd 0) (pd 0) bo (wd 0) (sd 0) (e0 0) (e1 0) kp ++ (tkw G nn a r ++ (wyw G wd (wtN (r 0) (r 1) (r 2) (nd (2 ^ (a 3) - 1) (a 9)) (a 3) (a 0) (nof (r 0) (r 1) (a 1) (a 8) (a 3))) (nd (2 ^ (a 3) - 1) (a 9)) ++ (sgw G sd wh nu ss)))) := wd_pm (((pm_sw _ _ _).trans ((List.Perm.append_left _ (pm_sw _ _ _)).trans (pm_sw _ _ _))).trans (List.Perm.of_eq (List.append_assoc _ _ _).symm)).symm hD
  refine lv_iconst (v := (nI 0)) hx hb dX7_fittingNodes_18 (by decide) ?_
  refine lv_istore_n (lv' := [(1, .int (nI 0)), (0, .ref (od 0))]) hx hb dX7_fittingNodes_19 rfl hl (by decide) rfl (fun ls hl => ?_)
  refine lv_iconst (v := (nI 0)) hx hb dX7_fittingNodes_20 (by decide) ?_
  refine lv_istore_n (lv' := [(2, .int (nI 0)), (1, .int (nI 0)), (0, .ref (od 0))]) hx hb dX7_fittingNodes_21 rfl hl (by decide) rfl (fun ls hl => ?_)
  have lp22 : ∀ (n22 : Nat) (v : Nat) (x : Nat), (a 0 - v) < n22 → x = fiN a (wtA a r (a 8)) wh nu ss v → (v ≤ a 0) → ∀ (H : Heap) (locs : List Loc), va_P G.1 vwCl (obw G od (td 0) (nn 0) (dd 0) (pd 0) bo (wd 0) (sd 0) (e0 0) (e1 0) kp ++ (tkw G nn a r ++ (wyw G wd (wtA a r (a 8)) (upA a) ++ (sgw G sd wh nu ss)))) H → va_D A (obw G od (td 0) (nn 0) (dd 0) (pd 0) bo (wd 0) (sd 0) (e0 0) (e1 0) kp ++ (tkw G nn a r ++ (wyw G wd (wtA a r (a 8)) (upA a) ++ (sgw G sd wh nu ss)))) → va_S A s.heap H locs → ∀ (ls : Array Slot), lv_has ls 3 [(0, .ref (od 0)), (1, .int (nI x)), (2, .int (nI v))] → WI p l e (rmN 4 91) s m [.ref (od 0)] below meth c H locs G A (fun (r9 : Int32) (_ : (Nat → Nat) × Nat) => r9 = nI (fiN a (wtA a r (a 8)) wh nu ss (a 0))) (fun (u : (Nat → Nat) × Nat) => obw G od (td 0) (nn 0) (dd 0) (pd 0) bo (wd 0) (sd 0) (e0 0) (e1 0) kp ++ (tkw G nn a r ++ (wyw G wd u.1 u.2 ++ (sgw G sd wh nu ss)))) (F0 m 22 ls []) := by
    intro n22
    induction n22 with
    | zero => intro v x h9; exact absurd h9 (Nat.not_lt_zero _)
    | succ n22 ih22 =>
      intro v x hm22 e_x hv H locs hP hD hS ls hl
      subst e_x
      refine lv_iload_n hx hb dX7_fittingNodes_22 rfl (lv_at hl 2 rfl) ?_
      refine lv_aload_n hx hb dX7_fittingNodes_23 rfl (lv_at hl 0 rfl) ?_
      refine va_get (D := G.1) (ci := 6) (v := .ref (nn 0)) (C := RX7) (T := TX7) (N := 9) hx hb hts inA7 hown hX.1 hP 0 rfl rfl 1 (by decide) (hts _ kw_195) (fun _ h9 => h9) rfl dX7_fittingNodes_24 ?_
      refine va_get (D := G.1) (ci := 3) (v := .int (nI (a 0))) (C := RX4) (T := TX4) (N := 12) hx hb hts inA4 hown hX.1 hP 3 rfl rfl 0 (by decide) (hts _ kw_67) (fun _ h9 => h9) rfl dX7_fittingNodes_27 ?_
      refine nv_ge (x := v) (y := a 0) (tgt := 79) hx hb dX7_fittingNodes_30 (by decide) (by omega) (by omega) (fun c30 => ?_) (fun c30 => ?_)
      · refine lv_iload_n hx hb dX7_fittingNodes_79 rfl (lv_at hl 1 rfl) ?_
        exact re_i (v := (nI (fiN a (wtA a r (a 8)) wh nu ss v))) hx hb hr hlocks hS (wtA a r (a 8), upA a) hP hD (by have e9 : v = a 0 := (by omega); rw [e9]) dX7_fittingNodes_80
      · refine lv_aload_n hx hb dX7_fittingNodes_33 rfl (lv_at hl 0 rfl) ?_
        refine lv_iload_n hx hb dX7_fittingNodes_34 rfl (lv_at hl 2 rfl) ?_
        refine ca_Vi (ci := 6) (q := (RX7, TX7, 9)) (rest := []) (wr := wyw G wd (wtA a r (a 8)) (upA a) ++ (sgw G sd wh nu ss)) F hX (mX7_role l G od td nn dd pd bo wd sd e0 e1 kp a r v hT (by omega)) (cA_V hts kw_393 kw_1 kw_390 kw_392 kp_11 hdX7_role ⟨Nat.le_of_ble_eq_true rfl, Nat.le_of_ble_eq_true rfl⟩) rfl rfl rfl hl.1 rfl (Nat.le_of_ble_eq_true rfl) dX7_fittingNodes_35 ⟨Nat.le_of_ble_eq_true rfl, Nat.le_of_ble_eq_true rfl⟩ hP hD hS hA (((pm_sw _ _ _).trans (pm_sw _ _ _)).trans (List.Perm.of_eq (List.append_assoc _ _ _).symm)) (fun r35 u35 H locs hp35 hP hD hS => ?_)
        have hP : va_P G.1 vwCl (obw G od (td 0) (nn 0) (dd 0) (pd 0) bo (wd 0) (sd 0) (e0 0) (e1 0) kp ++ (tkw G nn a r ++ (wyw G wd (wtA a r (a 8)) (upA a) ++ (sgw G sd wh nu ss)))) H := wp_pm (((pm_sw _ _ _).trans (pm_sw _ _ _)).trans (List.Perm.of_eq (List.append_assoc _ _ _).symm)).symm hP
        have hD : va_D A (obw G od (td 0) (nn 0) (dd 0) (pd 0) bo (wd 0) (sd 0) (e0 0) (e1 0) kp ++ (tkw G nn a r ++ (wyw G wd (wtA a r (a 8)) (upA a) ++ (sgw G sd wh nu ss)))) := wd_pm (((pm_sw _ _ _).trans (pm_sw _ _ _)).trans (List.Perm.of_eq (List.append_assoc _ _ _).symm)).symm hD
        subst hp35
        refine nv_zne (x := roN a v) (tgt := 73) hx hb dX7_fittingNodes_38 (by decide) (by have := roN_le a v; omega) (fun c38 => ?_) (fun c38 => ?_)
        · refine lv_iinc (v := (nI (v + 1))) (lv' := [(2, .int (nI (v + 1))), (0, .ref (od 0)), (1, .int (nI (fiN a (wtA a r (a 8)) wh nu ss v)))]) hx hb dX7_fittingNodes_73 hl (k := 2) rfl (qn_inc _) (by decide) rfl (fun ls hl => ?_)
          refine lv_goto (tgt := 22) hx hb dX7_fittingNodes_76 (by decide) ?_
          exact ih22 (v + 1) (fiN a (wtA a r (a 8)) wh nu ss v) (by omega) (by rw [fiN]; exact (if_neg (fun h => c38 h.1)).symm) (by omega) _ _ hP hD hS ls (lv_sub hl [1, 2, 0] rfl)
        · refine lv_aload_n hx hb dX7_fittingNodes_41 rfl (lv_at hl 0 rfl) ?_
          refine va_get (D := G.1) (ci := 6) (v := .ref (sd 0)) (C := RX7) (T := TX7) (N := 9) hx hb hts inA7 hown hX.1 hP 0 rfl rfl 6 (by decide) (hts _ kw_200) (fun _ h9 => h9) rfl dX7_fittingNodes_42 ?_
          refine lv_aload_n hx hb dX7_fittingNodes_45 rfl (lv_at hl 0 rfl) ?_
          refine va_get (D := G.1) (ci := 6) (v := .ref (wd 0)) (C := RX7) (T := TX7) (N := 9) hx hb hts inA7 hown hX.1 hP 0 rfl rfl 5 (by decide) (hts _ kw_199) (fun _ h9 => h9) rfl dX7_fittingNodes_46 ?_
          refine lv_iload_n hx hb dX7_fittingNodes_49 rfl (lv_at hl 2 rfl) ?_
          refine ca_Vi (ci := 5) (q := (RX6, TX6, 2)) (rest := [.ref (sd 0)]) (wr := obw G od (td 0) (nn 0) (dd 0) (pd 0) bo (wd 0) (sd 0) (e0 0) (e1 0) kp ++ (tkw G nn a r ++ (sgw G sd wh nu ss))) F hX (mX6_costFrom l G wd (wtA a r (a 8)) (upA a) v (wtA_le a r (a 8)) (by omega)) (cA_V hts kw_482 kw_6 kw_580 kw_480 kw_481 hdX6_costFrom ⟨Nat.le_of_ble_eq_true rfl, Nat.le_of_ble_eq_true rfl⟩) rfl rfl rfl hl.1 rfl (Nat.le_of_ble_eq_true rfl) dX7_fittingNodes_50 ⟨Nat.le_of_ble_eq_true rfl, Nat.le_of_ble_eq_true rfl⟩ hP hD hS hA ((List.Perm.append_left _ (pm_sw _ _ _)).trans (pm_sw _ _ _)) (fun r50 u50 H locs hp50 hP hD hS => ?_)
          have hP : va_P G.1 vwCl (obw G od (td 0) (nn 0) (dd 0) (pd 0) bo (wd 0) (sd 0) (e0 0) (e1 0) kp ++ (tkw G nn a r ++ (wyw G wd (wtA a r (a 8)) (upA a) ++ (sgw G sd wh nu ss)))) H := wp_pm ((List.Perm.append_left _ (pm_sw _ _ _)).trans (pm_sw _ _ _)).symm hP
          have hD : va_D A (obw G od (td 0) (nn 0) (dd 0) (pd 0) bo (wd 0) (sd 0) (e0 0) (e1 0) kp ++ (tkw G nn a r ++ (wyw G wd (wtA a r (a 8)) (upA a) ++ (sgw G sd wh nu ss)))) := wd_pm ((List.Perm.append_left _ (pm_sw _ _ _)).trans (pm_sw _ _ _)).symm hD
          subst hp50
          refine lv_aload_n hx hb dX7_fittingNodes_53 rfl (lv_at hl 0 rfl) ?_
          refine va_get (D := G.1) (ci := 6) (v := .ref (wd 0)) (C := RX7) (T := TX7) (N := 9) hx hb hts inA7 hown hX.1 hP 0 rfl rfl 5 (by decide) (hts _ kw_199) (fun _ h9 => h9) rfl dX7_fittingNodes_54 ?_
          refine lv_iload_n hx hb dX7_fittingNodes_57 rfl (lv_at hl 2 rfl) ?_
          refine ca_Vi (ci := 5) (q := (RX6, TX6, 2)) (rest := [.int (oN (cfr (wtA a r (a 8)) v)), .ref (sd 0)]) (wr := obw G od (td 0) (nn 0) (dd 0) (pd 0) bo (wd 0) (sd 0) (e0 0) (e1 0) kp ++ (tkw G nn a r ++ (sgw G sd wh nu ss))) F hX (mX6_stepsFrom l G wd (wtA a r (a 8)) (upA a) v (wtA_le a r (a 8)) (by omega)) (cA_V hts kw_584 kw_6 kw_581 kw_582 kw_583 hdX6_stepsFrom ⟨Nat.le_of_ble_eq_true rfl, Nat.le_of_ble_eq_true rfl⟩) rfl rfl rfl hl.1 rfl (Nat.le_of_ble_eq_true rfl) dX7_fittingNodes_58 ⟨Nat.le_of_ble_eq_true rfl, Nat.le_of_ble_eq_true rfl⟩ hP hD hS hA ((List.Perm.append_left _ (pm_sw _ _ _)).trans (pm_sw _ _ _)) (fun r58 u58 H locs hp58 hP hD hS => ?_)
          have hP : va_P G.1 vwCl (obw G od (td 0) (nn 0) (dd 0) (pd 0) bo (wd 0) (sd 0) (e0 0) (e1 0) kp ++ (tkw G nn a r ++ (wyw G wd (wtA a r (a 8)) (upA a) ++ (sgw G sd wh nu ss)))) H := wp_pm ((List.Perm.append_left _ (pm_sw _ _ _)).trans (pm_sw _ _ _)).symm hP
          have hD : va_D A (obw G od (td 0) (nn 0) (dd 0) (pd 0) bo (wd 0) (sd 0) (e0 0) (e1 0) kp ++ (tkw G nn a r ++ (wyw G wd (wtA a r (a 8)) (upA a) ++ (sgw G sd wh nu ss)))) := wd_pm ((List.Perm.append_left _ (pm_sw _ _ _)).trans (pm_sw _ _ _)).symm hD
          subst hp58
          refine ca_Vi (ci := 2) (q := (RX3, TX3, 3)) (rest := []) (wr := obw G od (td 0) (nn 0) (dd 0) (pd 0) bo (wd 0) (sd 0) (e0 0) (e1 0) kp ++ (tkw G nn a r ++ (wyw G wd (wtA a r (a 8)) (upA a)))) F hX (mX3_fit l G sd wh nu ss (oN (cfr (wtA a r (a 8)) v)) (oN (sfr (wtA a r (a 8)) v)) hss hwh) (cA_V hts kw_653 kw_7 kw_650 kw_651 kw_652 hdX3_fit ⟨Nat.le_of_ble_eq_true rfl, Nat.le_of_ble_eq_true rfl⟩) rfl rfl rfl hl.1 rfl (Nat.le_of_ble_eq_true rfl) dX7_fittingNodes_61 ⟨Nat.le_of_ble_eq_true rfl, Nat.le_of_ble_eq_true rfl⟩ hP hD hS hA ((List.Perm.append_left _ ((List.Perm.append_left _ (List.perm_append_comm)).trans (pm_sw _ _ _))).trans (pm_sw _ _ _)) (fun r61 u61 H locs hp61 hP hD hS => ?_)
          have hP : va_P G.1 vwCl (obw G od (td 0) (nn 0) (dd 0) (pd 0) bo (wd 0) (sd 0) (e0 0) (e1 0) kp ++ (tkw G nn a r ++ (wyw G wd (wtA a r (a 8)) (upA a) ++ (sgw G sd wh nu ss)))) H := wp_pm ((List.Perm.append_left _ ((List.Perm.append_left _ (List.perm_append_comm)).trans (pm_sw _ _ _))).trans (pm_sw _ _ _)).symm hP
          have hD : va_D A (obw G od (td 0) (nn 0) (dd 0) (pd 0) bo (wd 0) (sd 0) (e0 0) (e1 0) kp ++ (tkw G nn a r ++ (wyw G wd (wtA a r (a 8)) (upA a) ++ (sgw G sd wh nu ss)))) := wd_pm ((List.Perm.append_left _ ((List.Perm.append_left _ (List.perm_append_comm)).trans (pm_sw _ _ _))).trans (pm_sw _ _ _)).symm hD
          subst hp61
          refine bv_eq (b := fitN wh nu (oN (cfr (wtA a r (a 8)) v)) (oN (sfr (wtA a r (a 8)) v)) ss) (tgt := 73) hx hb dX7_fittingNodes_64 (by decide) (fun c64 => ?_) (fun c64 => ?_)
          · refine lv_iinc (v := (nI (v + 1))) (lv' := [(2, .int (nI (v + 1))), (0, .ref (od 0)), (1, .int (nI (fiN a (wtA a r (a 8)) wh nu ss v)))]) hx hb dX7_fittingNodes_73 hl (k := 2) rfl (qn_inc _) (by decide) rfl (fun ls hl => ?_)
            refine lv_goto (tgt := 22) hx hb dX7_fittingNodes_76 (by decide) ?_
            exact ih22 (v + 1) (fiN a (wtA a r (a 8)) wh nu ss v) (by omega) (by rw [fiN]; exact (if_neg (fun h => absurd (c64.symm.trans h.2) (by decide))).symm) (by omega) _ _ hP hD hS ls (lv_sub hl [1, 2, 0] rfl)
          · refine lv_iload_n hx hb dX7_fittingNodes_67 rfl (lv_at hl 1 rfl) ?_
            refine lv_iconst (v := (nI 1)) hx hb dX7_fittingNodes_68 (by decide) ?_
            refine lv_iload_n hx hb dX7_fittingNodes_69 rfl (lv_at hl 2 rfl) ?_
            refine lv_ishl hx hb dX7_fittingNodes_70 (ti (y := (nI (2 ^ v))) (qn_sh1 (by omega)) ?_)
            refine lv_ior hx hb dX7_fittingNodes_71 (ti (y := (nI ((fiN a (wtA a r (a 8)) wh nu ss v) ||| (2 ^ v)))) (qn_or _ _) ?_)
            refine lv_istore_n (lv' := [(1, .int (nI ((fiN a (wtA a r (a 8)) wh nu ss v) ||| (2 ^ v)))), (0, .ref (od 0)), (2, .int (nI v))]) hx hb dX7_fittingNodes_72 rfl hl (by decide) rfl (fun ls hl => ?_)
            refine lv_iinc (v := (nI (v + 1))) (lv' := [(2, .int (nI (v + 1))), (1, .int (nI ((fiN a (wtA a r (a 8)) wh nu ss v) ||| (2 ^ v)))), (0, .ref (od 0))]) hx hb dX7_fittingNodes_73 hl (k := 2) rfl (qn_inc _) (by decide) rfl (fun ls hl => ?_)
            refine lv_goto (tgt := 22) hx hb dX7_fittingNodes_76 (by decide) ?_
            exact ih22 (v + 1) ((fiN a (wtA a r (a 8)) wh nu ss v) ||| (2 ^ v)) (by omega) (by rw [fiN]; exact (if_pos ⟨c38, c64⟩).symm) (by omega) _ _ hP hD hS ls (lv_sub hl [2, 1, 0] rfl)
  exact lp22 _ 0 0 (Nat.lt_succ_self _) rfl (Nat.zero_le _) _ _ hP hD hS ls (lv_sub hl [2, 1, 0] rfl)

theorem hdX7_which : hdOK yX7_which 1 := by decide +kernel
set_option maxHeartbeats 4000000 in
set_option maxRecDepth 100000 in
theorem mX7_which_bad (l : Launch) (G : GG) (od td nn dd pd : Nat → Nat) (bo : Nat) (wd sd e0 e1 : Nat → Nat) (kp : Nat → Int32) (x : Int32) (hx9 : ¬ (0 ≤ x.toInt ∧ x.toInt ≤ 1)) : Mi l yX7_which cX7_which 3 (some .int) (rmN 0 0) G [.ref (od 0), .int x] (obw G od (td 0) (nn 0) (dd 0) (pd 0) bo (wd 0) (sd 0) (e0 0) (e1 0) kp) (fun (r9 : Int32) (_ : Unit) => r9 = (-1)) (fun (_ : Unit) => obw G od (td 0) (nn 0) (dd 0) (pd 0) bo (wd 0) (sd 0) (e0 0) (e1 0) kp) := by
  refine Mi.of (cc := cX7_which) (nL := 3) (by decide) (Nat.le_of_ble_eq_true rfl) ?_
  intro p e s m below meth c A ls F hr hlocks hnm hX hA hD hP hS hl
  have F : CallFix p m c cX7_which 3 s [.ref (od 0), .int x].toArray wA RX7 := F
  obtain ⟨hx, hb, hml, hown, hts⟩ := id F
  have hl : lv_has ls 3 [(0, .ref (od 0)), (1, .int x)] := hl
  refine lv_iload_n hx hb dX7_which_0 rfl (lv_at hl 1 rfl) ?_
  refine lv_if_lt (x := x) (tgt := 9) hx hb dX7_which_1 (by decide) (fun c1 => ?_) (fun c1 => ?_)
  · refine lv_iconst (v := (-1)) hx hb dX7_which_9 (by decide) ?_
    exact re_i (v := (-1)) hx hb hr hlocks hS () hP hD rfl dX7_which_10
  · refine lv_iload_n hx hb dX7_which_4 rfl (lv_at hl 1 rfl) ?_
    refine lv_iconst (v := (nI 1)) hx hb dX7_which_5 (by decide) ?_
    refine lv_icmp_le (x := x) (y := (nI 1)) (tgt := 11) hx hb dX7_which_6 (by decide) (fun c6 => ?_) (fun c6 => ?_)
    · exact absurd (in_le c1 c6 (by decide)) hx9
    · refine lv_iconst (v := (-1)) hx hb dX7_which_9 (by decide) ?_
      exact re_i (v := (-1)) hx hb hr hlocks hS () hP hD rfl dX7_which_10

set_option maxHeartbeats 4000000 in
set_option maxRecDepth 100000 in
theorem mX7_which_0 (l : Launch) (G : GG) (od td nn dd pd : Nat → Nat) (bo : Nat) (wd sd e0 e1 : Nat → Nat) (kp : Nat → Int32) (a : Nat → Nat) (r : Nat → Nat → Nat) (w : Nat → Nat) (us : Nat) (wh : Nat → Nat) (nu : Nat → Int32) (ss : Nat) (hT : TB a r) (hss : ss ≤ 6) (hwh : ∀ j, wh j < 2) : Mi l yX7_which cX7_which 3 (some .int) (rmN 5 113) G [.ref (od 0), .int (nI 0)] (obw G od (td 0) (nn 0) (dd 0) (pd 0) bo (wd 0) (sd 0) (e0 0) (e1 0) kp ++ (tkw G nn a r ++ (wyw G wd w us ++ (sgw G sd wh nu ss)))) (fun (r9 : Int32) (_ : (Nat → Nat) × Nat) => r9 = nI (bts (fiN a (wtA a r (a 8)) wh nu ss (a 0)) 12)) (fun (u : (Nat → Nat) × Nat) => obw G od (td 0) (nn 0) (dd 0) (pd 0) bo (wd 0) (sd 0) (e0 0) (e1 0) kp ++ (tkw G nn a r ++ (wyw G wd u.1 u.2 ++ (sgw G sd wh nu ss)))) := by
  refine Mi.of (cc := cX7_which) (nL := 3) (by decide) (Nat.le_of_ble_eq_true rfl) ?_
  intro p e s m below meth c A ls F hr hlocks hnm hX hA hD hP hS hl
  have F : CallFix p m c cX7_which 3 s [.ref (od 0), .int (nI 0)].toArray wA RX7 := F
  obtain ⟨hx, hb, hml, hown, hts⟩ := id F
  have hl : lv_has ls 3 [(0, .ref (od 0)), (1, .int (nI 0))] := hl
  obtain ⟨t0, t1, t2, t3, t4, t5, t6, t7, t8, t9, t10, t11, t12⟩ := id hT
  have hfi : fiN a (wtA a r (a 8)) wh nu ss (a 0) < 128 := Nat.lt_of_lt_of_le (fiN_lt a (wtA a r (a 8)) wh nu ss (a 0)) (Nat.pow_le_pow_right (n := 2) (by decide) (show a 0 ≤ 7 by omega))
  refine lv_iload_n hx hb dX7_which_0 rfl (lv_at hl 1 rfl) ?_
  refine nv_zlt (x := 0) (tgt := 9) hx hb dX7_which_1 (by decide) (by omega) ?_
  refine lv_iload_n hx hb dX7_which_4 rfl (lv_at hl 1 rfl) ?_
  refine lv_iconst (v := (nI 1)) hx hb dX7_which_5 (by decide) ?_
  refine nv_le (x := 0) (y := 1) (tgt := 11) hx hb dX7_which_6 (by decide) (by decide) (by decide) (fun c6 => ?_) (fun c6 => ?_)
  · refine lv_aload_n hx hb dX7_which_11 rfl (lv_at hl 0 rfl) ?_
    refine ca_Vi (ci := 6) (q := (RX7, TX7, 9)) (rest := []) (wr := ([] : va_W)) F hX (mX7_fittingNodes l G od td nn dd pd bo wd sd e0 e1 kp a r w us wh nu ss hT hss hwh) (cA_V hts kw_649 kw_1 kw_646 kw_648 kp_18 hdX7_fittingNodes ⟨Nat.le_of_ble_eq_true rfl, Nat.le_of_ble_eq_true rfl⟩) rfl rfl rfl hl.1 rfl (Nat.le_of_ble_eq_true rfl) dX7_which_12 ⟨Nat.le_of_ble_eq_true rfl, Nat.le_of_ble_eq_true rfl⟩ hP hD hS hA (pm_nil _) (fun r12 u12 H locs hp12 hP hD hS => ?_)
    have hP : va_P G.1 vwCl (obw G od (td 0) (nn 0) (dd 0) (pd 0) bo (wd 0) (sd 0) (e0 0) (e1 0) kp ++ (tkw G nn a r ++ (wyw G wd u12.1 u12.2 ++ (sgw G sd wh nu ss)))) H := wp_pm (pm_nil _).symm hP
    have hD : va_D A (obw G od (td 0) (nn 0) (dd 0) (pd 0) bo (wd 0) (sd 0) (e0 0) (e1 0) kp ++ (tkw G nn a r ++ (wyw G wd u12.1 u12.2 ++ (sgw G sd wh nu ss)))) := wd_pm (pm_nil _).symm hD
    subst hp12
    refine lv_istore_n (lv' := [(2, .int (nI (fiN a (wtA a r (a 8)) wh nu ss (a 0)))), (0, .ref (od 0)), (1, .int (nI 0))]) hx hb dX7_which_15 rfl hl (by decide) rfl (fun ls hl => ?_)
    refine lv_iload_n hx hb dX7_which_16 rfl (lv_at hl 2 rfl) ?_
    refine nv_zne (x := 0) (tgt := 25) hx hb dX7_which_17 (by decide) (by decide) (fun h9 => absurd h9 (by decide)) (fun _ => ?_)
    refine lv_iload_n hx hb dX7_which_20 rfl (lv_at hl 0 rfl) ?_
    refine ca_Si (rest := []) (wr := obw G od (td 0) (nn 0) (dd 0) (pd 0) bo (wd 0) (sd 0) (e0 0) (e1 0) kp ++ (tkw G nn a r ++ (wyw G wd u12.1 u12.2 ++ (sgw G sd wh nu ss)))) F hX (mJ6_bitCount_0f7a4 l G (fiN a (wtA a r (a 8)) wh nu ss (a 0)) (by omega)) (cA_S hts kw_503 kw_16 kw_544 kw_502 hdJ6_bitCount_0f7a4 ⟨Nat.le_of_ble_eq_true rfl, Nat.le_of_ble_eq_true rfl⟩) rfl hl.1 rfl (Nat.le_of_ble_eq_true rfl) dX7_which_21 ⟨Nat.le_of_ble_eq_true rfl, Nat.le_of_ble_eq_true rfl⟩ hP hD hS hA (List.Perm.refl _) (fun r21 u21 H locs hp21 hP hD hS => ?_)
    have hP : va_P G.1 vwCl (obw G od (td 0) (nn 0) (dd 0) (pd 0) bo (wd 0) (sd 0) (e0 0) (e1 0) kp ++ (tkw G nn a r ++ (wyw G wd u12.1 u12.2 ++ (sgw G sd wh nu ss)))) H := hP
    have hD : va_D A (obw G od (td 0) (nn 0) (dd 0) (pd 0) bo (wd 0) (sd 0) (e0 0) (e1 0) kp ++ (tkw G nn a r ++ (wyw G wd u12.1 u12.2 ++ (sgw G sd wh nu ss)))) := hD
    subst hp21
    exact re_i (v := (nI (bts (fiN a (wtA a r (a 8)) wh nu ss (a 0)) 12))) hx hb hr hlocks hS (u12.1, u12.2) hP hD rfl dX7_which_24
  · exact absurd c6 (by decide)

set_option maxHeartbeats 4000000 in
set_option maxRecDepth 100000 in
theorem mX7_which_1 (l : Launch) (G : GG) (od td nn dd pd : Nat → Nat) (bo : Nat) (wd sd e0 e1 : Nat → Nat) (kp : Nat → Int32) (a : Nat → Nat) (r : Nat → Nat → Nat) (w : Nat → Nat) (us : Nat) (wh : Nat → Nat) (nu : Nat → Int32) (ss : Nat) (hT : TB a r) (hss : ss ≤ 6) (hwh : ∀ j, wh j < 2) : Mi l yX7_which cX7_which 3 (some .int) (rmN 5 113) G [.ref (od 0), .int (nI 1)] (obw G od (td 0) (nn 0) (dd 0) (pd 0) bo (wd 0) (sd 0) (e0 0) (e1 0) kp ++ (tkw G nn a r ++ (wyw G wd w us ++ (sgw G sd wh nu ss)))) (fun (r9 : Int32) (_ : (Nat → Nat) × Nat) => r9 = oN (if fiN a (wtA a r (a 8)) wh nu ss (a 0) = 0 then none else some (lowB (fiN a (wtA a r (a 8)) wh nu ss (a 0)) 7))) (fun (u : (Nat → Nat) × Nat) => obw G od (td 0) (nn 0) (dd 0) (pd 0) bo (wd 0) (sd 0) (e0 0) (e1 0) kp ++ (tkw G nn a r ++ (wyw G wd u.1 u.2 ++ (sgw G sd wh nu ss)))) := by
  refine Mi.of (cc := cX7_which) (nL := 3) (by decide) (Nat.le_of_ble_eq_true rfl) ?_
  intro p e s m below meth c A ls F hr hlocks hnm hX hA hD hP hS hl
  have F : CallFix p m c cX7_which 3 s [.ref (od 0), .int (nI 1)].toArray wA RX7 := F
  obtain ⟨hx, hb, hml, hown, hts⟩ := id F
  have hl : lv_has ls 3 [(0, .ref (od 0)), (1, .int (nI 1))] := hl
  obtain ⟨t0, t1, t2, t3, t4, t5, t6, t7, t8, t9, t10, t11, t12⟩ := id hT
  have hfi : fiN a (wtA a r (a 8)) wh nu ss (a 0) < 128 := Nat.lt_of_lt_of_le (fiN_lt a (wtA a r (a 8)) wh nu ss (a 0)) (Nat.pow_le_pow_right (n := 2) (by decide) (show a 0 ≤ 7 by omega))
  refine lv_iload_n hx hb dX7_which_0 rfl (lv_at hl 1 rfl) ?_
  refine nv_zlt (x := 1) (tgt := 9) hx hb dX7_which_1 (by decide) (by omega) ?_
  refine lv_iload_n hx hb dX7_which_4 rfl (lv_at hl 1 rfl) ?_
  refine lv_iconst (v := (nI 1)) hx hb dX7_which_5 (by decide) ?_
  refine nv_le (x := 1) (y := 1) (tgt := 11) hx hb dX7_which_6 (by decide) (by decide) (by decide) (fun c6 => ?_) (fun c6 => ?_)
  · refine lv_aload_n hx hb dX7_which_11 rfl (lv_at hl 0 rfl) ?_
    refine ca_Vi (ci := 6) (q := (RX7, TX7, 9)) (rest := []) (wr := ([] : va_W)) F hX (mX7_fittingNodes l G od td nn dd pd bo wd sd e0 e1 kp a r w us wh nu ss hT hss hwh) (cA_V hts kw_649 kw_1 kw_646 kw_648 kp_18 hdX7_fittingNodes ⟨Nat.le_of_ble_eq_true rfl, Nat.le_of_ble_eq_true rfl⟩) rfl rfl rfl hl.1 rfl (Nat.le_of_ble_eq_true rfl) dX7_which_12 ⟨Nat.le_of_ble_eq_true rfl, Nat.le_of_ble_eq_true rfl⟩ hP hD hS hA (pm_nil _) (fun r12 u12 H locs hp12 hP hD hS => ?_)
    have hP : va_P G.1 vwCl (obw G od (td 0) (nn 0) (dd 0) (pd 0) bo (wd 0) (sd 0) (e0 0) (e1 0) kp ++ (tkw G nn a r ++ (wyw G wd u12.1 u12.2 ++ (sgw G sd wh nu ss)))) H := wp_pm (pm_nil _).symm hP
    have hD : va_D A (obw G od (td 0) (nn 0) (dd 0) (pd 0) bo (wd 0) (sd 0) (e0 0) (e1 0) kp ++ (tkw G nn a r ++ (wyw G wd u12.1 u12.2 ++ (sgw G sd wh nu ss)))) := wd_pm (pm_nil _).symm hD
    subst hp12
    refine lv_istore_n (lv' := [(2, .int (nI (fiN a (wtA a r (a 8)) wh nu ss (a 0)))), (0, .ref (od 0)), (1, .int (nI 1))]) hx hb dX7_which_15 rfl hl (by decide) rfl (fun ls hl => ?_)
    refine lv_iload_n hx hb dX7_which_16 rfl (lv_at hl 2 rfl) ?_
    refine nv_zne (x := 1) (tgt := 25) hx hb dX7_which_17 (by decide) (by decide) (fun _ => ?_) (fun h9 => absurd h9 (by decide))
    refine lv_iload_n hx hb dX7_which_25 rfl (lv_at hl 0 rfl) ?_
    refine nv_zne (x := fiN a (wtA a r (a 8)) wh nu ss (a 0)) (tgt := 34) hx hb dX7_which_26 (by decide) (by omega) (fun c26 => ?_) (fun c26 => ?_)
    · refine lv_iload_n hx hb dX7_which_34 rfl (lv_at hl 0 rfl) ?_
      refine ca_Si (rest := []) (wr := obw G od (td 0) (nn 0) (dd 0) (pd 0) bo (wd 0) (sd 0) (e0 0) (e1 0) kp ++ (tkw G nn a r ++ (wyw G wd u12.1 u12.2 ++ (sgw G sd wh nu ss)))) F hX (mJ6_numberOfTrailingZeros_0f7a4 l G (fiN a (wtA a r (a 8)) wh nu ss (a 0)) hfi c26) (cA_S hts kw_656 kw_16 kw_654 kw_655 hdJ6_numberOfTrailingZeros_0f7a4 ⟨Nat.le_of_ble_eq_true rfl, Nat.le_of_ble_eq_true rfl⟩) rfl hl.1 rfl (Nat.le_of_ble_eq_true rfl) dX7_which_35 ⟨Nat.le_of_ble_eq_true rfl, Nat.le_of_ble_eq_true rfl⟩ hP hD hS hA (List.Perm.refl _) (fun r35 u35 H locs hp35 hP hD hS => ?_)
      have hP : va_P G.1 vwCl (obw G od (td 0) (nn 0) (dd 0) (pd 0) bo (wd 0) (sd 0) (e0 0) (e1 0) kp ++ (tkw G nn a r ++ (wyw G wd u12.1 u12.2 ++ (sgw G sd wh nu ss)))) H := hP
      have hD : va_D A (obw G od (td 0) (nn 0) (dd 0) (pd 0) bo (wd 0) (sd 0) (e0 0) (e1 0) kp ++ (tkw G nn a r ++ (wyw G wd u12.1 u12.2 ++ (sgw G sd wh nu ss)))) := hD
      subst hp35
      exact re_i (v := (nI (lowB (fiN a (wtA a r (a 8)) wh nu ss (a 0)) 7))) hx hb hr hlocks hS (u12.1, u12.2) hP hD (by rw [if_neg c26]; rfl) dX7_which_38
    · refine lv_bipush (v := (-9)) hx hb dX7_which_29 (by decide) ?_
      refine lv_goto (tgt := 38) hx hb dX7_which_31 (by decide) ?_
      exact re_i (v := (-9)) hx hb hr hlocks hS (u12.1, u12.2) hP hD (by rw [if_pos c26]; rfl) dX7_which_38
  · exact absurd c6 (by decide)

theorem hdX7_keep : hdOK yX7_keep 1 := by decide +kernel
set_option maxHeartbeats 4000000 in
set_option maxRecDepth 100000 in
theorem mX7_keep_bad (l : Launch) (G : GG) (od td nn dd pd : Nat → Nat) (bo : Nat) (wd sd e0 e1 : Nat → Nat) (kp : Nat → Int32) (x : Int32) (hx9 : ¬ (0 ≤ x.toInt ∧ x.toInt < 2)) : Mi l yX7_keep cX7_keep 2 (some .int) (rmN 0 0) G [.ref (od 0), .int x] (obw G od (td 0) (nn 0) (dd 0) (pd 0) bo (wd 0) (sd 0) (e0 0) (e1 0) kp) (fun (r9 : Int32) (_ : Unit) => r9 = (-1)) (fun (_ : Unit) => obw G od (td 0) (nn 0) (dd 0) (pd 0) bo (wd 0) (sd 0) (e0 0) (e1 0) kp) := by
  refine Mi.of (cc := cX7_keep) (nL := 2) (by decide) (Nat.le_of_ble_eq_true rfl) ?_
  intro p e s m below meth c A ls F hr hlocks hnm hX hA hD hP hS hl
  have F : CallFix p m c cX7_keep 2 s [.ref (od 0), .int x].toArray wA RX7 := F
  obtain ⟨hx, hb, hml, hown, hts⟩ := id F
  have hl : lv_has ls 2 [(0, .ref (od 0)), (1, .int x)] := hl
  refine lv_iload_n hx hb dX7_keep_0 rfl (lv_at hl 1 rfl) ?_
  refine lv_if_lt (x := x) (tgt := 9) hx hb dX7_keep_1 (by decide) (fun c1 => ?_) (fun c1 => ?_)
  · refine lv_iconst (v := (-1)) hx hb dX7_keep_9 (by decide) ?_
    exact re_i (v := (-1)) hx hb hr hlocks hS () hP hD rfl dX7_keep_10
  · refine lv_iload_n hx hb dX7_keep_4 rfl (lv_at hl 1 rfl) ?_
    refine lv_iconst (v := (nI 2)) hx hb dX7_keep_5 (by decide) ?_
    refine lv_icmp_lt (x := x) (y := (nI 2)) (tgt := 11) hx hb dX7_keep_6 (by decide) (fun c6 => ?_) (fun c6 => ?_)
    · exact absurd (in_lt c1 c6 (by decide)) hx9
    · refine lv_iconst (v := (-1)) hx hb dX7_keep_9 (by decide) ?_
      exact re_i (v := (-1)) hx hb hr hlocks hS () hP hD rfl dX7_keep_10

theorem hdX7_back : hdOK yX7_back 1 := by decide +kernel
set_option maxHeartbeats 4000000 in
set_option maxRecDepth 100000 in
theorem mX7_back_bad (l : Launch) (G : GG) (od td nn dd pd : Nat → Nat) (bo : Nat) (wd sd e0 e1 : Nat → Nat) (kp : Nat → Int32) (x : Int32) (hx9 : ¬ (0 ≤ x.toInt ∧ x.toInt < 2)) : Mi l yX7_back cX7_back 2 (some .int) (rmN 0 0) G [.ref (od 0), .int x] (obw G od (td 0) (nn 0) (dd 0) (pd 0) bo (wd 0) (sd 0) (e0 0) (e1 0) kp) (fun (r9 : Int32) (_ : Unit) => r9 = (-1)) (fun (_ : Unit) => obw G od (td 0) (nn 0) (dd 0) (pd 0) bo (wd 0) (sd 0) (e0 0) (e1 0) kp) := by
  refine Mi.of (cc := cX7_back) (nL := 2) (by decide) (Nat.le_of_ble_eq_true rfl) ?_
  intro p e s m below meth c A ls F hr hlocks hnm hX hA hD hP hS hl
  have F : CallFix p m c cX7_back 2 s [.ref (od 0), .int x].toArray wA RX7 := F
  obtain ⟨hx, hb, hml, hown, hts⟩ := id F
  have hl : lv_has ls 2 [(0, .ref (od 0)), (1, .int x)] := hl
  refine lv_iload_n hx hb dX7_back_0 rfl (lv_at hl 1 rfl) ?_
  refine lv_if_lt (x := x) (tgt := 9) hx hb dX7_back_1 (by decide) (fun c1 => ?_) (fun c1 => ?_)
  · refine lv_iconst (v := (-1)) hx hb dX7_back_9 (by decide) ?_
    exact re_i (v := (-1)) hx hb hr hlocks hS () hP hD rfl dX7_back_10
  · refine lv_iload_n hx hb dX7_back_4 rfl (lv_at hl 1 rfl) ?_
    refine lv_iconst (v := (nI 2)) hx hb dX7_back_5 (by decide) ?_
    refine lv_icmp_lt (x := x) (y := (nI 2)) (tgt := 11) hx hb dX7_back_6 (by decide) (fun c6 => ?_) (fun c6 => ?_)
    · exact absurd (in_lt c1 c6 (by decide)) hx9
    · refine lv_iconst (v := (-1)) hx hb dX7_back_9 (by decide) ?_
      exact re_i (v := (-1)) hx hb hr hlocks hS () hP hD rfl dX7_back_10

set_option maxHeartbeats 4000000 in
set_option maxRecDepth 100000 in
theorem mX7_keep_0 (l : Launch) (G : GG) (od td nn dd pd : Nat → Nat) (bo : Nat) (wd sd e0 e1 : Nat → Nat) (kp : Nat → Int32) (a : Nat → Nat) (r : Nat → Nat → Nat) (ia0 : Nat → Nat) (ir0 : Nat → Nat → Nat) (hT : TB a r) : Mi l yX7_keep cX7_keep 2 (some .int) (rmN 2 47) G [.ref (od 0), .int (nI 0)] (obw G od (td 0) (nn 0) (dd 0) (pd 0) bo (wd 0) (sd 0) (e0 0) (e1 0) kp ++ (tkw G nn a r ++ (tkw G e0 ia0 ir0))) (fun (r9 : Int32) (_ : Unit) => r9 = (nI (bts (a 7) 12))) (fun (_ : Unit) => obw G od (td 0) (nn 0) (dd 0) (pd 0) bo (wd 0) (sd 0) (e0 0) (e1 0) (upd kp 0 (nI 1)) ++ (tkw G nn a r ++ (tkw G e0 a r))) := by
  refine Mi.of (cc := cX7_keep) (nL := 2) (by decide) (Nat.le_of_ble_eq_true rfl) ?_
  intro p e s m below meth c A ls F hr hlocks hnm hX hA hD hP hS hl
  have F : CallFix p m c cX7_keep 2 s [.ref (od 0), .int (nI 0)].toArray wA RX7 := F
  obtain ⟨hx, hb, hml, hown, hts⟩ := id F
  have hl : lv_has ls 2 [(0, .ref (od 0)), (1, .int (nI 0))] := hl
  obtain ⟨t0, t1, t2, t3, t4, t5, t6, t7, t8, t9, t10, t11, t12⟩ := id hT
  refine lv_iload_n hx hb dX7_keep_0 rfl (lv_at hl 1 rfl) ?_
  refine nv_zlt (x := 0) (tgt := 9) hx hb dX7_keep_1 (by decide) (by omega) ?_
  refine lv_iload_n hx hb dX7_keep_4 rfl (lv_at hl 1 rfl) ?_
  refine lv_iconst (v := (nI 2)) hx hb dX7_keep_5 (by decide) ?_
  refine nv_lt (x := 0) (y := 2) (tgt := 11) hx hb dX7_keep_6 (by decide) (by decide) (by decide) (fun c6 => ?_) (fun c6 => ?_)
  · refine lv_aload_n hx hb dX7_keep_11 rfl (lv_at hl 0 rfl) ?_
    refine va_get (D := G.1) (ci := 6) (v := .ref (od 1)) (C := RX7) (T := TX7) (N := 9) hx hb hts inA7 hown hX.1 hP 0 rfl rfl 7 (by decide) (hts _ kw_201) (fun _ h9 => h9) rfl dX7_keep_12 ?_
    refine lv_iload_n hx hb dX7_keep_15 rfl (lv_at hl 1 rfl) ?_
    refine nv_aldT (f := (fun k => if k = 0 then some (e0 0) else some (e1 0))) (k := 0) (x := e0 0) hx hb hX hP 1 rfl (by decide) (by decide) rfl dX7_keep_16 ?_
    refine lv_aload_n hx hb dX7_keep_17 rfl (lv_at hl 0 rfl) ?_
    refine va_get (D := G.1) (ci := 6) (v := .ref (nn 0)) (C := RX7) (T := TX7) (N := 9) hx hb hts inA7 hown hX.1 hP 0 rfl rfl 1 (by decide) (hts _ kw_195) (fun _ h9 => h9) rfl dX7_keep_18 ?_
    refine ca_Vv (ci := 3) (q := (RX4, TX4, 12)) (rest := []) (wr := obw G od (td 0) (nn 0) (dd 0) (pd 0) bo (wd 0) (sd 0) (e0 0) (e1 0) kp) F hX (mX4_become l G e0 ia0 ir0 nn a r) (cA_V hts kw_373 kw_3 kw_380 kw_371 kw_372 hdX4_become ⟨Nat.le_of_ble_eq_true rfl, Nat.le_of_ble_eq_true rfl⟩) rfl rfl rfl hl.1 rfl (Nat.le_of_ble_eq_true rfl) dX7_keep_21 ⟨Nat.le_of_ble_eq_true rfl, Nat.le_of_ble_eq_true rfl⟩ hP hD hS hA (((pm_sw _ _ _).trans ((List.Perm.append_left _ (List.perm_append_comm)).trans (pm_sw _ _ _))).trans (List.Perm.of_eq (List.append_assoc _ _ _).symm)) (fun u21 H locs hp21 hP hD hS => ?_)
    have hP : va_P G.1 vwCl (obw G od (td 0) (nn 0) (dd 0) (pd 0) bo (wd 0) (sd 0) (e0 0) (e1 0) kp ++ (tkw G nn a r ++ (tkw G e0 a r))) H := wp_pm (((pm_sw _ _ _).trans ((List.Perm.append_left _ (List.perm_append_comm)).trans (pm_sw _ _ _))).trans (List.Perm.of_eq (List.append_assoc _ _ _).symm)).symm hP
    have hD : va_D A (obw G od (td 0) (nn 0) (dd 0) (pd 0) bo (wd 0) (sd 0) (e0 0) (e1 0) kp ++ (tkw G nn a r ++ (tkw G e0 a r))) := wd_pm (((pm_sw _ _ _).trans ((List.Perm.append_left _ (List.perm_append_comm)).trans (pm_sw _ _ _))).trans (List.Perm.of_eq (List.append_assoc _ _ _).symm)).symm hD
    refine lv_aload_n hx hb dX7_keep_24 rfl (lv_at hl 0 rfl) ?_
    refine va_get (D := G.1) (ci := 6) (v := .ref (od 2)) (C := RX7) (T := TX7) (N := 9) hx hb hts inA7 hown hX.1 hP 0 rfl rfl 8 (by decide) (hts _ kw_202) (fun _ h9 => h9) rfl dX7_keep_25 ?_
    refine lv_iload_n hx hb dX7_keep_28 rfl (lv_at hl 1 rfl) ?_
    refine lv_iconst (v := (nI 1)) hx hb dX7_keep_29 (by decide) ?_
    refine nv_zast (f := kp) (k := 0) (v := (nI 1)) hx hb hX hP hD hS 2 rfl (by decide) (by decide) (by decide) dX7_keep_30 (fun H locs hP hD hS => ?_)
    have hP : va_P G.1 vwCl (obw G od (td 0) (nn 0) (dd 0) (pd 0) bo (wd 0) (sd 0) (e0 0) (e1 0) (upd kp 0 (nI 1)) ++ (tkw G nn a r ++ (tkw G e0 a r))) H := hP
    have hD : va_D A (obw G od (td 0) (nn 0) (dd 0) (pd 0) bo (wd 0) (sd 0) (e0 0) (e1 0) (upd kp 0 (nI 1)) ++ (tkw G nn a r ++ (tkw G e0 a r))) := hD
    refine lv_aload_n hx hb dX7_keep_31 rfl (lv_at hl 0 rfl) ?_
    refine va_get (D := G.1) (ci := 6) (v := .ref (nn 0)) (C := RX7) (T := TX7) (N := 9) hx hb hts inA7 hown hX.1 hP 0 rfl rfl 1 (by decide) (hts _ kw_195) (fun _ h9 => h9) rfl dX7_keep_32 ?_
    refine va_get (D := G.1) (ci := 3) (v := .int (nI (a 7))) (C := RX4) (T := TX4) (N := 12) hx hb hts inA4 hown hX.1 hP 3 rfl rfl 7 (by decide) (hts _ kw_95) (fun _ h9 => h9) rfl dX7_keep_35 ?_
    refine ca_Si (rest := []) (wr := obw G od (td 0) (nn 0) (dd 0) (pd 0) bo (wd 0) (sd 0) (e0 0) (e1 0) (upd kp 0 (nI 1)) ++ (tkw G nn a r ++ (tkw G e0 a r))) F hX (mJ6_bitCount_0f7a4 l G (a 7) (by omega)) (cA_S hts kw_503 kw_16 kw_544 kw_502 hdJ6_bitCount_0f7a4 ⟨Nat.le_of_ble_eq_true rfl, Nat.le_of_ble_eq_true rfl⟩) rfl hl.1 rfl (Nat.le_of_ble_eq_true rfl) dX7_keep_38 ⟨Nat.le_of_ble_eq_true rfl, Nat.le_of_ble_eq_true rfl⟩ hP hD hS hA (List.Perm.refl _) (fun r38 u38 H locs hp38 hP hD hS => ?_)
    have hP : va_P G.1 vwCl (obw G od (td 0) (nn 0) (dd 0) (pd 0) bo (wd 0) (sd 0) (e0 0) (e1 0) (upd kp 0 (nI 1)) ++ (tkw G nn a r ++ (tkw G e0 a r))) H := hP
    have hD : va_D A (obw G od (td 0) (nn 0) (dd 0) (pd 0) bo (wd 0) (sd 0) (e0 0) (e1 0) (upd kp 0 (nI 1)) ++ (tkw G nn a r ++ (tkw G e0 a r))) := hD
    subst hp38
    exact re_i (v := (nI (bts (a 7) 12))) hx hb hr hlocks hS () hP hD rfl dX7_keep_41
  · exact absurd c6 (by decide)

set_option maxHeartbeats 4000000 in
set_option maxRecDepth 100000 in
theorem mX7_back_state_0 (l : Launch) (G : GG) (od td nn dd pd : Nat → Nat) (bo : Nat) (wd sd e0 e1 : Nat → Nat) (kp : Nat → Int32) (hkp : kp 0 = nI 0) : Mi l yX7_back cX7_back 2 (some .int) (rmN 0 0) G [.ref (od 0), .int (nI 0)] (obw G od (td 0) (nn 0) (dd 0) (pd 0) bo (wd 0) (sd 0) (e0 0) (e1 0) kp) (fun (r9 : Int32) (_ : Unit) => r9 = (-2)) (fun (_ : Unit) => obw G od (td 0) (nn 0) (dd 0) (pd 0) bo (wd 0) (sd 0) (e0 0) (e1 0) kp) := by
  refine Mi.of (cc := cX7_back) (nL := 2) (by decide) (Nat.le_of_ble_eq_true rfl) ?_
  intro p e s m below meth c A ls F hr hlocks hnm hX hA hD hP hS hl
  have F : CallFix p m c cX7_back 2 s [.ref (od 0), .int (nI 0)].toArray wA RX7 := F
  obtain ⟨hx, hb, hml, hown, hts⟩ := id F
  have hl : lv_has ls 2 [(0, .ref (od 0)), (1, .int (nI 0))] := hl
  refine lv_iload_n hx hb dX7_back_0 rfl (lv_at hl 1 rfl) ?_
  refine nv_zlt (x := 0) (tgt := 9) hx hb dX7_back_1 (by decide) (by omega) ?_
  refine lv_iload_n hx hb dX7_back_4 rfl (lv_at hl 1 rfl) ?_
  refine lv_iconst (v := (nI 2)) hx hb dX7_back_5 (by decide) ?_
  refine nv_lt (x := 0) (y := 2) (tgt := 11) hx hb dX7_back_6 (by decide) (by decide) (by decide) (fun c6 => ?_) (fun c6 => ?_)
  · refine lv_aload_n hx hb dX7_back_11 rfl (lv_at hl 0 rfl) ?_
    refine va_get (D := G.1) (ci := 6) (v := .ref (od 2)) (C := RX7) (T := TX7) (N := 9) hx hb hts inA7 hown hX.1 hP 0 rfl rfl 8 (by decide) (hts _ kw_202) (fun _ h9 => h9) rfl dX7_back_12 ?_
    refine lv_iload_n hx hb dX7_back_15 rfl (lv_at hl 1 rfl) ?_
    refine va_zald (f := kp) hx hb hX.1 hP 2 1 rfl rfl (vp_in_nI (n := 0) (N := 2) (by decide) (by decide)) dX7_back_16 ?_
    refine ti (y := (kp 0)) (by rw [nI_clamp (by omega)]) ?_
    refine ti (y := (nI 0)) hkp ?_
    refine nv_zne (x := 0) (tgt := 23) hx hb dX7_back_17 (by decide) (by decide) (fun h9 => absurd h9 (by decide)) (fun _ => ?_)
    refine lv_bipush (v := (-2)) hx hb dX7_back_20 (by decide) ?_
    exact re_i (v := (-2)) hx hb hr hlocks hS () hP hD rfl dX7_back_22
  · exact absurd c6 (by decide)

set_option maxHeartbeats 4000000 in
set_option maxRecDepth 100000 in
theorem mX7_back_ok_0 (l : Launch) (G : GG) (od td nn dd pd : Nat → Nat) (bo : Nat) (wd sd e0 e1 : Nat → Nat) (kp : Nat → Int32) (a : Nat → Nat) (r : Nat → Nat → Nat) (ia0 : Nat → Nat) (ir0 : Nat → Nat → Nat) (sz nx : Nat) (ads as : Nat → Nat → Nat) (rs : Nat → Nat → Nat → Nat) (hT : TB ia0 ir0) (hkp : kp 0 = nI 1) : Mi l yX7_back cX7_back 2 (some .int) (rmN 2 47) G [.ref (od 0), .int (nI 0)] (obw G od (td 0) (nn 0) (dd 0) (pd 0) bo (wd 0) (sd 0) (e0 0) (e1 0) kp ++ (tkw G nn a r ++ (tkw G e0 ia0 ir0 ++ (paw G pd sz nx ads as rs)))) (fun (r9 : Int32) (_ : Unit) => r9 = (nI (bts (ia0 7) 12))) (fun (_ : Unit) => obw G od (td 0) (nn 0) (dd 0) (pd 0) bo (wd 0) (sd 0) (e0 0) (e1 0) kp ++ (tkw G nn ia0 ir0 ++ (tkw G e0 ia0 ir0 ++ (paw G pd 0 nx ads as rs)))) := by
  refine Mi.of (cc := cX7_back) (nL := 2) (by decide) (Nat.le_of_ble_eq_true rfl) ?_
  intro p e s m below meth c A ls F hr hlocks hnm hX hA hD hP hS hl
  have F : CallFix p m c cX7_back 2 s [.ref (od 0), .int (nI 0)].toArray wA RX7 := F
  obtain ⟨hx, hb, hml, hown, hts⟩ := id F
  have hl : lv_has ls 2 [(0, .ref (od 0)), (1, .int (nI 0))] := hl
  obtain ⟨t0, t1, t2, t3, t4, t5, t6, t7, t8, t9, t10, t11, t12⟩ := id hT
  refine lv_iload_n hx hb dX7_back_0 rfl (lv_at hl 1 rfl) ?_
  refine nv_zlt (x := 0) (tgt := 9) hx hb dX7_back_1 (by decide) (by omega) ?_
  refine lv_iload_n hx hb dX7_back_4 rfl (lv_at hl 1 rfl) ?_
  refine lv_iconst (v := (nI 2)) hx hb dX7_back_5 (by decide) ?_
  refine nv_lt (x := 0) (y := 2) (tgt := 11) hx hb dX7_back_6 (by decide) (by decide) (by decide) (fun c6 => ?_) (fun c6 => ?_)
  · refine lv_aload_n hx hb dX7_back_11 rfl (lv_at hl 0 rfl) ?_
    refine va_get (D := G.1) (ci := 6) (v := .ref (od 2)) (C := RX7) (T := TX7) (N := 9) hx hb hts inA7 hown hX.1 hP 0 rfl rfl 8 (by decide) (hts _ kw_202) (fun _ h9 => h9) rfl dX7_back_12 ?_
    refine lv_iload_n hx hb dX7_back_15 rfl (lv_at hl 1 rfl) ?_
    refine va_zald (f := kp) hx hb hX.1 hP 2 1 rfl rfl (vp_in_nI (n := 0) (N := 2) (by decide) (by decide)) dX7_back_16 ?_
    refine ti (y := (kp 0)) (by rw [nI_clamp (by omega)]) ?_
    refine ti (y := (nI 1)) hkp ?_
    refine nv_zne (x := 1) (tgt := 23) hx hb dX7_back_17 (by decide) (by decide) (fun _ => ?_) (fun h9 => absurd h9 (by decide))
    refine lv_aload_n hx hb dX7_back_23 rfl (lv_at hl 0 rfl) ?_
    refine va_get (D := G.1) (ci := 6) (v := .ref (nn 0)) (C := RX7) (T := TX7) (N := 9) hx hb hts inA7 hown hX.1 hP 0 rfl rfl 1 (by decide) (hts _ kw_195) (fun _ h9 => h9) rfl dX7_back_24 ?_
    refine lv_aload_n hx hb dX7_back_27 rfl (lv_at hl 0 rfl) ?_
    refine va_get (D := G.1) (ci := 6) (v := .ref (od 1)) (C := RX7) (T := TX7) (N := 9) hx hb hts inA7 hown hX.1 hP 0 rfl rfl 7 (by decide) (hts _ kw_201) (fun _ h9 => h9) rfl dX7_back_28 ?_
    refine lv_iload_n hx hb dX7_back_31 rfl (lv_at hl 1 rfl) ?_
    refine nv_aldT (f := (fun k => if k = 0 then some (e0 0) else some (e1 0))) (k := 0) (x := e0 0) hx hb hX hP 1 rfl (by decide) (by decide) rfl dX7_back_32 ?_
    refine ca_Vv (ci := 3) (q := (RX4, TX4, 12)) (rest := []) (wr := obw G od (td 0) (nn 0) (dd 0) (pd 0) bo (wd 0) (sd 0) (e0 0) (e1 0) kp ++ (paw G pd sz nx ads as rs)) F hX (mX4_become l G nn a r e0 ia0 ir0) (cA_V hts kw_373 kw_3 kw_380 kw_371 kw_372 hdX4_become ⟨Nat.le_of_ble_eq_true rfl, Nat.le_of_ble_eq_true rfl⟩) rfl rfl rfl hl.1 rfl (Nat.le_of_ble_eq_true rfl) dX7_back_33 ⟨Nat.le_of_ble_eq_true rfl, Nat.le_of_ble_eq_true rfl⟩ hP hD hS hA ((((List.Perm.append_left _ (pm_sw _ _ _)).trans (pm_sw _ _ _)).trans ((List.Perm.append_left _ (pm_sw _ _ _)).trans (pm_sw _ _ _))).trans (List.Perm.of_eq (List.append_assoc _ _ _).symm)) (fun u33 H locs hp33 hP hD hS => ?_)
    have hP : va_P G.1 vwCl (obw G od (td 0) (nn 0) (dd 0) (pd 0) bo (wd 0) (sd 0) (e0 0) (e1 0) kp ++ (tkw G nn ia0 ir0 ++ (tkw G e0 ia0 ir0 ++ (paw G pd sz nx ads as rs)))) H := wp_pm ((((List.Perm.append_left _ (pm_sw _ _ _)).trans (pm_sw _ _ _)).trans ((List.Perm.append_left _ (pm_sw _ _ _)).trans (pm_sw _ _ _))).trans (List.Perm.of_eq (List.append_assoc _ _ _).symm)).symm hP
    have hD : va_D A (obw G od (td 0) (nn 0) (dd 0) (pd 0) bo (wd 0) (sd 0) (e0 0) (e1 0) kp ++ (tkw G nn ia0 ir0 ++ (tkw G e0 ia0 ir0 ++ (paw G pd sz nx ads as rs)))) := wd_pm ((((List.Perm.append_left _ (pm_sw _ _ _)).trans (pm_sw _ _ _)).trans ((List.Perm.append_left _ (pm_sw _ _ _)).trans (pm_sw _ _ _))).trans (List.Perm.of_eq (List.append_assoc _ _ _).symm)).symm hD
    refine lv_aload_n hx hb dX7_back_36 rfl (lv_at hl 0 rfl) ?_
    refine va_get (D := G.1) (ci := 6) (v := .ref (pd 0)) (C := RX7) (T := TX7) (N := 9) hx hb hts inA7 hown hX.1 hP 0 rfl rfl 3 (by decide) (hts _ kw_197) (fun _ h9 => h9) rfl dX7_back_37 ?_
    refine ca_Vv (ci := 1) (q := (RX2, TX2, 3)) (rest := []) (wr := obw G od (td 0) (nn 0) (dd 0) (pd 0) bo (wd 0) (sd 0) (e0 0) (e1 0) kp ++ (tkw G nn ia0 ir0 ++ (tkw G e0 ia0 ir0))) F hX (mX2_drop l G pd sz nx ads as rs ) (cA_V hts kw_669 kw_4 kw_666 kw_667 kw_668 hdX2_drop ⟨Nat.le_of_ble_eq_true rfl, Nat.le_of_ble_eq_true rfl⟩) rfl rfl rfl hl.1 rfl (Nat.le_of_ble_eq_true rfl) dX7_back_40 ⟨Nat.le_of_ble_eq_true rfl, Nat.le_of_ble_eq_true rfl⟩ hP hD hS hA ((List.Perm.append_left _ ((List.Perm.append_left _ (List.perm_append_comm)).trans (pm_sw _ _ _))).trans (pm_sw _ _ _)) (fun u40 H locs hp40 hP hD hS => ?_)
    have hP : va_P G.1 vwCl (obw G od (td 0) (nn 0) (dd 0) (pd 0) bo (wd 0) (sd 0) (e0 0) (e1 0) kp ++ (tkw G nn ia0 ir0 ++ (tkw G e0 ia0 ir0 ++ (paw G pd 0 nx ads as rs)))) H := wp_pm ((List.Perm.append_left _ ((List.Perm.append_left _ (List.perm_append_comm)).trans (pm_sw _ _ _))).trans (pm_sw _ _ _)).symm hP
    have hD : va_D A (obw G od (td 0) (nn 0) (dd 0) (pd 0) bo (wd 0) (sd 0) (e0 0) (e1 0) kp ++ (tkw G nn ia0 ir0 ++ (tkw G e0 ia0 ir0 ++ (paw G pd 0 nx ads as rs)))) := wd_pm ((List.Perm.append_left _ ((List.Perm.append_left _ (List.perm_append_comm)).trans (pm_sw _ _ _))).trans (pm_sw _ _ _)).symm hD
    refine lv_aload_n hx hb dX7_back_43 rfl (lv_at hl 0 rfl) ?_
    refine va_get (D := G.1) (ci := 6) (v := .ref (nn 0)) (C := RX7) (T := TX7) (N := 9) hx hb hts inA7 hown hX.1 hP 0 rfl rfl 1 (by decide) (hts _ kw_195) (fun _ h9 => h9) rfl dX7_back_44 ?_
    refine va_get (D := G.1) (ci := 3) (v := .int (nI (ia0 7))) (C := RX4) (T := TX4) (N := 12) hx hb hts inA4 hown hX.1 hP 3 rfl rfl 7 (by decide) (hts _ kw_95) (fun _ h9 => h9) rfl dX7_back_47 ?_
    refine ca_Si (rest := []) (wr := obw G od (td 0) (nn 0) (dd 0) (pd 0) bo (wd 0) (sd 0) (e0 0) (e1 0) kp ++ (tkw G nn ia0 ir0 ++ (tkw G e0 ia0 ir0 ++ (paw G pd 0 nx ads as rs)))) F hX (mJ6_bitCount_0f7a4 l G (ia0 7) (by omega)) (cA_S hts kw_503 kw_16 kw_544 kw_502 hdJ6_bitCount_0f7a4 ⟨Nat.le_of_ble_eq_true rfl, Nat.le_of_ble_eq_true rfl⟩) rfl hl.1 rfl (Nat.le_of_ble_eq_true rfl) dX7_back_50 ⟨Nat.le_of_ble_eq_true rfl, Nat.le_of_ble_eq_true rfl⟩ hP hD hS hA (List.Perm.refl _) (fun r50 u50 H locs hp50 hP hD hS => ?_)
    have hP : va_P G.1 vwCl (obw G od (td 0) (nn 0) (dd 0) (pd 0) bo (wd 0) (sd 0) (e0 0) (e1 0) kp ++ (tkw G nn ia0 ir0 ++ (tkw G e0 ia0 ir0 ++ (paw G pd 0 nx ads as rs)))) H := hP
    have hD : va_D A (obw G od (td 0) (nn 0) (dd 0) (pd 0) bo (wd 0) (sd 0) (e0 0) (e1 0) kp ++ (tkw G nn ia0 ir0 ++ (tkw G e0 ia0 ir0 ++ (paw G pd 0 nx ads as rs)))) := hD
    subst hp50
    exact re_i (v := (nI (bts (ia0 7) 12))) hx hb hr hlocks hS () hP hD rfl dX7_back_53
  · exact absurd c6 (by decide)

set_option maxHeartbeats 4000000 in
set_option maxRecDepth 100000 in
theorem mX7_keep_1 (l : Launch) (G : GG) (od td nn dd pd : Nat → Nat) (bo : Nat) (wd sd e0 e1 : Nat → Nat) (kp : Nat → Int32) (a : Nat → Nat) (r : Nat → Nat → Nat) (ia1 : Nat → Nat) (ir1 : Nat → Nat → Nat) (hT : TB a r) : Mi l yX7_keep cX7_keep 2 (some .int) (rmN 2 47) G [.ref (od 0), .int (nI 1)] (obw G od (td 0) (nn 0) (dd 0) (pd 0) bo (wd 0) (sd 0) (e0 0) (e1 0) kp ++ (tkw G nn a r ++ (tkw G e1 ia1 ir1))) (fun (r9 : Int32) (_ : Unit) => r9 = (nI (bts (a 7) 12))) (fun (_ : Unit) => obw G od (td 0) (nn 0) (dd 0) (pd 0) bo (wd 0) (sd 0) (e0 0) (e1 0) (upd kp 1 (nI 1)) ++ (tkw G nn a r ++ (tkw G e1 a r))) := by
  refine Mi.of (cc := cX7_keep) (nL := 2) (by decide) (Nat.le_of_ble_eq_true rfl) ?_
  intro p e s m below meth c A ls F hr hlocks hnm hX hA hD hP hS hl
  have F : CallFix p m c cX7_keep 2 s [.ref (od 0), .int (nI 1)].toArray wA RX7 := F
  obtain ⟨hx, hb, hml, hown, hts⟩ := id F
  have hl : lv_has ls 2 [(0, .ref (od 0)), (1, .int (nI 1))] := hl
  obtain ⟨t0, t1, t2, t3, t4, t5, t6, t7, t8, t9, t10, t11, t12⟩ := id hT
  refine lv_iload_n hx hb dX7_keep_0 rfl (lv_at hl 1 rfl) ?_
  refine nv_zlt (x := 1) (tgt := 9) hx hb dX7_keep_1 (by decide) (by omega) ?_
  refine lv_iload_n hx hb dX7_keep_4 rfl (lv_at hl 1 rfl) ?_
  refine lv_iconst (v := (nI 2)) hx hb dX7_keep_5 (by decide) ?_
  refine nv_lt (x := 1) (y := 2) (tgt := 11) hx hb dX7_keep_6 (by decide) (by decide) (by decide) (fun c6 => ?_) (fun c6 => ?_)
  · refine lv_aload_n hx hb dX7_keep_11 rfl (lv_at hl 0 rfl) ?_
    refine va_get (D := G.1) (ci := 6) (v := .ref (od 1)) (C := RX7) (T := TX7) (N := 9) hx hb hts inA7 hown hX.1 hP 0 rfl rfl 7 (by decide) (hts _ kw_201) (fun _ h9 => h9) rfl dX7_keep_12 ?_
    refine lv_iload_n hx hb dX7_keep_15 rfl (lv_at hl 1 rfl) ?_
    refine nv_aldT (f := (fun k => if k = 0 then some (e0 0) else some (e1 0))) (k := 1) (x := e1 0) hx hb hX hP 1 rfl (by decide) (by decide) rfl dX7_keep_16 ?_
    refine lv_aload_n hx hb dX7_keep_17 rfl (lv_at hl 0 rfl) ?_
    refine va_get (D := G.1) (ci := 6) (v := .ref (nn 0)) (C := RX7) (T := TX7) (N := 9) hx hb hts inA7 hown hX.1 hP 0 rfl rfl 1 (by decide) (hts _ kw_195) (fun _ h9 => h9) rfl dX7_keep_18 ?_
    refine ca_Vv (ci := 3) (q := (RX4, TX4, 12)) (rest := []) (wr := obw G od (td 0) (nn 0) (dd 0) (pd 0) bo (wd 0) (sd 0) (e0 0) (e1 0) kp) F hX (mX4_become l G e1 ia1 ir1 nn a r) (cA_V hts kw_373 kw_3 kw_380 kw_371 kw_372 hdX4_become ⟨Nat.le_of_ble_eq_true rfl, Nat.le_of_ble_eq_true rfl⟩) rfl rfl rfl hl.1 rfl (Nat.le_of_ble_eq_true rfl) dX7_keep_21 ⟨Nat.le_of_ble_eq_true rfl, Nat.le_of_ble_eq_true rfl⟩ hP hD hS hA (((pm_sw _ _ _).trans ((List.Perm.append_left _ (List.perm_append_comm)).trans (pm_sw _ _ _))).trans (List.Perm.of_eq (List.append_assoc _ _ _).symm)) (fun u21 H locs hp21 hP hD hS => ?_)
    have hP : va_P G.1 vwCl (obw G od (td 0) (nn 0) (dd 0) (pd 0) bo (wd 0) (sd 0) (e0 0) (e1 0) kp ++ (tkw G nn a r ++ (tkw G e1 a r))) H := wp_pm (((pm_sw _ _ _).trans ((List.Perm.append_left _ (List.perm_append_comm)).trans (pm_sw _ _ _))).trans (List.Perm.of_eq (List.append_assoc _ _ _).symm)).symm hP
    have hD : va_D A (obw G od (td 0) (nn 0) (dd 0) (pd 0) bo (wd 0) (sd 0) (e0 0) (e1 0) kp ++ (tkw G nn a r ++ (tkw G e1 a r))) := wd_pm (((pm_sw _ _ _).trans ((List.Perm.append_left _ (List.perm_append_comm)).trans (pm_sw _ _ _))).trans (List.Perm.of_eq (List.append_assoc _ _ _).symm)).symm hD
    refine lv_aload_n hx hb dX7_keep_24 rfl (lv_at hl 0 rfl) ?_
    refine va_get (D := G.1) (ci := 6) (v := .ref (od 2)) (C := RX7) (T := TX7) (N := 9) hx hb hts inA7 hown hX.1 hP 0 rfl rfl 8 (by decide) (hts _ kw_202) (fun _ h9 => h9) rfl dX7_keep_25 ?_
    refine lv_iload_n hx hb dX7_keep_28 rfl (lv_at hl 1 rfl) ?_
    refine lv_iconst (v := (nI 1)) hx hb dX7_keep_29 (by decide) ?_
    refine nv_zast (f := kp) (k := 1) (v := (nI 1)) hx hb hX hP hD hS 2 rfl (by decide) (by decide) (by decide) dX7_keep_30 (fun H locs hP hD hS => ?_)
    have hP : va_P G.1 vwCl (obw G od (td 0) (nn 0) (dd 0) (pd 0) bo (wd 0) (sd 0) (e0 0) (e1 0) (upd kp 1 (nI 1)) ++ (tkw G nn a r ++ (tkw G e1 a r))) H := hP
    have hD : va_D A (obw G od (td 0) (nn 0) (dd 0) (pd 0) bo (wd 0) (sd 0) (e0 0) (e1 0) (upd kp 1 (nI 1)) ++ (tkw G nn a r ++ (tkw G e1 a r))) := hD
    refine lv_aload_n hx hb dX7_keep_31 rfl (lv_at hl 0 rfl) ?_
    refine va_get (D := G.1) (ci := 6) (v := .ref (nn 0)) (C := RX7) (T := TX7) (N := 9) hx hb hts inA7 hown hX.1 hP 0 rfl rfl 1 (by decide) (hts _ kw_195) (fun _ h9 => h9) rfl dX7_keep_32 ?_
    refine va_get (D := G.1) (ci := 3) (v := .int (nI (a 7))) (C := RX4) (T := TX4) (N := 12) hx hb hts inA4 hown hX.1 hP 3 rfl rfl 7 (by decide) (hts _ kw_95) (fun _ h9 => h9) rfl dX7_keep_35 ?_
    refine ca_Si (rest := []) (wr := obw G od (td 0) (nn 0) (dd 0) (pd 0) bo (wd 0) (sd 0) (e0 0) (e1 0) (upd kp 1 (nI 1)) ++ (tkw G nn a r ++ (tkw G e1 a r))) F hX (mJ6_bitCount_0f7a4 l G (a 7) (by omega)) (cA_S hts kw_503 kw_16 kw_544 kw_502 hdJ6_bitCount_0f7a4 ⟨Nat.le_of_ble_eq_true rfl, Nat.le_of_ble_eq_true rfl⟩) rfl hl.1 rfl (Nat.le_of_ble_eq_true rfl) dX7_keep_38 ⟨Nat.le_of_ble_eq_true rfl, Nat.le_of_ble_eq_true rfl⟩ hP hD hS hA (List.Perm.refl _) (fun r38 u38 H locs hp38 hP hD hS => ?_)
    have hP : va_P G.1 vwCl (obw G od (td 0) (nn 0) (dd 0) (pd 0) bo (wd 0) (sd 0) (e0 0) (e1 0) (upd kp 1 (nI 1)) ++ (tkw G nn a r ++ (tkw G e1 a r))) H := hP
    have hD : va_D A (obw G od (td 0) (nn 0) (dd 0) (pd 0) bo (wd 0) (sd 0) (e0 0) (e1 0) (upd kp 1 (nI 1)) ++ (tkw G nn a r ++ (tkw G e1 a r))) := hD
    subst hp38
    exact re_i (v := (nI (bts (a 7) 12))) hx hb hr hlocks hS () hP hD rfl dX7_keep_41
  · exact absurd c6 (by decide)

set_option maxHeartbeats 4000000 in
set_option maxRecDepth 100000 in
theorem mX7_back_state_1 (l : Launch) (G : GG) (od td nn dd pd : Nat → Nat) (bo : Nat) (wd sd e0 e1 : Nat → Nat) (kp : Nat → Int32) (hkp : kp 1 = nI 0) : Mi l yX7_back cX7_back 2 (some .int) (rmN 0 0) G [.ref (od 0), .int (nI 1)] (obw G od (td 0) (nn 0) (dd 0) (pd 0) bo (wd 0) (sd 0) (e0 0) (e1 0) kp) (fun (r9 : Int32) (_ : Unit) => r9 = (-2)) (fun (_ : Unit) => obw G od (td 0) (nn 0) (dd 0) (pd 0) bo (wd 0) (sd 0) (e0 0) (e1 0) kp) := by
  refine Mi.of (cc := cX7_back) (nL := 2) (by decide) (Nat.le_of_ble_eq_true rfl) ?_
  intro p e s m below meth c A ls F hr hlocks hnm hX hA hD hP hS hl
  have F : CallFix p m c cX7_back 2 s [.ref (od 0), .int (nI 1)].toArray wA RX7 := F
  obtain ⟨hx, hb, hml, hown, hts⟩ := id F
  have hl : lv_has ls 2 [(0, .ref (od 0)), (1, .int (nI 1))] := hl
  refine lv_iload_n hx hb dX7_back_0 rfl (lv_at hl 1 rfl) ?_
  refine nv_zlt (x := 1) (tgt := 9) hx hb dX7_back_1 (by decide) (by omega) ?_
  refine lv_iload_n hx hb dX7_back_4 rfl (lv_at hl 1 rfl) ?_
  refine lv_iconst (v := (nI 2)) hx hb dX7_back_5 (by decide) ?_
  refine nv_lt (x := 1) (y := 2) (tgt := 11) hx hb dX7_back_6 (by decide) (by decide) (by decide) (fun c6 => ?_) (fun c6 => ?_)
  · refine lv_aload_n hx hb dX7_back_11 rfl (lv_at hl 0 rfl) ?_
    refine va_get (D := G.1) (ci := 6) (v := .ref (od 2)) (C := RX7) (T := TX7) (N := 9) hx hb hts inA7 hown hX.1 hP 0 rfl rfl 8 (by decide) (hts _ kw_202) (fun _ h9 => h9) rfl dX7_back_12 ?_
    refine lv_iload_n hx hb dX7_back_15 rfl (lv_at hl 1 rfl) ?_
    refine va_zald (f := kp) hx hb hX.1 hP 2 1 rfl rfl (vp_in_nI (n := 1) (N := 2) (by decide) (by decide)) dX7_back_16 ?_
    refine ti (y := (kp 1)) (by rw [nI_clamp (by omega)]) ?_
    refine ti (y := (nI 0)) hkp ?_
    refine nv_zne (x := 0) (tgt := 23) hx hb dX7_back_17 (by decide) (by decide) (fun h9 => absurd h9 (by decide)) (fun _ => ?_)
    refine lv_bipush (v := (-2)) hx hb dX7_back_20 (by decide) ?_
    exact re_i (v := (-2)) hx hb hr hlocks hS () hP hD rfl dX7_back_22
  · exact absurd c6 (by decide)

set_option maxHeartbeats 4000000 in
set_option maxRecDepth 100000 in
theorem mX7_back_ok_1 (l : Launch) (G : GG) (od td nn dd pd : Nat → Nat) (bo : Nat) (wd sd e0 e1 : Nat → Nat) (kp : Nat → Int32) (a : Nat → Nat) (r : Nat → Nat → Nat) (ia1 : Nat → Nat) (ir1 : Nat → Nat → Nat) (sz nx : Nat) (ads as : Nat → Nat → Nat) (rs : Nat → Nat → Nat → Nat) (hT : TB ia1 ir1) (hkp : kp 1 = nI 1) : Mi l yX7_back cX7_back 2 (some .int) (rmN 2 47) G [.ref (od 0), .int (nI 1)] (obw G od (td 0) (nn 0) (dd 0) (pd 0) bo (wd 0) (sd 0) (e0 0) (e1 0) kp ++ (tkw G nn a r ++ (tkw G e1 ia1 ir1 ++ (paw G pd sz nx ads as rs)))) (fun (r9 : Int32) (_ : Unit) => r9 = (nI (bts (ia1 7) 12))) (fun (_ : Unit) => obw G od (td 0) (nn 0) (dd 0) (pd 0) bo (wd 0) (sd 0) (e0 0) (e1 0) kp ++ (tkw G nn ia1 ir1 ++ (tkw G e1 ia1 ir1 ++ (paw G pd 0 nx ads as rs)))) := by
  refine Mi.of (cc := cX7_back) (nL := 2) (by decide) (Nat.le_of_ble_eq_true rfl) ?_
  intro p e s m below meth c A ls F hr hlocks hnm hX hA hD hP hS hl
  have F : CallFix p m c cX7_back 2 s [.ref (od 0), .int (nI 1)].toArray wA RX7 := F
  obtain ⟨hx, hb, hml, hown, hts⟩ := id F
  have hl : lv_has ls 2 [(0, .ref (od 0)), (1, .int (nI 1))] := hl
  obtain ⟨t0, t1, t2, t3, t4, t5, t6, t7, t8, t9, t10, t11, t12⟩ := id hT
  refine lv_iload_n hx hb dX7_back_0 rfl (lv_at hl 1 rfl) ?_
  refine nv_zlt (x := 1) (tgt := 9) hx hb dX7_back_1 (by decide) (by omega) ?_
  refine lv_iload_n hx hb dX7_back_4 rfl (lv_at hl 1 rfl) ?_
  refine lv_iconst (v := (nI 2)) hx hb dX7_back_5 (by decide) ?_
  refine nv_lt (x := 1) (y := 2) (tgt := 11) hx hb dX7_back_6 (by decide) (by decide) (by decide) (fun c6 => ?_) (fun c6 => ?_)
  · refine lv_aload_n hx hb dX7_back_11 rfl (lv_at hl 0 rfl) ?_
    refine va_get (D := G.1) (ci := 6) (v := .ref (od 2)) (C := RX7) (T := TX7) (N := 9) hx hb hts inA7 hown hX.1 hP 0 rfl rfl 8 (by decide) (hts _ kw_202) (fun _ h9 => h9) rfl dX7_back_12 ?_
    refine lv_iload_n hx hb dX7_back_15 rfl (lv_at hl 1 rfl) ?_
    refine va_zald (f := kp) hx hb hX.1 hP 2 1 rfl rfl (vp_in_nI (n := 1) (N := 2) (by decide) (by decide)) dX7_back_16 ?_
    refine ti (y := (kp 1)) (by rw [nI_clamp (by omega)]) ?_
    refine ti (y := (nI 1)) hkp ?_
    refine nv_zne (x := 1) (tgt := 23) hx hb dX7_back_17 (by decide) (by decide) (fun _ => ?_) (fun h9 => absurd h9 (by decide))
    refine lv_aload_n hx hb dX7_back_23 rfl (lv_at hl 0 rfl) ?_
    refine va_get (D := G.1) (ci := 6) (v := .ref (nn 0)) (C := RX7) (T := TX7) (N := 9) hx hb hts inA7 hown hX.1 hP 0 rfl rfl 1 (by decide) (hts _ kw_195) (fun _ h9 => h9) rfl dX7_back_24 ?_
    refine lv_aload_n hx hb dX7_back_27 rfl (lv_at hl 0 rfl) ?_
    refine va_get (D := G.1) (ci := 6) (v := .ref (od 1)) (C := RX7) (T := TX7) (N := 9) hx hb hts inA7 hown hX.1 hP 0 rfl rfl 7 (by decide) (hts _ kw_201) (fun _ h9 => h9) rfl dX7_back_28 ?_
    refine lv_iload_n hx hb dX7_back_31 rfl (lv_at hl 1 rfl) ?_
    refine nv_aldT (f := (fun k => if k = 0 then some (e0 0) else some (e1 0))) (k := 1) (x := e1 0) hx hb hX hP 1 rfl (by decide) (by decide) rfl dX7_back_32 ?_
    refine ca_Vv (ci := 3) (q := (RX4, TX4, 12)) (rest := []) (wr := obw G od (td 0) (nn 0) (dd 0) (pd 0) bo (wd 0) (sd 0) (e0 0) (e1 0) kp ++ (paw G pd sz nx ads as rs)) F hX (mX4_become l G nn a r e1 ia1 ir1) (cA_V hts kw_373 kw_3 kw_380 kw_371 kw_372 hdX4_become ⟨Nat.le_of_ble_eq_true rfl, Nat.le_of_ble_eq_true rfl⟩) rfl rfl rfl hl.1 rfl (Nat.le_of_ble_eq_true rfl) dX7_back_33 ⟨Nat.le_of_ble_eq_true rfl, Nat.le_of_ble_eq_true rfl⟩ hP hD hS hA ((((List.Perm.append_left _ (pm_sw _ _ _)).trans (pm_sw _ _ _)).trans ((List.Perm.append_left _ (pm_sw _ _ _)).trans (pm_sw _ _ _))).trans (List.Perm.of_eq (List.append_assoc _ _ _).symm)) (fun u33 H locs hp33 hP hD hS => ?_)
    have hP : va_P G.1 vwCl (obw G od (td 0) (nn 0) (dd 0) (pd 0) bo (wd 0) (sd 0) (e0 0) (e1 0) kp ++ (tkw G nn ia1 ir1 ++ (tkw G e1 ia1 ir1 ++ (paw G pd sz nx ads as rs)))) H := wp_pm ((((List.Perm.append_left _ (pm_sw _ _ _)).trans (pm_sw _ _ _)).trans ((List.Perm.append_left _ (pm_sw _ _ _)).trans (pm_sw _ _ _))).trans (List.Perm.of_eq (List.append_assoc _ _ _).symm)).symm hP
    have hD : va_D A (obw G od (td 0) (nn 0) (dd 0) (pd 0) bo (wd 0) (sd 0) (e0 0) (e1 0) kp ++ (tkw G nn ia1 ir1 ++ (tkw G e1 ia1 ir1 ++ (paw G pd sz nx ads as rs)))) := wd_pm ((((List.Perm.append_left _ (pm_sw _ _ _)).trans (pm_sw _ _ _)).trans ((List.Perm.append_left _ (pm_sw _ _ _)).trans (pm_sw _ _ _))).trans (List.Perm.of_eq (List.append_assoc _ _ _).symm)).symm hD
    refine lv_aload_n hx hb dX7_back_36 rfl (lv_at hl 0 rfl) ?_
    refine va_get (D := G.1) (ci := 6) (v := .ref (pd 0)) (C := RX7) (T := TX7) (N := 9) hx hb hts inA7 hown hX.1 hP 0 rfl rfl 3 (by decide) (hts _ kw_197) (fun _ h9 => h9) rfl dX7_back_37 ?_
    refine ca_Vv (ci := 1) (q := (RX2, TX2, 3)) (rest := []) (wr := obw G od (td 0) (nn 0) (dd 0) (pd 0) bo (wd 0) (sd 0) (e0 0) (e1 0) kp ++ (tkw G nn ia1 ir1 ++ (tkw G e1 ia1 ir1))) F hX (mX2_drop l G pd sz nx ads as rs ) (cA_V hts kw_669 kw_4 kw_666 kw_667 kw_668 hdX2_drop ⟨Nat.le_of_ble_eq_true rfl, Nat.le_of_ble_eq_true rfl⟩) rfl rfl rfl hl.1 rfl (Nat.le_of_ble_eq_true rfl) dX7_back_40 ⟨Nat.le_of_ble_eq_true rfl, Nat.le_of_ble_eq_true rfl⟩ hP hD hS hA ((List.Perm.append_left _ ((List.Perm.append_left _ (List.perm_append_comm)).trans (pm_sw _ _ _))).trans (pm_sw _ _ _)) (fun u40 H locs hp40 hP hD hS => ?_)
    have hP : va_P G.1 vwCl (obw G od (td 0) (nn 0) (dd 0) (pd 0) bo (wd 0) (sd 0) (e0 0) (e1 0) kp ++ (tkw G nn ia1 ir1 ++ (tkw G e1 ia1 ir1 ++ (paw G pd 0 nx ads as rs)))) H := wp_pm ((List.Perm.append_left _ ((List.Perm.append_left _ (List.perm_append_comm)).trans (pm_sw _ _ _))).trans (pm_sw _ _ _)).symm hP
    have hD : va_D A (obw G od (td 0) (nn 0) (dd 0) (pd 0) bo (wd 0) (sd 0) (e0 0) (e1 0) kp ++ (tkw G nn ia1 ir1 ++ (tkw G e1 ia1 ir1 ++ (paw G pd 0 nx ads as rs)))) := wd_pm ((List.Perm.append_left _ ((List.Perm.append_left _ (List.perm_append_comm)).trans (pm_sw _ _ _))).trans (pm_sw _ _ _)).symm hD
    refine lv_aload_n hx hb dX7_back_43 rfl (lv_at hl 0 rfl) ?_
    refine va_get (D := G.1) (ci := 6) (v := .ref (nn 0)) (C := RX7) (T := TX7) (N := 9) hx hb hts inA7 hown hX.1 hP 0 rfl rfl 1 (by decide) (hts _ kw_195) (fun _ h9 => h9) rfl dX7_back_44 ?_
    refine va_get (D := G.1) (ci := 3) (v := .int (nI (ia1 7))) (C := RX4) (T := TX4) (N := 12) hx hb hts inA4 hown hX.1 hP 3 rfl rfl 7 (by decide) (hts _ kw_95) (fun _ h9 => h9) rfl dX7_back_47 ?_
    refine ca_Si (rest := []) (wr := obw G od (td 0) (nn 0) (dd 0) (pd 0) bo (wd 0) (sd 0) (e0 0) (e1 0) kp ++ (tkw G nn ia1 ir1 ++ (tkw G e1 ia1 ir1 ++ (paw G pd 0 nx ads as rs)))) F hX (mJ6_bitCount_0f7a4 l G (ia1 7) (by omega)) (cA_S hts kw_503 kw_16 kw_544 kw_502 hdJ6_bitCount_0f7a4 ⟨Nat.le_of_ble_eq_true rfl, Nat.le_of_ble_eq_true rfl⟩) rfl hl.1 rfl (Nat.le_of_ble_eq_true rfl) dX7_back_50 ⟨Nat.le_of_ble_eq_true rfl, Nat.le_of_ble_eq_true rfl⟩ hP hD hS hA (List.Perm.refl _) (fun r50 u50 H locs hp50 hP hD hS => ?_)
    have hP : va_P G.1 vwCl (obw G od (td 0) (nn 0) (dd 0) (pd 0) bo (wd 0) (sd 0) (e0 0) (e1 0) kp ++ (tkw G nn ia1 ir1 ++ (tkw G e1 ia1 ir1 ++ (paw G pd 0 nx ads as rs)))) H := hP
    have hD : va_D A (obw G od (td 0) (nn 0) (dd 0) (pd 0) bo (wd 0) (sd 0) (e0 0) (e1 0) kp ++ (tkw G nn ia1 ir1 ++ (tkw G e1 ia1 ir1 ++ (paw G pd 0 nx ads as rs)))) := hD
    subst hp50
    exact re_i (v := (nI (bts (ia1 7) 12))) hx hb hr hlocks hS () hP hD rfl dX7_back_53
  · exact absurd c6 (by decide)

theorem hdX7_count : hdOK yX7_count 1 := by decide +kernel
set_option maxHeartbeats 4000000 in
set_option maxRecDepth 100000 in
theorem mX7_count_bad (l : Launch) (G : GG) (od td nn dd pd : Nat → Nat) (bo : Nat) (wd sd e0 e1 : Nat → Nat) (kp : Nat → Int32) (y : Int32) (hy : ¬ (0 ≤ y.toInt ∧ y.toInt ≤ 9)) : Mi l yX7_count cX7_count 2 (some .int) (rmN 0 0) G [.ref (od 0), .int y] (obw G od (td 0) (nn 0) (dd 0) (pd 0) bo (wd 0) (sd 0) (e0 0) (e1 0) kp) (fun (r9 : Int32) (_ : Unit) => r9 = (-1)) (fun (_ : Unit) => obw G od (td 0) (nn 0) (dd 0) (pd 0) bo (wd 0) (sd 0) (e0 0) (e1 0) kp) := by
  refine Mi.of (cc := cX7_count) (nL := 2) (by decide) (Nat.le_of_ble_eq_true rfl) ?_
  intro p e s m below meth c A ls F hr hlocks hnm hX hA hD hP hS hl
  have F : CallFix p m c cX7_count 2 s [.ref (od 0), .int y].toArray wA RX7 := F
  obtain ⟨hx, hb, hml, hown, hts⟩ := id F
  have hl : lv_has ls 2 [(0, .ref (od 0)), (1, .int y)] := hl
  refine lv_iload_n hx hb dX7_count_0 rfl (lv_at hl 1 rfl) ?_
  refine lv_tableOut (tgt := 142) hx hb dX7_count_1 (sw_out (n := 9) hy) (by decide) ?_
  refine lv_iconst (v := (-1)) hx hb dX7_count_142 (by decide) ?_
  exact re_i (v := (-1)) hx hb hr hlocks hS () hP hD rfl dX7_count_143

set_option maxHeartbeats 4000000 in
set_option maxRecDepth 100000 in
theorem mX7_count_0 (l : Launch) (G : GG) (od td nn dd pd : Nat → Nat) (bo : Nat) (wd sd e0 e1 : Nat → Nat) (kp : Nat → Int32) (a : Nat → Nat) (r : Nat → Nat → Nat) (hT : TB a r) : Mi l yX7_count cX7_count 2 (some .int) (rmN 0 0) G [.ref (od 0), .int (nI 0)] (obw G od (td 0) (nn 0) (dd 0) (pd 0) bo (wd 0) (sd 0) (e0 0) (e1 0) kp ++ (tkw G nn a r)) (fun (r9 : Int32) (_ : Unit) => r9 = (nI (a 0))) (fun (_ : Unit) => obw G od (td 0) (nn 0) (dd 0) (pd 0) bo (wd 0) (sd 0) (e0 0) (e1 0) kp ++ (tkw G nn a r)) := by
  refine Mi.of (cc := cX7_count) (nL := 2) (by decide) (Nat.le_of_ble_eq_true rfl) ?_
  intro p e s m below meth c A ls F hr hlocks hnm hX hA hD hP hS hl
  have F : CallFix p m c cX7_count 2 s [.ref (od 0), .int (nI 0)].toArray wA RX7 := F
  obtain ⟨hx, hb, hml, hown, hts⟩ := id F
  have hl : lv_has ls 2 [(0, .ref (od 0)), (1, .int (nI 0))] := hl
  obtain ⟨t0, t1, t2, t3, t4, t5, t6, t7, t8, t9, t10, t11, t12⟩ := id hT
  refine lv_iload_n hx hb dX7_count_0 rfl (lv_at hl 1 rfl) ?_
  refine lv_tableIn (off := 55) (tgt := 56) hx hb dX7_count_1 (by decide) (by decide) (by decide +kernel) (by decide) ?_
  refine lv_aload_n hx hb dX7_count_56 rfl (lv_at hl 0 rfl) ?_
  refine va_get (D := G.1) (ci := 6) (v := .ref (nn 0)) (C := RX7) (T := TX7) (N := 9) hx hb hts inA7 hown hX.1 hP 0 rfl rfl 1 (by decide) (hts _ kw_195) (fun _ h9 => h9) rfl dX7_count_57 ?_
  refine va_get (D := G.1) (ci := 3) (v := .int (nI (a 0))) (C := RX4) (T := TX4) (N := 12) hx hb hts inA4 hown hX.1 hP 3 rfl rfl 0 (by decide) (hts _ kw_67) (fun _ h9 => h9) rfl dX7_count_60 ?_
  exact re_i (v := (nI (a 0))) hx hb hr hlocks hS () hP hD rfl dX7_count_63

set_option maxHeartbeats 4000000 in
set_option maxRecDepth 100000 in
theorem mX7_count_1 (l : Launch) (G : GG) (od td nn dd pd : Nat → Nat) (bo : Nat) (wd sd e0 e1 : Nat → Nat) (kp : Nat → Int32) (a : Nat → Nat) (r : Nat → Nat → Nat) (hT : TB a r) : Mi l yX7_count cX7_count 2 (some .int) (rmN 0 0) G [.ref (od 0), .int (nI 1)] (obw G od (td 0) (nn 0) (dd 0) (pd 0) bo (wd 0) (sd 0) (e0 0) (e1 0) kp ++ (tkw G nn a r)) (fun (r9 : Int32) (_ : Unit) => r9 = (nI (a 3))) (fun (_ : Unit) => obw G od (td 0) (nn 0) (dd 0) (pd 0) bo (wd 0) (sd 0) (e0 0) (e1 0) kp ++ (tkw G nn a r)) := by
  refine Mi.of (cc := cX7_count) (nL := 2) (by decide) (Nat.le_of_ble_eq_true rfl) ?_
  intro p e s m below meth c A ls F hr hlocks hnm hX hA hD hP hS hl
  have F : CallFix p m c cX7_count 2 s [.ref (od 0), .int (nI 1)].toArray wA RX7 := F
  obtain ⟨hx, hb, hml, hown, hts⟩ := id F
  have hl : lv_has ls 2 [(0, .ref (od 0)), (1, .int (nI 1))] := hl
  obtain ⟨t0, t1, t2, t3, t4, t5, t6, t7, t8, t9, t10, t11, t12⟩ := id hT
  refine lv_iload_n hx hb dX7_count_0 rfl (lv_at hl 1 rfl) ?_
  refine lv_tableIn (off := 63) (tgt := 64) hx hb dX7_count_1 (by decide) (by decide) (by decide +kernel) (by decide) ?_
  refine lv_aload_n hx hb dX7_count_64 rfl (lv_at hl 0 rfl) ?_
  refine va_get (D := G.1) (ci := 6) (v := .ref (nn 0)) (C := RX7) (T := TX7) (N := 9) hx hb hts inA7 hown hX.1 hP 0 rfl rfl 1 (by decide) (hts _ kw_195) (fun _ h9 => h9) rfl dX7_count_65 ?_
  refine va_get (D := G.1) (ci := 3) (v := .int (nI (a 3))) (C := RX4) (T := TX4) (N := 12) hx hb hts inA4 hown hX.1 hP 3 rfl rfl 3 (by decide) (hts _ kw_81) (fun _ h9 => h9) rfl dX7_count_68 ?_
  exact re_i (v := (nI (a 3))) hx hb hr hlocks hS () hP hD rfl dX7_count_71

set_option maxHeartbeats 4000000 in
set_option maxRecDepth 100000 in
theorem mX7_count_2 (l : Launch) (G : GG) (od td nn dd pd : Nat → Nat) (bo : Nat) (wd sd e0 e1 : Nat → Nat) (kp : Nat → Int32) (a : Nat → Nat) (r : Nat → Nat → Nat) (hT : TB a r) : Mi l yX7_count cX7_count 2 (some .int) (rmN 0 0) G [.ref (od 0), .int (nI 2)] (obw G od (td 0) (nn 0) (dd 0) (pd 0) bo (wd 0) (sd 0) (e0 0) (e1 0) kp ++ (tkw G nn a r)) (fun (r9 : Int32) (_ : Unit) => r9 = (nI (a 1))) (fun (_ : Unit) => obw G od (td 0) (nn 0) (dd 0) (pd 0) bo (wd 0) (sd 0) (e0 0) (e1 0) kp ++ (tkw G nn a r)) := by
  refine Mi.of (cc := cX7_count) (nL := 2) (by decide) (Nat.le_of_ble_eq_true rfl) ?_
  intro p e s m below meth c A ls F hr hlocks hnm hX hA hD hP hS hl
  have F : CallFix p m c cX7_count 2 s [.ref (od 0), .int (nI 2)].toArray wA RX7 := F
  obtain ⟨hx, hb, hml, hown, hts⟩ := id F
  have hl : lv_has ls 2 [(0, .ref (od 0)), (1, .int (nI 2))] := hl
  obtain ⟨t0, t1, t2, t3, t4, t5, t6, t7, t8, t9, t10, t11, t12⟩ := id hT
  refine lv_iload_n hx hb dX7_count_0 rfl (lv_at hl 1 rfl) ?_
  refine lv_tableIn (off := 71) (tgt := 72) hx hb dX7_count_1 (by decide) (by decide) (by decide +kernel) (by decide) ?_
  refine lv_aload_n hx hb dX7_count_72 rfl (lv_at hl 0 rfl) ?_
  refine va_get (D := G.1) (ci := 6) (v := .ref (nn 0)) (C := RX7) (T := TX7) (N := 9) hx hb hts inA7 hown hX.1 hP 0 rfl rfl 1 (by decide) (hts _ kw_195) (fun _ h9 => h9) rfl dX7_count_73 ?_
  refine va_get (D := G.1) (ci := 3) (v := .int (nI (a 1))) (C := RX4) (T := TX4) (N := 12) hx hb hts inA4 hown hX.1 hP 3 rfl rfl 1 (by decide) (hts _ kw_71) (fun _ h9 => h9) rfl dX7_count_76 ?_
  exact re_i (v := (nI (a 1))) hx hb hr hlocks hS () hP hD rfl dX7_count_79

set_option maxHeartbeats 4000000 in
set_option maxRecDepth 100000 in
theorem mX7_count_3 (l : Launch) (G : GG) (od td nn dd pd : Nat → Nat) (bo : Nat) (wd sd e0 e1 : Nat → Nat) (kp : Nat → Int32) (a : Nat → Nat) (r : Nat → Nat → Nat) (hT : TB a r) : Mi l yX7_count cX7_count 2 (some .int) (rmN 0 0) G [.ref (od 0), .int (nI 3)] (obw G od (td 0) (nn 0) (dd 0) (pd 0) bo (wd 0) (sd 0) (e0 0) (e1 0) kp ++ (tkw G nn a r)) (fun (r9 : Int32) (_ : Unit) => r9 = (nI (a 2))) (fun (_ : Unit) => obw G od (td 0) (nn 0) (dd 0) (pd 0) bo (wd 0) (sd 0) (e0 0) (e1 0) kp ++ (tkw G nn a r)) := by
  refine Mi.of (cc := cX7_count) (nL := 2) (by decide) (Nat.le_of_ble_eq_true rfl) ?_
  intro p e s m below meth c A ls F hr hlocks hnm hX hA hD hP hS hl
  have F : CallFix p m c cX7_count 2 s [.ref (od 0), .int (nI 3)].toArray wA RX7 := F
  obtain ⟨hx, hb, hml, hown, hts⟩ := id F
  have hl : lv_has ls 2 [(0, .ref (od 0)), (1, .int (nI 3))] := hl
  obtain ⟨t0, t1, t2, t3, t4, t5, t6, t7, t8, t9, t10, t11, t12⟩ := id hT
  refine lv_iload_n hx hb dX7_count_0 rfl (lv_at hl 1 rfl) ?_
  refine lv_tableIn (off := 79) (tgt := 80) hx hb dX7_count_1 (by decide) (by decide) (by decide +kernel) (by decide) ?_
  refine lv_aload_n hx hb dX7_count_80 rfl (lv_at hl 0 rfl) ?_
  refine va_get (D := G.1) (ci := 6) (v := .ref (nn 0)) (C := RX7) (T := TX7) (N := 9) hx hb hts inA7 hown hX.1 hP 0 rfl rfl 1 (by decide) (hts _ kw_195) (fun _ h9 => h9) rfl dX7_count_81 ?_
  refine va_get (D := G.1) (ci := 3) (v := .int (nI (a 2))) (C := RX4) (T := TX4) (N := 12) hx hb hts inA4 hown hX.1 hP 3 rfl rfl 2 (by decide) (hts _ kw_75) (fun _ h9 => h9) rfl dX7_count_84 ?_
  exact re_i (v := (nI (a 2))) hx hb hr hlocks hS () hP hD rfl dX7_count_87

set_option maxHeartbeats 4000000 in
set_option maxRecDepth 100000 in
theorem mX7_count_4 (l : Launch) (G : GG) (od td nn dd pd : Nat → Nat) (bo : Nat) (wd sd e0 e1 : Nat → Nat) (kp : Nat → Int32) (a : Nat → Nat) (r : Nat → Nat → Nat) (hT : TB a r) : Mi l yX7_count cX7_count 2 (some .int) (rmN 1 20) G [.ref (od 0), .int (nI 4)] (obw G od (td 0) (nn 0) (dd 0) (pd 0) bo (wd 0) (sd 0) (e0 0) (e1 0) kp ++ (tkw G nn a r)) (fun (r9 : Int32) (_ : Unit) => r9 = (nI (bts (a 7) 12))) (fun (_ : Unit) => obw G od (td 0) (nn 0) (dd 0) (pd 0) bo (wd 0) (sd 0) (e0 0) (e1 0) kp ++ (tkw G nn a r)) := by
  refine Mi.of (cc := cX7_count) (nL := 2) (by decide) (Nat.le_of_ble_eq_true rfl) ?_
  intro p e s m below meth c A ls F hr hlocks hnm hX hA hD hP hS hl
  have F : CallFix p m c cX7_count 2 s [.ref (od 0), .int (nI 4)].toArray wA RX7 := F
  obtain ⟨hx, hb, hml, hown, hts⟩ := id F
  have hl : lv_has ls 2 [(0, .ref (od 0)), (1, .int (nI 4))] := hl
  obtain ⟨t0, t1, t2, t3, t4, t5, t6, t7, t8, t9, t10, t11, t12⟩ := id hT
  refine lv_iload_n hx hb dX7_count_0 rfl (lv_at hl 1 rfl) ?_
  refine lv_tableIn (off := 87) (tgt := 88) hx hb dX7_count_1 (by decide) (by decide) (by decide +kernel) (by decide) ?_
  refine lv_aload_n hx hb dX7_count_88 rfl (lv_at hl 0 rfl) ?_
  refine va_get (D := G.1) (ci := 6) (v := .ref (nn 0)) (C := RX7) (T := TX7) (N := 9) hx hb hts inA7 hown hX.1 hP 0 rfl rfl 1 (by decide) (hts _ kw_195) (fun _ h9 => h9) rfl dX7_count_89 ?_
  refine va_get (D := G.1) (ci := 3) (v := .int (nI (a 7))) (C := RX4) (T := TX4) (N := 12) hx hb hts inA4 hown hX.1 hP 3 rfl rfl 7 (by decide) (hts _ kw_95) (fun _ h9 => h9) rfl dX7_count_92 ?_
  refine ca_Si (rest := []) (wr := obw G od (td 0) (nn 0) (dd 0) (pd 0) bo (wd 0) (sd 0) (e0 0) (e1 0) kp ++ (tkw G nn a r)) F hX (mJ6_bitCount_0f7a4 l G (a 7) (by omega)) (cA_S hts kw_503 kw_16 kw_544 kw_502 hdJ6_bitCount_0f7a4 ⟨Nat.le_of_ble_eq_true rfl, Nat.le_of_ble_eq_true rfl⟩) rfl hl.1 rfl (Nat.le_of_ble_eq_true rfl) dX7_count_95 ⟨Nat.le_of_ble_eq_true rfl, Nat.le_of_ble_eq_true rfl⟩ hP hD hS hA (List.Perm.refl _) (fun r95 u95 H locs hp95 hP hD hS => ?_)
  have hP : va_P G.1 vwCl (obw G od (td 0) (nn 0) (dd 0) (pd 0) bo (wd 0) (sd 0) (e0 0) (e1 0) kp ++ (tkw G nn a r)) H := hP
  have hD : va_D A (obw G od (td 0) (nn 0) (dd 0) (pd 0) bo (wd 0) (sd 0) (e0 0) (e1 0) kp ++ (tkw G nn a r)) := hD
  subst hp95
  exact re_i (v := (nI (bts (a 7) 12))) hx hb hr hlocks hS () hP hD rfl dX7_count_98

set_option maxHeartbeats 4000000 in
set_option maxRecDepth 100000 in
theorem mX7_count_5 (l : Launch) (G : GG) (od td nn dd pd : Nat → Nat) (bo : Nat) (wd sd e0 e1 : Nat → Nat) (kp : Nat → Int32) (a : Nat → Nat) (r : Nat → Nat → Nat) (hT : TB a r) : Mi l yX7_count cX7_count 2 (some .int) (rmN 0 0) G [.ref (od 0), .int (nI 5)] (obw G od (td 0) (nn 0) (dd 0) (pd 0) bo (wd 0) (sd 0) (e0 0) (e1 0) kp ++ (tkw G nn a r)) (fun (r9 : Int32) (_ : Unit) => r9 = (nI (a 10))) (fun (_ : Unit) => obw G od (td 0) (nn 0) (dd 0) (pd 0) bo (wd 0) (sd 0) (e0 0) (e1 0) kp ++ (tkw G nn a r)) := by
  refine Mi.of (cc := cX7_count) (nL := 2) (by decide) (Nat.le_of_ble_eq_true rfl) ?_
  intro p e s m below meth c A ls F hr hlocks hnm hX hA hD hP hS hl
  have F : CallFix p m c cX7_count 2 s [.ref (od 0), .int (nI 5)].toArray wA RX7 := F
  obtain ⟨hx, hb, hml, hown, hts⟩ := id F
  have hl : lv_has ls 2 [(0, .ref (od 0)), (1, .int (nI 5))] := hl
  obtain ⟨t0, t1, t2, t3, t4, t5, t6, t7, t8, t9, t10, t11, t12⟩ := id hT
  refine lv_iload_n hx hb dX7_count_0 rfl (lv_at hl 1 rfl) ?_
  refine lv_tableIn (off := 98) (tgt := 99) hx hb dX7_count_1 (by decide) (by decide) (by decide +kernel) (by decide) ?_
  refine lv_aload_n hx hb dX7_count_99 rfl (lv_at hl 0 rfl) ?_
  refine va_get (D := G.1) (ci := 6) (v := .ref (nn 0)) (C := RX7) (T := TX7) (N := 9) hx hb hts inA7 hown hX.1 hP 0 rfl rfl 1 (by decide) (hts _ kw_195) (fun _ h9 => h9) rfl dX7_count_100 ?_
  refine va_get (D := G.1) (ci := 3) (v := .int (nI (a 10))) (C := RX4) (T := TX4) (N := 12) hx hb hts inA4 hown hX.1 hP 3 rfl rfl 10 (by decide) (hts _ kw_105) (fun _ h9 => h9) rfl dX7_count_103 ?_
  exact re_i (v := (nI (a 10))) hx hb hr hlocks hS () hP hD rfl dX7_count_106

set_option maxHeartbeats 4000000 in
set_option maxRecDepth 100000 in
theorem mX7_count_6 (l : Launch) (G : GG) (od td nn dd pd : Nat → Nat) (bo : Nat) (wd sd e0 e1 : Nat → Nat) (kp : Nat → Int32) (a : Nat → Nat) (r : Nat → Nat → Nat) (hT : TB a r) : Mi l yX7_count cX7_count 2 (some .int) (rmN 1 20) G [.ref (od 0), .int (nI 6)] (obw G od (td 0) (nn 0) (dd 0) (pd 0) bo (wd 0) (sd 0) (e0 0) (e1 0) kp ++ (tkw G nn a r)) (fun (r9 : Int32) (_ : Unit) => r9 = (nI (bts (a 9) 12))) (fun (_ : Unit) => obw G od (td 0) (nn 0) (dd 0) (pd 0) bo (wd 0) (sd 0) (e0 0) (e1 0) kp ++ (tkw G nn a r)) := by
  refine Mi.of (cc := cX7_count) (nL := 2) (by decide) (Nat.le_of_ble_eq_true rfl) ?_
  intro p e s m below meth c A ls F hr hlocks hnm hX hA hD hP hS hl
  have F : CallFix p m c cX7_count 2 s [.ref (od 0), .int (nI 6)].toArray wA RX7 := F
  obtain ⟨hx, hb, hml, hown, hts⟩ := id F
  have hl : lv_has ls 2 [(0, .ref (od 0)), (1, .int (nI 6))] := hl
  obtain ⟨t0, t1, t2, t3, t4, t5, t6, t7, t8, t9, t10, t11, t12⟩ := id hT
  refine lv_iload_n hx hb dX7_count_0 rfl (lv_at hl 1 rfl) ?_
  refine lv_tableIn (off := 106) (tgt := 107) hx hb dX7_count_1 (by decide) (by decide) (by decide +kernel) (by decide) ?_
  refine lv_aload_n hx hb dX7_count_107 rfl (lv_at hl 0 rfl) ?_
  refine va_get (D := G.1) (ci := 6) (v := .ref (nn 0)) (C := RX7) (T := TX7) (N := 9) hx hb hts inA7 hown hX.1 hP 0 rfl rfl 1 (by decide) (hts _ kw_195) (fun _ h9 => h9) rfl dX7_count_108 ?_
  refine va_get (D := G.1) (ci := 3) (v := .int (nI (a 9))) (C := RX4) (T := TX4) (N := 12) hx hb hts inA4 hown hX.1 hP 3 rfl rfl 9 (by decide) (hts _ kw_102) (fun _ h9 => h9) rfl dX7_count_111 ?_
  refine ca_Si (rest := []) (wr := obw G od (td 0) (nn 0) (dd 0) (pd 0) bo (wd 0) (sd 0) (e0 0) (e1 0) kp ++ (tkw G nn a r)) F hX (mJ6_bitCount_0f7a4 l G (a 9) (by omega)) (cA_S hts kw_503 kw_16 kw_544 kw_502 hdJ6_bitCount_0f7a4 ⟨Nat.le_of_ble_eq_true rfl, Nat.le_of_ble_eq_true rfl⟩) rfl hl.1 rfl (Nat.le_of_ble_eq_true rfl) dX7_count_114 ⟨Nat.le_of_ble_eq_true rfl, Nat.le_of_ble_eq_true rfl⟩ hP hD hS hA (List.Perm.refl _) (fun r114 u114 H locs hp114 hP hD hS => ?_)
  have hP : va_P G.1 vwCl (obw G od (td 0) (nn 0) (dd 0) (pd 0) bo (wd 0) (sd 0) (e0 0) (e1 0) kp ++ (tkw G nn a r)) H := hP
  have hD : va_D A (obw G od (td 0) (nn 0) (dd 0) (pd 0) bo (wd 0) (sd 0) (e0 0) (e1 0) kp ++ (tkw G nn a r)) := hD
  subst hp114
  exact re_i (v := (nI (bts (a 9) 12))) hx hb hr hlocks hS () hP hD rfl dX7_count_117

set_option maxHeartbeats 4000000 in
set_option maxRecDepth 100000 in
theorem mX7_count_7 (l : Launch) (G : GG) (od td nn dd pd : Nat → Nat) (bo : Nat) (wd sd e0 e1 : Nat → Nat) (kp : Nat → Int32) (wh : Nat → Nat) (nu : Nat → Int32) (ss : Nat)  : Mi l yX7_count cX7_count 2 (some .int) (rmN 0 0) G [.ref (od 0), .int (nI 7)] (obw G od (td 0) (nn 0) (dd 0) (pd 0) bo (wd 0) (sd 0) (e0 0) (e1 0) kp ++ (sgw G sd wh nu ss)) (fun (r9 : Int32) (_ : Unit) => r9 = (nI ss)) (fun (_ : Unit) => obw G od (td 0) (nn 0) (dd 0) (pd 0) bo (wd 0) (sd 0) (e0 0) (e1 0) kp ++ (sgw G sd wh nu ss)) := by
  refine Mi.of (cc := cX7_count) (nL := 2) (by decide) (Nat.le_of_ble_eq_true rfl) ?_
  intro p e s m below meth c A ls F hr hlocks hnm hX hA hD hP hS hl
  have F : CallFix p m c cX7_count 2 s [.ref (od 0), .int (nI 7)].toArray wA RX7 := F
  obtain ⟨hx, hb, hml, hown, hts⟩ := id F
  have hl : lv_has ls 2 [(0, .ref (od 0)), (1, .int (nI 7))] := hl
  refine lv_iload_n hx hb dX7_count_0 rfl (lv_at hl 1 rfl) ?_
  refine lv_tableIn (off := 117) (tgt := 118) hx hb dX7_count_1 (by decide) (by decide) (by decide +kernel) (by decide) ?_
  refine lv_aload_n hx hb dX7_count_118 rfl (lv_at hl 0 rfl) ?_
  refine va_get (D := G.1) (ci := 6) (v := .ref (sd 0)) (C := RX7) (T := TX7) (N := 9) hx hb hts inA7 hown hX.1 hP 0 rfl rfl 6 (by decide) (hts _ kw_200) (fun _ h9 => h9) rfl dX7_count_119 ?_
  refine va_get (D := G.1) (ci := 2) (v := .int (nI ss)) (C := RX3) (T := TX3) (N := 3) hx hb hts inA3 hown hX.1 hP 3 rfl rfl 2 (by decide) (hts _ kw_186) (fun _ h9 => h9) rfl dX7_count_122 ?_
  exact re_i (v := (nI ss)) hx hb hr hlocks hS () hP hD rfl dX7_count_125

set_option maxHeartbeats 4000000 in
set_option maxRecDepth 100000 in
theorem mX7_count_8 (l : Launch) (G : GG) (od td nn dd pd : Nat → Nat) (bo : Nat) (wd sd e0 e1 : Nat → Nat) (kp : Nat → Int32) (z tl : Nat → Nat)  : Mi l yX7_count cX7_count 2 (some .int) (rmN 0 0) G [.ref (od 0), .int (nI 8)] (obw G od (td 0) (nn 0) (dd 0) (pd 0) bo (wd 0) (sd 0) (e0 0) (e1 0) kp ++ (txw G td z tl)) (fun (r9 : Int32) (_ : Unit) => r9 = (nI (z 1))) (fun (_ : Unit) => obw G od (td 0) (nn 0) (dd 0) (pd 0) bo (wd 0) (sd 0) (e0 0) (e1 0) kp ++ (txw G td z tl)) := by
  refine Mi.of (cc := cX7_count) (nL := 2) (by decide) (Nat.le_of_ble_eq_true rfl) ?_
  intro p e s m below meth c A ls F hr hlocks hnm hX hA hD hP hS hl
  have F : CallFix p m c cX7_count 2 s [.ref (od 0), .int (nI 8)].toArray wA RX7 := F
  obtain ⟨hx, hb, hml, hown, hts⟩ := id F
  have hl : lv_has ls 2 [(0, .ref (od 0)), (1, .int (nI 8))] := hl
  refine lv_iload_n hx hb dX7_count_0 rfl (lv_at hl 1 rfl) ?_
  refine lv_tableIn (off := 125) (tgt := 126) hx hb dX7_count_1 (by decide) (by decide) (by decide +kernel) (by decide) ?_
  refine lv_aload_n hx hb dX7_count_126 rfl (lv_at hl 0 rfl) ?_
  refine va_get (D := G.1) (ci := 6) (v := .ref (td 0)) (C := RX7) (T := TX7) (N := 9) hx hb hts inA7 hown hX.1 hP 0 rfl rfl 0 (by decide) (hts _ kw_194) (fun _ h9 => h9) rfl dX7_count_127 ?_
  refine va_get (D := G.1) (ci := 4) (v := .int (nI (z 1))) (C := RX5) (T := TX5) (N := 7) hx hb hts inA5 hown hX.1 hP 3 rfl rfl 1 (by decide) (hts _ kw_34) (fun _ h9 => h9) rfl dX7_count_130 ?_
  exact re_i (v := (nI (z 1))) hx hb hr hlocks hS () hP hD rfl dX7_count_133

set_option maxHeartbeats 4000000 in
set_option maxRecDepth 100000 in
theorem mX7_count_9 (l : Launch) (G : GG) (od td nn dd pd : Nat → Nat) (bo : Nat) (wd sd e0 e1 : Nat → Nat) (kp : Nat → Int32) (sz nx : Nat) (ads as : Nat → Nat → Nat) (rs : Nat → Nat → Nat → Nat)  : Mi l yX7_count cX7_count 2 (some .int) (rmN 0 0) G [.ref (od 0), .int (nI 9)] (obw G od (td 0) (nn 0) (dd 0) (pd 0) bo (wd 0) (sd 0) (e0 0) (e1 0) kp ++ (paw G pd sz nx ads as rs)) (fun (r9 : Int32) (_ : Unit) => r9 = (nI sz)) (fun (_ : Unit) => obw G od (td 0) (nn 0) (dd 0) (pd 0) bo (wd 0) (sd 0) (e0 0) (e1 0) kp ++ (paw G pd sz nx ads as rs)) := by
  refine Mi.of (cc := cX7_count) (nL := 2) (by decide) (Nat.le_of_ble_eq_true rfl) ?_
  intro p e s m below meth c A ls F hr hlocks hnm hX hA hD hP hS hl
  have F : CallFix p m c cX7_count 2 s [.ref (od 0), .int (nI 9)].toArray wA RX7 := F
  obtain ⟨hx, hb, hml, hown, hts⟩ := id F
  have hl : lv_has ls 2 [(0, .ref (od 0)), (1, .int (nI 9))] := hl
  refine lv_iload_n hx hb dX7_count_0 rfl (lv_at hl 1 rfl) ?_
  refine lv_tableIn (off := 133) (tgt := 134) hx hb dX7_count_1 (by decide) (by decide) (by decide +kernel) (by decide) ?_
  refine lv_aload_n hx hb dX7_count_134 rfl (lv_at hl 0 rfl) ?_
  refine va_get (D := G.1) (ci := 6) (v := .ref (pd 0)) (C := RX7) (T := TX7) (N := 9) hx hb hts inA7 hown hX.1 hP 0 rfl rfl 3 (by decide) (hts _ kw_197) (fun _ h9 => h9) rfl dX7_count_135 ?_
  refine va_get (D := G.1) (ci := 1) (v := .int (nI sz)) (C := RX2) (T := TX2) (N := 3) hx hb hts inA2 hown hX.1 hP 3 rfl rfl 1 (by decide) (hts _ kw_143) (fun _ h9 => h9) rfl dX7_count_138 ?_
  exact re_i (v := (nI sz)) hx hb hr hlocks hS () hP hD rfl dX7_count_141

theorem hdX7_tells : hdOK yX7_tells 0 := by decide +kernel
set_option maxHeartbeats 4000000 in
set_option maxRecDepth 100000 in
theorem mX7_tells_fault (l : Launch) (G : GG) (sk sv : Nat → Nat) (od td nn dd pd : Nat → Nat) (bo : Nat) (wd sd e0 e1 : Nat → Nat) (kp : Nat → Int32) (z tl : Nat → Nat) (ta : Nat → Nat) (tr : Nat → Nat → Nat) (q : Nat) (hZ : XB z tl) (h5 : ∀ j, tr 0 j < 7) (h6 : ∀ j, tr 1 j < 7) (h7 : ∀ j, tr 2 j ≤ 9) (h12 : ∀ j, tr 3 j < 7) (hq : (rdA z ta tr tl).1 = some q) (hq2 : q < 2 ^ 30) : MiE (E4 sk sv) l yX7_tells cX7_tells 2 (some .int) (rmN 7 152) G [.ref (od 0)] (obw G od (td 0) (nn 0) (dd 0) (pd 0) bo (wd 0) (sd 0) (e0 0) (e1 0) kp ++ (txw G td z tl ++ (tkw G dd ta tr))) (fun (r9 : Int32) (_ : Unit) => r9 = (-10 - nI q)) (fun (_ : Unit) => obw G od (td 0) (nn 0) (dd 0) (pd 0) bo (wd 0) (sd 0) (e0 0) (e1 0) kp ++ (txw G td ((rdA z ta tr tl).2.2.1) tl ++ (tkw G dd ((rdA z ta tr tl).2.2.2.1) ((rdA z ta tr tl).2.2.2.2)))) := by
  refine MiE.of (cc := cX7_tells) (nL := 2) (by decide) (Nat.le_of_ble_eq_true rfl) ?_
  intro p e s m below meth c A ls F hr hlocks hnm hX hA hD hP hS hl hE
  have F : CallFix p m c cX7_tells 2 s [.ref (od 0)].toArray wA RX7 := F
  obtain ⟨hx, hb, hml, hown, hts⟩ := id F
  have hl : lv_has ls 2 [(0, .ref (od 0))] := hl
  refine lv_aload_n hx hb dX7_tells_0 rfl (lv_at hl 0 rfl) ?_
  refine va_get (D := G.1) (ci := 6) (v := .ref (td 0)) (C := RX7) (T := TX7) (N := 9) hx hb hts inA7 hown hX.1 hP 0 rfl rfl 0 (by decide) (hts _ kw_194) (fun _ h9 => h9) rfl dX7_tells_1 ?_
  refine lv_aload_n hx hb dX7_tells_4 rfl (lv_at hl 0 rfl) ?_
  refine va_get (D := G.1) (ci := 6) (v := .ref (dd 0)) (C := RX7) (T := TX7) (N := 9) hx hb hts inA7 hown hX.1 hP 0 rfl rfl 2 (by decide) (hts _ kw_196) (fun _ h9 => h9) rfl dX7_tells_5 ?_
  refine ca_ViE (C := RX5) (rest := []) (wr := obw G od (td 0) (nn 0) (dd 0) (pd 0) bo (wd 0) (sd 0) (e0 0) (e1 0) kp) (E4_st sk sv) hE F hX (mX5_read l G sk sv td z tl dd ta tr hZ h5 h6 h7 h12) (cA_V hts kw_246 kw_2 kw_243 kw_244 kw_245 hdX5_read ⟨Nat.le_of_ble_eq_true rfl, Nat.le_of_ble_eq_true rfl⟩) (va_recv (ci := 4) (q0 := 3) hX.1 hP rfl rfl) rfl hl.1 rfl (Nat.le_of_ble_eq_true rfl) dX7_tells_8 ⟨Nat.le_of_ble_eq_true rfl, Nat.le_of_ble_eq_true rfl⟩ hP hD hS hA ((((List.Perm.append_left _ (List.perm_append_comm)).trans (pm_sw _ _ _)).trans ((List.Perm.append_left _ (List.perm_append_comm)).trans (pm_sw _ _ _))).trans (List.Perm.of_eq (List.append_assoc _ _ _).symm)) (fun r8 u8 H locs hp8 hP hD hS => ?_)
  subst hp8
  have hP : va_P G.1 vwCl (obw G od (td 0) (nn 0) (dd 0) (pd 0) bo (wd 0) (sd 0) (e0 0) (e1 0) kp ++ (txw G td ((rdA z ta tr tl).2.2.1) tl ++ (tkw G dd ((rdA z ta tr tl).2.2.2.1) ((rdA z ta tr tl).2.2.2.2)))) H := wp_pm ((((List.Perm.append_left _ (List.perm_append_comm)).trans (pm_sw _ _ _)).trans ((List.Perm.append_left _ (List.perm_append_comm)).trans (pm_sw _ _ _))).trans (List.Perm.of_eq (List.append_assoc _ _ _).symm)).symm hP
  have hD : va_D A (obw G od (td 0) (nn 0) (dd 0) (pd 0) bo (wd 0) (sd 0) (e0 0) (e1 0) kp ++ (txw G td ((rdA z ta tr tl).2.2.1) tl ++ (tkw G dd ((rdA z ta tr tl).2.2.2.1) ((rdA z ta tr tl).2.2.2.2)))) := wd_pm ((((List.Perm.append_left _ (List.perm_append_comm)).trans (pm_sw _ _ _)).trans ((List.Perm.append_left _ (List.perm_append_comm)).trans (pm_sw _ _ _))).trans (List.Perm.of_eq (List.append_assoc _ _ _).symm)).symm hD
  refine ti (y := (-10 - nI q)) (by unfold rdI; rw [hq]) ?_
  refine lv_istore_n (lv' := [(1, .int (-10 - nI q)), (0, .ref (od 0))]) hx hb dX7_tells_11 rfl hl (by decide) rfl (fun ls hl => ?_)
  refine lv_iload_n hx hb dX7_tells_12 rfl (lv_at hl 0 rfl) ?_
  refine lv_if_lt (x := (-10 - nI q)) (tgt := 46) hx hb dX7_tells_13 (by decide) (fun c13 => ?_) (fun c13 => ?_)
  · refine lv_iload_n hx hb dX7_tells_46 rfl (lv_at hl 0 rfl) ?_
    exact re_i (v := (-10 - nI q)) hx hb hr hlocks hS () hP hD rfl dX7_tells_47
  · exact absurd (tel_lt hq2) c13

set_option maxHeartbeats 4000000 in
set_option maxRecDepth 100000 in
theorem mX7_tells_ok (l : Launch) (G : GG) (sk sv : Nat → Nat) (od td nn dd pd : Nat → Nat) (bo : Nat) (wd sd e0 e1 : Nat → Nat) (kp : Nat → Int32) (z tl : Nat → Nat) (ta : Nat → Nat) (tr : Nat → Nat → Nat) (a : Nat → Nat) (r : Nat → Nat → Nat) (sz nx : Nat) (ads as : Nat → Nat → Nat) (rs : Nat → Nat → Nat → Nat) (hZ : XB z tl) (h5 : ∀ j, tr 0 j < 7) (h6 : ∀ j, tr 1 j < 7) (h7 : ∀ j, tr 2 j ≤ 9) (h12 : ∀ j, tr 3 j < 7) (hz : sz ≤ 6) (hn : nx < 6) (hq : (rdA z ta tr tl).1 = none) (hq2 : (rdA z ta tr tl).2.1 < 2 ^ 31) : MiE (E4 sk sv) l yX7_tells cX7_tells 2 (some .int) (rmN 7 152) G [.ref (od 0)] (obw G od (td 0) (nn 0) (dd 0) (pd 0) bo (wd 0) (sd 0) (e0 0) (e1 0) kp ++ (txw G td z tl ++ (tkw G dd ta tr ++ (tkw G nn a r ++ (paw G pd sz nx ads as rs))))) (fun (r9 : Int32) (_ : Unit) => r9 = (nI ((rdA z ta tr tl).2.1))) (fun (_ : Unit) => obw G od (td 0) (nn 0) (dd 0) (pd 0) bo (wd 0) (sd 0) (e0 0) (e1 0) kp ++ (txw G td (va_up ((rdA z ta tr tl).2.2.1) 1 0) tl ++ (tkw G dd ((rdA z ta tr tl).2.2.2.1) ((rdA z ta tr tl).2.2.2.2) ++ (tkw G nn ((rdA z ta tr tl).2.2.2.1) ((rdA z ta tr tl).2.2.2.2) ++ (paw G pd (min (sz + 1) 6) ((nx + 1) % 6) ads (va_up as nx a) (va_up rs nx r)))))) := by
  refine MiE.of (cc := cX7_tells) (nL := 2) (by decide) (Nat.le_of_ble_eq_true rfl) ?_
  intro p e s m below meth c A ls F hr hlocks hnm hX hA hD hP hS hl hE
  have F : CallFix p m c cX7_tells 2 s [.ref (od 0)].toArray wA RX7 := F
  obtain ⟨hx, hb, hml, hown, hts⟩ := id F
  have hl : lv_has ls 2 [(0, .ref (od 0))] := hl
  refine lv_aload_n hx hb dX7_tells_0 rfl (lv_at hl 0 rfl) ?_
  refine va_get (D := G.1) (ci := 6) (v := .ref (td 0)) (C := RX7) (T := TX7) (N := 9) hx hb hts inA7 hown hX.1 hP 0 rfl rfl 0 (by decide) (hts _ kw_194) (fun _ h9 => h9) rfl dX7_tells_1 ?_
  refine lv_aload_n hx hb dX7_tells_4 rfl (lv_at hl 0 rfl) ?_
  refine va_get (D := G.1) (ci := 6) (v := .ref (dd 0)) (C := RX7) (T := TX7) (N := 9) hx hb hts inA7 hown hX.1 hP 0 rfl rfl 2 (by decide) (hts _ kw_196) (fun _ h9 => h9) rfl dX7_tells_5 ?_
  refine ca_ViE (C := RX5) (rest := []) (wr := obw G od (td 0) (nn 0) (dd 0) (pd 0) bo (wd 0) (sd 0) (e0 0) (e1 0) kp ++ (tkw G nn a r ++ (paw G pd sz nx ads as rs))) (E4_st sk sv) hE F hX (mX5_read l G sk sv td z tl dd ta tr hZ h5 h6 h7 h12) (cA_V hts kw_246 kw_2 kw_243 kw_244 kw_245 hdX5_read ⟨Nat.le_of_ble_eq_true rfl, Nat.le_of_ble_eq_true rfl⟩) (va_recv (ci := 4) (q0 := 3) hX.1 hP rfl rfl) rfl hl.1 rfl (Nat.le_of_ble_eq_true rfl) dX7_tells_8 ⟨Nat.le_of_ble_eq_true rfl, Nat.le_of_ble_eq_true rfl⟩ hP hD hS hA ((((List.Perm.append_left _ (pm_sw _ _ _)).trans (pm_sw _ _ _)).trans ((List.Perm.append_left _ (pm_sw _ _ _)).trans (pm_sw _ _ _))).trans (List.Perm.of_eq (List.append_assoc _ _ _).symm)) (fun r8 u8 H locs hp8 hP hD hS => ?_)
  subst hp8
  have hP : va_P G.1 vwCl (obw G od (td 0) (nn 0) (dd 0) (pd 0) bo (wd 0) (sd 0) (e0 0) (e1 0) kp ++ (txw G td ((rdA z ta tr tl).2.2.1) tl ++ (tkw G dd ((rdA z ta tr tl).2.2.2.1) ((rdA z ta tr tl).2.2.2.2) ++ (tkw G nn a r ++ (paw G pd sz nx ads as rs))))) H := wp_pm ((((List.Perm.append_left _ (pm_sw _ _ _)).trans (pm_sw _ _ _)).trans ((List.Perm.append_left _ (pm_sw _ _ _)).trans (pm_sw _ _ _))).trans (List.Perm.of_eq (List.append_assoc _ _ _).symm)).symm hP
  have hD : va_D A (obw G od (td 0) (nn 0) (dd 0) (pd 0) bo (wd 0) (sd 0) (e0 0) (e1 0) kp ++ (txw G td ((rdA z ta tr tl).2.2.1) tl ++ (tkw G dd ((rdA z ta tr tl).2.2.2.1) ((rdA z ta tr tl).2.2.2.2) ++ (tkw G nn a r ++ (paw G pd sz nx ads as rs))))) := wd_pm ((((List.Perm.append_left _ (pm_sw _ _ _)).trans (pm_sw _ _ _)).trans ((List.Perm.append_left _ (pm_sw _ _ _)).trans (pm_sw _ _ _))).trans (List.Perm.of_eq (List.append_assoc _ _ _).symm)).symm hD
  refine ti (y := (nI ((rdA z ta tr tl).2.1))) (by unfold rdI; rw [hq]) ?_
  refine lv_istore_n (lv' := [(1, .int (nI ((rdA z ta tr tl).2.1))), (0, .ref (od 0))]) hx hb dX7_tells_11 rfl hl (by decide) rfl (fun ls hl => ?_)
  refine lv_iload_n hx hb dX7_tells_12 rfl (lv_at hl 0 rfl) ?_
  refine nv_zlt (x := (rdA z ta tr tl).2.1) (tgt := 46) hx hb dX7_tells_13 (by decide) hq2 ?_
  refine lv_aload_n hx hb dX7_tells_16 rfl (lv_at hl 1 rfl) ?_
  refine va_get (D := G.1) (ci := 6) (v := .ref (pd 0)) (C := RX7) (T := TX7) (N := 9) hx hb hts inA7 hown hX.1 hP 0 rfl rfl 3 (by decide) (hts _ kw_197) (fun _ h9 => h9) rfl dX7_tells_17 ?_
  refine lv_aload_n hx hb dX7_tells_20 rfl (lv_at hl 1 rfl) ?_
  refine va_get (D := G.1) (ci := 6) (v := .ref (nn 0)) (C := RX7) (T := TX7) (N := 9) hx hb hts inA7 hown hX.1 hP 0 rfl rfl 1 (by decide) (hts _ kw_195) (fun _ h9 => h9) rfl dX7_tells_21 ?_
  refine ca_Vv (ci := 1) (q := (RX2, TX2, 3)) (rest := []) (wr := obw G od (td 0) (nn 0) (dd 0) (pd 0) bo (wd 0) (sd 0) (e0 0) (e1 0) kp ++ (txw G td ((rdA z ta tr tl).2.2.1) tl ++ (tkw G dd ((rdA z ta tr tl).2.2.2.1) ((rdA z ta tr tl).2.2.2.2)))) F hX (mX2_remember l G pd sz nx ads as rs nn a r hz hn) (cA_V hts kw_369 kw_4 kw_366 kw_367 kw_368 hdX2_remember ⟨Nat.le_of_ble_eq_true rfl, Nat.le_of_ble_eq_true rfl⟩) rfl rfl rfl hl.1 rfl (Nat.le_of_ble_eq_true rfl) dX7_tells_24 ⟨Nat.le_of_ble_eq_true rfl, Nat.le_of_ble_eq_true rfl⟩ hP hD hS hA ((((List.Perm.append_left _ ((List.Perm.append_left _ (pm_sw _ _ _)).trans (pm_sw _ _ _))).trans (pm_sw _ _ _)).trans ((List.Perm.append_left _ ((List.Perm.append_left _ ((List.Perm.append_left _ (List.perm_append_comm)).trans (pm_sw _ _ _))).trans (pm_sw _ _ _))).trans (pm_sw _ _ _))).trans (List.Perm.of_eq (List.append_assoc _ _ _).symm)) (fun u24 H locs hp24 hP hD hS => ?_)
  have hP : va_P G.1 vwCl (obw G od (td 0) (nn 0) (dd 0) (pd 0) bo (wd 0) (sd 0) (e0 0) (e1 0) kp ++ (txw G td ((rdA z ta tr tl).2.2.1) tl ++ (tkw G dd ((rdA z ta tr tl).2.2.2.1) ((rdA z ta tr tl).2.2.2.2) ++ (tkw G nn a r ++ (paw G pd (min (sz + 1) 6) ((nx + 1) % 6) ads (va_up as nx a) (va_up rs nx r)))))) H := wp_pm ((((List.Perm.append_left _ ((List.Perm.append_left _ (pm_sw _ _ _)).trans (pm_sw _ _ _))).trans (pm_sw _ _ _)).trans ((List.Perm.append_left _ ((List.Perm.append_left _ ((List.Perm.append_left _ (List.perm_append_comm)).trans (pm_sw _ _ _))).trans (pm_sw _ _ _))).trans (pm_sw _ _ _))).trans (List.Perm.of_eq (List.append_assoc _ _ _).symm)).symm hP
  have hD : va_D A (obw G od (td 0) (nn 0) (dd 0) (pd 0) bo (wd 0) (sd 0) (e0 0) (e1 0) kp ++ (txw G td ((rdA z ta tr tl).2.2.1) tl ++ (tkw G dd ((rdA z ta tr tl).2.2.2.1) ((rdA z ta tr tl).2.2.2.2) ++ (tkw G nn a r ++ (paw G pd (min (sz + 1) 6) ((nx + 1) % 6) ads (va_up as nx a) (va_up rs nx r)))))) := wd_pm ((((List.Perm.append_left _ ((List.Perm.append_left _ (pm_sw _ _ _)).trans (pm_sw _ _ _))).trans (pm_sw _ _ _)).trans ((List.Perm.append_left _ ((List.Perm.append_left _ ((List.Perm.append_left _ (List.perm_append_comm)).trans (pm_sw _ _ _))).trans (pm_sw _ _ _))).trans (pm_sw _ _ _))).trans (List.Perm.of_eq (List.append_assoc _ _ _).symm)).symm hD
  refine lv_aload_n hx hb dX7_tells_27 rfl (lv_at hl 1 rfl) ?_
  refine va_get (D := G.1) (ci := 6) (v := .ref (nn 0)) (C := RX7) (T := TX7) (N := 9) hx hb hts inA7 hown hX.1 hP 0 rfl rfl 1 (by decide) (hts _ kw_195) (fun _ h9 => h9) rfl dX7_tells_28 ?_
  refine lv_aload_n hx hb dX7_tells_31 rfl (lv_at hl 1 rfl) ?_
  refine va_get (D := G.1) (ci := 6) (v := .ref (dd 0)) (C := RX7) (T := TX7) (N := 9) hx hb hts inA7 hown hX.1 hP 0 rfl rfl 2 (by decide) (hts _ kw_196) (fun _ h9 => h9) rfl dX7_tells_32 ?_
  refine ca_Vv (ci := 3) (q := (RX4, TX4, 12)) (rest := []) (wr := obw G od (td 0) (nn 0) (dd 0) (pd 0) bo (wd 0) (sd 0) (e0 0) (e1 0) kp ++ (txw G td ((rdA z ta tr tl).2.2.1) tl ++ (paw G pd (min (sz + 1) 6) ((nx + 1) % 6) ads (va_up as nx a) (va_up rs nx r)))) F hX (mX4_become l G nn a r dd ((rdA z ta tr tl).2.2.2.1) ((rdA z ta tr tl).2.2.2.2)) (cA_V hts kw_373 kw_3 kw_380 kw_371 kw_372 hdX4_become ⟨Nat.le_of_ble_eq_true rfl, Nat.le_of_ble_eq_true rfl⟩) rfl rfl rfl hl.1 rfl (Nat.le_of_ble_eq_true rfl) dX7_tells_35 ⟨Nat.le_of_ble_eq_true rfl, Nat.le_of_ble_eq_true rfl⟩ hP hD hS hA ((((List.Perm.append_left _ (pm_sw _ _ _)).trans (pm_sw _ _ _)).trans ((List.Perm.append_left _ ((List.Perm.append_left _ (pm_sw _ _ _)).trans (pm_sw _ _ _))).trans (pm_sw _ _ _))).trans (List.Perm.of_eq (List.append_assoc _ _ _).symm)) (fun u35 H locs hp35 hP hD hS => ?_)
  have hP : va_P G.1 vwCl (obw G od (td 0) (nn 0) (dd 0) (pd 0) bo (wd 0) (sd 0) (e0 0) (e1 0) kp ++ (txw G td ((rdA z ta tr tl).2.2.1) tl ++ (tkw G dd ((rdA z ta tr tl).2.2.2.1) ((rdA z ta tr tl).2.2.2.2) ++ (tkw G nn ((rdA z ta tr tl).2.2.2.1) ((rdA z ta tr tl).2.2.2.2) ++ (paw G pd (min (sz + 1) 6) ((nx + 1) % 6) ads (va_up as nx a) (va_up rs nx r)))))) H := wp_pm ((((List.Perm.append_left _ (pm_sw _ _ _)).trans (pm_sw _ _ _)).trans ((List.Perm.append_left _ ((List.Perm.append_left _ (pm_sw _ _ _)).trans (pm_sw _ _ _))).trans (pm_sw _ _ _))).trans (List.Perm.of_eq (List.append_assoc _ _ _).symm)).symm hP
  have hD : va_D A (obw G od (td 0) (nn 0) (dd 0) (pd 0) bo (wd 0) (sd 0) (e0 0) (e1 0) kp ++ (txw G td ((rdA z ta tr tl).2.2.1) tl ++ (tkw G dd ((rdA z ta tr tl).2.2.2.1) ((rdA z ta tr tl).2.2.2.2) ++ (tkw G nn ((rdA z ta tr tl).2.2.2.1) ((rdA z ta tr tl).2.2.2.2) ++ (paw G pd (min (sz + 1) 6) ((nx + 1) % 6) ads (va_up as nx a) (va_up rs nx r)))))) := wd_pm ((((List.Perm.append_left _ (pm_sw _ _ _)).trans (pm_sw _ _ _)).trans ((List.Perm.append_left _ ((List.Perm.append_left _ (pm_sw _ _ _)).trans (pm_sw _ _ _))).trans (pm_sw _ _ _))).trans (List.Perm.of_eq (List.append_assoc _ _ _).symm)).symm hD
  refine lv_aload_n hx hb dX7_tells_38 rfl (lv_at hl 1 rfl) ?_
  refine va_get (D := G.1) (ci := 6) (v := .ref (td 0)) (C := RX7) (T := TX7) (N := 9) hx hb hts inA7 hown hX.1 hP 0 rfl rfl 0 (by decide) (hts _ kw_194) (fun _ h9 => h9) rfl dX7_tells_39 ?_
  refine ca_Vi (ci := 4) (q := (RX5, TX5, 7)) (rest := []) (wr := obw G od (td 0) (nn 0) (dd 0) (pd 0) bo (wd 0) (sd 0) (e0 0) (e1 0) kp ++ (tkw G dd ((rdA z ta tr tl).2.2.2.1) ((rdA z ta tr tl).2.2.2.2) ++ (tkw G nn ((rdA z ta tr tl).2.2.2.1) ((rdA z ta tr tl).2.2.2.2) ++ (paw G pd (min (sz + 1) 6) ((nx + 1) % 6) ads (va_up as nx a) (va_up rs nx r))))) F hX (mX5_empty l G td ((rdA z ta tr tl).2.2.1) tl  ) (cA_V hts kw_238 kw_2 kw_235 kw_236 kw_237 hdX5_empty ⟨Nat.le_of_ble_eq_true rfl, Nat.le_of_ble_eq_true rfl⟩) rfl rfl rfl hl.1 rfl (Nat.le_of_ble_eq_true rfl) dX7_tells_42 ⟨Nat.le_of_ble_eq_true rfl, Nat.le_of_ble_eq_true rfl⟩ hP hD hS hA (pm_sw _ _ _) (fun r42 u42 H locs hp42 hP hD hS => ?_)
  have hP : va_P G.1 vwCl (obw G od (td 0) (nn 0) (dd 0) (pd 0) bo (wd 0) (sd 0) (e0 0) (e1 0) kp ++ (txw G td (va_up ((rdA z ta tr tl).2.2.1) 1 0) tl ++ (tkw G dd ((rdA z ta tr tl).2.2.2.1) ((rdA z ta tr tl).2.2.2.2) ++ (tkw G nn ((rdA z ta tr tl).2.2.2.1) ((rdA z ta tr tl).2.2.2.2) ++ (paw G pd (min (sz + 1) 6) ((nx + 1) % 6) ads (va_up as nx a) (va_up rs nx r)))))) H := wp_pm (pm_sw _ _ _).symm hP
  have hD : va_D A (obw G od (td 0) (nn 0) (dd 0) (pd 0) bo (wd 0) (sd 0) (e0 0) (e1 0) kp ++ (txw G td (va_up ((rdA z ta tr tl).2.2.1) 1 0) tl ++ (tkw G dd ((rdA z ta tr tl).2.2.2.1) ((rdA z ta tr tl).2.2.2.2) ++ (tkw G nn ((rdA z ta tr tl).2.2.2.1) ((rdA z ta tr tl).2.2.2.2) ++ (paw G pd (min (sz + 1) 6) ((nx + 1) % 6) ads (va_up as nx a) (va_up rs nx r)))))) := wd_pm (pm_sw _ _ _).symm hD
  subst hp42
  refine lv_pop hx hb dX7_tells_45 rfl ?_
  refine lv_iload_n hx hb dX7_tells_46 rfl (lv_at hl 0 rfl) ?_
  exact re_i (v := (nI ((rdA z ta tr tl).2.1))) hx hb hr hlocks hS () hP hD rfl dX7_tells_47

