theorem hdX8_at : hdOK yX8_at 1 := by decide +kernel
set_option maxHeartbeats 4000000 in
set_option maxRecDepth 100000 in
theorem mX8_at (l : Launch) (G : GG) (ad : Nat → Nat) (z : Nat → Nat) (fo : Option Nat) (sv : Nat → Nat) (d : Nat → Int32) (pa ke : Nat → Nat) (ik fa : Nat → Int32) (te aw : Nat → Nat) (k : Nat) (ht9 : ∀ j, te j < 256) (hz : z 10 ≤ 120) (hk : k < 2 ^ 31) : Mi l yX8_at cX8_at 2 (some .int) (rmN 0 0) G [.ref (ad 0), .int (nI k)] (mow G ad z fo sv d pa ke ik fa te aw) (fun (r9 : Int32) (_ : Unit) => r9 = (atI te (z 10) k)) (fun (_ : Unit) => mow G ad z fo sv d pa ke ik fa te aw) := by
  refine Mi.of (cc := cX8_at) (nL := 2) (by decide) (Nat.le_of_ble_eq_true rfl) ?_
  intro p e s m below meth c A ls F hr hlocks hnm hX hA hD hP hS hl
  have F : CallFix p m c cX8_at 2 s [.ref (ad 0), .int (nI k)].toArray wA RX8 := F
  obtain ⟨hx, hb, hml, hown, hts⟩ := id F
  have hl : lv_has ls 2 [(0, .ref (ad 0)), (1, .int (nI k))] := hl
  refine lv_iload_n hx hb dX8_at_0 rfl (lv_at hl 1 rfl) ?_
  refine lv_aload_n hx hb dX8_at_1 rfl (lv_at hl 0 rfl) ?_
  refine va_get (D := G.1) (ci := 7) (v := .int (nI (z 10))) (C := RX8) (T := TX8) (N := 17) hx hb hts inA8 hown hX.1 hP 0 rfl rfl 10 (by decide) (hts _ kw_690) (fun _ h9 => h9) rfl dX8_at_2 ?_
  refine nv_ge (x := k) (y := z 10) (tgt := 21) hx hb dX8_at_5 (by decide) (by omega) (by omega) (fun c5 => ?_) (fun c5 => ?_)
  · refine lv_iconst (v := (-1)) hx hb dX8_at_21 (by decide) ?_
    exact re_i (v := (-1)) hx hb hr hlocks hS () hP hD (by rw [atI, if_neg (Nat.not_lt.mpr c5)]) dX8_at_22
  · refine lv_aload_n hx hb dX8_at_8 rfl (lv_at hl 0 rfl) ?_
    refine va_get (D := G.1) (ci := 7) (v := .ref (ad 7)) (C := RX8) (T := TX8) (N := 17) hx hb hts inA8 hown hX.1 hP 0 rfl rfl 9 (by decide) (hts _ kw_689) (fun _ h9 => h9) rfl dX8_at_9 ?_
    refine lv_iload_n hx hb dX8_at_12 rfl (lv_at hl 1 rfl) ?_
    refine va_bald (f := fun j => sb_b (te j)) hx hb hX.1 hP 7 2 rfl rfl (vp_in_nI (n := k) (N := 120) (by omega) (by decide)) dX8_at_13 ?_
    refine ti (y := (sb_b (te k))) (by rw [nI_clamp (by omega)]) ?_
    refine lv_sipush (v := (nI 255)) hx hb dX8_at_14 (by decide) ?_
    refine lv_iand hx hb dX8_at_17 (ti (y := (nI (te k))) (show sb_b _ &&& nI 255 = _ from (sb_byte _ (ht9 _)).1) ?_)
    refine lv_goto (tgt := 22) hx hb dX8_at_18 (by decide) ?_
    exact re_i (v := (nI (te k))) hx hb hr hlocks hS () hP hD (by rw [atI, if_pos c5]) dX8_at_22

theorem hdX8_code : hdOK yX8_code 0 := by decide +kernel
set_option maxHeartbeats 4000000 in
set_option maxRecDepth 100000 in
theorem mX8_code (l : Launch) (G : GG) (ad : Nat → Nat) (z : Nat → Nat) (fo : Option Nat) (sv : Nat → Nat) (d : Nat → Int32) (pa ke : Nat → Nat) (ik fa : Nat → Int32) (te aw : Nat → Nat) (ht9 : ∀ j, te j < 256) (hz : z 10 ≤ 120) (h1 : z 11 ≤ z 12) (h2 : z 12 ≤ z 10) (h6 : z 12 - z 11 ≤ 6) (hL : ∀ j, z 11 ≤ j → j < z 12 → isL te j = true) : Mi l yX8_code cX8_code 3 (some .int) (rmN 1 21) G [.ref (ad 0)] (mow G ad z fo sv d pa ke ik fa te aw) (fun (r9 : Int32) (_ : Unit) => r9 = (nI (cdN te (z 11) (z 12 - z 11)))) (fun (_ : Unit) => mow G ad z fo sv d pa ke ik fa te aw) := by
  refine Mi.of (cc := cX8_code) (nL := 3) (by decide) (Nat.le_of_ble_eq_true rfl) ?_
  intro p e s m below meth c A ls F hr hlocks hnm hX hA hD hP hS hl
  have F : CallFix p m c cX8_code 3 s [.ref (ad 0)].toArray wA RX8 := F
  obtain ⟨hx, hb, hml, hown, hts⟩ := id F
  have hl : lv_has ls 3 [(0, .ref (ad 0))] := hl
  refine lv_iconst (v := (nI 0)) hx hb dX8_code_0 (by decide) ?_
  refine lv_istore_n (lv' := [(1, .int (nI 0)), (0, .ref (ad 0))]) hx hb dX8_code_1 rfl hl (by decide) rfl (fun ls hl => ?_)
  refine lv_aload_n hx hb dX8_code_2 rfl (lv_at hl 1 rfl) ?_
  refine va_get (D := G.1) (ci := 7) (v := .int (nI (z 11))) (C := RX8) (T := TX8) (N := 17) hx hb hts inA8 hown hX.1 hP 0 rfl rfl 11 (by decide) (hts _ kw_691) (fun _ h9 => h9) rfl dX8_code_3 ?_
  refine lv_istore_n (lv' := [(2, .int (nI (z 11))), (1, .int (nI 0)), (0, .ref (ad 0))]) hx hb dX8_code_6 rfl hl (by decide) rfl (fun ls hl => ?_)
  have lp7 : ∀ (n7 : Nat) (i : Nat) (x : Nat), (z 12 - i) < n7 → x = cdN te (z 11) i → (i ≤ z 12 - z 11) → ∀ (H : Heap) (locs : List Loc), va_P G.1 vwCl (mow G ad z fo sv d pa ke ik fa te aw) H → va_D A (mow G ad z fo sv d pa ke ik fa te aw) → va_S A s.heap H locs → ∀ (ls : Array Slot), lv_has ls 3 [(0, .ref (ad 0)), (1, .int (nI x)), (2, .int (nI (z 11 + i)))] → WI p l e (rmN 1 21) s m [.ref (ad 0)] below meth c H locs G A (fun (r9 : Int32) (_ : Unit) => r9 = (nI (cdN te (z 11) (z 12 - z 11)))) (fun (_ : Unit) => mow G ad z fo sv d pa ke ik fa te aw) (F0 m 7 ls []) := by
    intro n7
    induction n7 with
    | zero => intro i x h9; exact absurd h9 (Nat.not_lt_zero _)
    | succ n7 ih7 =>
      intro i x hm7 e_x hi H locs hP hD hS ls hl
      subst e_x
      refine lv_iload_n hx hb dX8_code_7 rfl (lv_at hl 2 rfl) ?_
      refine lv_aload_n hx hb dX8_code_8 rfl (lv_at hl 0 rfl) ?_
      refine va_get (D := G.1) (ci := 7) (v := .int (nI (z 12))) (C := RX8) (T := TX8) (N := 17) hx hb hts inA8 hown hX.1 hP 0 rfl rfl 12 (by decide) (hts _ kw_692) (fun _ h9 => h9) rfl dX8_code_9 ?_
      refine nv_ge (x := z 11 + i) (y := z 12) (tgt := 35) hx hb dX8_code_12 (by decide) (by omega) (by omega) (fun c12 => ?_) (fun c12 => ?_)
      · refine lv_iload_n hx hb dX8_code_35 rfl (lv_at hl 1 rfl) ?_
        exact re_i (v := (nI (cdN te (z 11) i))) hx hb hr hlocks hS () hP hD (by have e9 : i = z 12 - z 11 := (by omega); rw [e9]) dX8_code_36
      · refine lv_bipush (v := (nI 27)) hx hb dX8_code_15 (by decide) ?_
        refine lv_iload_n hx hb dX8_code_17 rfl (lv_at hl 1 rfl) ?_
        refine lv_imul hx hb dX8_code_18 (ti (y := (nI (27 * (cdN te (z 11) i)))) (pk_mul _ _) ?_)
        refine lv_aload_n hx hb dX8_code_19 rfl (lv_at hl 0 rfl) ?_
        refine lv_iload_n hx hb dX8_code_20 rfl (lv_at hl 2 rfl) ?_
        refine ca_Vi (ci := 7) (q := (RX8, TX8, 17)) (rest := [.int (nI (27 * (cdN te (z 11) i)))]) (wr := ([] : va_W)) F hX (mX8_at l G ad z fo sv d pa ke ik fa te aw (z 11 + i) ht9 (by omega) (by omega)) (cA_V hts kw_758 kw_8 kw_755 kw_757 kp_21 hdX8_at ⟨Nat.le_of_ble_eq_true rfl, Nat.le_of_ble_eq_true rfl⟩) rfl rfl rfl hl.1 rfl (Nat.le_of_ble_eq_true rfl) dX8_code_21 ⟨Nat.le_of_ble_eq_true rfl, Nat.le_of_ble_eq_true rfl⟩ hP hD hS hA (pm_nil _) (fun r21 u21 H locs hp21 hP hD hS => ?_)
        have hP : va_P G.1 vwCl (mow G ad z fo sv d pa ke ik fa te aw) H := wp_pm (pm_nil _).symm hP
        have hD : va_D A (mow G ad z fo sv d pa ke ik fa te aw) := wd_pm (pm_nil _).symm hD
        subst hp21
        refine ti (y := (nI (te (z 11 + i)))) (by rw [atI, if_pos (by omega)]) ?_
        refine lv_iadd hx hb dX8_code_24 (ti (y := (nI ((27 * (cdN te (z 11) i)) + (te (z 11 + i))))) (nI_add _ _) ?_)
        refine lv_bipush (v := (nI 96)) hx hb dX8_code_25 (by decide) ?_
        refine lv_isub hx hb dX8_code_27 (ti (y := (nI (((27 * (cdN te (z 11) i)) + (te (z 11 + i))) - 96))) (pk_sub (by have h9 : 97 ≤ te (z 11 + i) ∧ te (z 11 + i) ≤ 122 := of_decide_eq_true (hL (z 11 + i) (by omega) (by omega)); omega)) ?_)
        refine lv_istore_n (lv' := [(1, .int (nI (((27 * (cdN te (z 11) i)) + (te (z 11 + i))) - 96))), (0, .ref (ad 0)), (2, .int (nI (z 11 + i)))]) hx hb dX8_code_28 rfl hl (by decide) rfl (fun ls hl => ?_)
        refine lv_iinc (v := (nI ((z 11 + i) + 1))) (lv' := [(2, .int (nI ((z 11 + i) + 1))), (1, .int (nI (((27 * (cdN te (z 11) i)) + (te (z 11 + i))) - 96))), (0, .ref (ad 0))]) hx hb dX8_code_29 hl (k := 2) rfl (qn_inc _) (by decide) rfl (fun ls hl => ?_)
        refine lv_goto (tgt := 7) hx hb dX8_code_32 (by decide) ?_
        exact ih7 (i + 1) (((27 * (cdN te (z 11) i)) + (te (z 11 + i))) - 96) (by omega) rfl (by omega) _ _ hP hD hS ls (lv_sub hl [2, 1, 0] rfl)
  exact lp7 _ 0 0 (Nat.lt_succ_self _) rfl (Nat.zero_le _) _ _ hP hD hS ls (lv_sub hl [2, 1, 0] rfl)

theorem opt_c (o : Option Nat) : o = none ∨ ∃ q, o = some q := by
  cases o with
  | none => exact Or.inl rfl
  | some q => exact Or.inr ⟨q, rfl⟩
theorem y_0 {y : Nat} {b : Bool} (h : y = 1 ↔ b = true) (h0 : y = 0) : b = false := by
  cases b with
  | false => rfl
  | true => have := h.mpr rfl; omega
theorem cd5 (c : Nat) : c = 243146 ∨ c = 6564179 ∨ c = 7738489 ∨ c = 281027399 ∨ (c ≠ 243146 ∧ c ≠ 6564179 ∧ c ≠ 7738489 ∧ c ≠ 281027399) := by omega
theorem ty8 (x : Nat) : x = 1 ∨ x = 2 ∨ x = 3 ∨ x = 4 ∨ (x ≠ 1 ∧ x ≠ 2 ∧ x ≠ 3 ∧ x ≠ 4) := by omega

theorem hdX8_wordOf : hdOK yX8_wordOf 0 := by decide +kernel
set_option maxHeartbeats 4000000 in
set_option maxRecDepth 100000 in
theorem mX8_wordOf (l : Launch) (G : GG) (ad : Nat → Nat) (z : Nat → Nat) (fo : Option Nat) (sv : Nat → Nat) (d : Nat → Int32) (pa ke : Nat → Nat) (ik fa : Nat → Int32) (te aw : Nat → Nat) (ht9 : ∀ j, te j < 256) (hz : z 10 ≤ 120) (h1 : z 11 ≤ z 12) (h2 : z 12 ≤ z 10) (hL : ∀ j, z 11 ≤ j → j < z 12 → isL te j = true) : Mi l yX8_wordOf cX8_wordOf 1 (some .int) (rmN 2 43) G [.ref (ad 0)] (mow G ad z fo sv d pa ke ik fa te aw) (fun (r9 : Int32) (_ : Unit) => r9 = (nI (wdM te (z 11) (z 12)))) (fun (_ : Unit) => mow G ad z fo sv d pa ke ik fa te aw) := by
  refine Mi.of (cc := cX8_wordOf) (nL := 1) (by decide) (Nat.le_of_ble_eq_true rfl) ?_
  intro p e s m below meth c A ls F hr hlocks hnm hX hA hD hP hS hl
  have F : CallFix p m c cX8_wordOf 1 s [.ref (ad 0)].toArray wA RX8 := F
  obtain ⟨hx, hb, hml, hown, hts⟩ := id F
  have hl : lv_has ls 1 [(0, .ref (ad 0))] := hl
  have hcd : z 12 - z 11 ≤ 6 → cdN te (z 11) (z 12 - z 11) < 2 ^ 30 := fun h6 => cdN_lt6 (fun j hj => hL (z 11 + j) (by omega) (by omega)) h6
  refine lv_aload_n hx hb dX8_wordOf_0 rfl (lv_at hl 0 rfl) ?_
  refine va_get (D := G.1) (ci := 7) (v := .int (nI (z 12))) (C := RX8) (T := TX8) (N := 17) hx hb hts inA8 hown hX.1 hP 0 rfl rfl 12 (by decide) (hts _ kw_692) (fun _ h9 => h9) rfl dX8_wordOf_1 ?_
  refine lv_aload_n hx hb dX8_wordOf_4 rfl (lv_at hl 0 rfl) ?_
  refine va_get (D := G.1) (ci := 7) (v := .int (nI (z 11))) (C := RX8) (T := TX8) (N := 17) hx hb hts inA8 hown hX.1 hP 0 rfl rfl 11 (by decide) (hts _ kw_691) (fun _ h9 => h9) rfl dX8_wordOf_5 ?_
  refine lv_isub hx hb dX8_wordOf_8 (ti (y := (nI ((z 12) - (z 11)))) (pk_sub (by omega)) ?_)
  refine lv_bipush (v := (nI 6)) hx hb dX8_wordOf_9 (by decide) ?_
  refine nv_le (x := (z 12) - (z 11)) (y := 6) (tgt := 17) hx hb dX8_wordOf_11 (by decide) (by omega) (by decide) (fun c11 => ?_) (fun c11 => ?_)
  · refine lv_aload_n hx hb dX8_wordOf_17 rfl (lv_at hl 0 rfl) ?_
    refine ca_Vi (ci := 7) (q := (RX8, TX8, 17)) (rest := []) (wr := ([] : va_W)) F hX (mX8_code l G ad z fo sv d pa ke ik fa te aw  ht9 hz h1 h2 c11 hL) (cA_V hts kw_766 kw_8 kw_763 kw_765 kp_23 hdX8_code ⟨Nat.le_of_ble_eq_true rfl, Nat.le_of_ble_eq_true rfl⟩) rfl rfl rfl hl.1 rfl (Nat.le_of_ble_eq_true rfl) dX8_wordOf_18 ⟨Nat.le_of_ble_eq_true rfl, Nat.le_of_ble_eq_true rfl⟩ hP hD hS hA (pm_nil _) (fun r18 u18 H locs hp18 hP hD hS => ?_)
    have hP : va_P G.1 vwCl (mow G ad z fo sv d pa ke ik fa te aw) H := wp_pm (pm_nil _).symm hP
    have hD : va_D A (mow G ad z fo sv d pa ke ik fa te aw) := wd_pm (pm_nil _).symm hD
    subst hp18
    rcases cd5 (cdN te (z 11) (z 12 - z 11)) with hw | hw | hw | hw | hw
    · refine ti (y := nI 243146) (by rw [hw]) ?_
      refine lv_lookup (off := 49) (tgt := 70) hx hb dX8_wordOf_21 (by decide) (by decide +kernel) (by decide) ?_
      refine lv_iconst (v := (nI 4)) hx hb dX8_wordOf_70 (by decide) ?_
      exact re_i (v := (nI 4)) hx hb hr hlocks hS () hP hD (by rw [wdM, if_neg (by omega), hw]; rfl) dX8_wordOf_71
    · refine ti (y := nI 6564179) (by rw [hw]) ?_
      refine lv_lookup (off := 47) (tgt := 68) hx hb dX8_wordOf_21 (by decide) (by decide +kernel) (by decide) ?_
      refine lv_iconst (v := (nI 3)) hx hb dX8_wordOf_68 (by decide) ?_
      exact re_i (v := (nI 3)) hx hb hr hlocks hS () hP hD (by rw [wdM, if_neg (by omega), hw]; rfl) dX8_wordOf_69
    · refine ti (y := nI 7738489) (by rw [hw]) ?_
      refine lv_lookup (off := 43) (tgt := 64) hx hb dX8_wordOf_21 (by decide) (by decide +kernel) (by decide) ?_
      refine lv_iconst (v := (nI 1)) hx hb dX8_wordOf_64 (by decide) ?_
      exact re_i (v := (nI 1)) hx hb hr hlocks hS () hP hD (by rw [wdM, if_neg (by omega), hw]; rfl) dX8_wordOf_65
    · refine ti (y := nI 281027399) (by rw [hw]) ?_
      refine lv_lookup (off := 45) (tgt := 66) hx hb dX8_wordOf_21 (by decide) (by decide +kernel) (by decide) ?_
      refine lv_iconst (v := (nI 2)) hx hb dX8_wordOf_66 (by decide) ?_
      exact re_i (v := (nI 2)) hx hb hr hlocks hS () hP hD (by rw [wdM, if_neg (by omega), hw]; rfl) dX8_wordOf_67
    · refine lv_lookup (x := (nI (cdN te (z 11) (z 12 - z 11)))) (off := 51) (tgt := 72) hx hb dX8_wordOf_21 (by decide) (lk_def (by have := hcd c11; omega) hw.1 hw.2.1 hw.2.2.1 hw.2.2.2) (by decide) ?_
      refine lv_bipush (v := (nI 7)) hx hb dX8_wordOf_72 (by decide) ?_
      exact re_i (v := (nI 7)) hx hb hr hlocks hS () hP hD (by rw [wdM, if_neg (by omega), wcN, if_neg hw.1, if_neg hw.2.1, if_neg hw.2.2.1, if_neg hw.2.2.2]) dX8_wordOf_74
  · refine lv_bipush (v := (nI 7)) hx hb dX8_wordOf_14 (by decide) ?_
    exact re_i (v := (nI 7)) hx hb hr hlocks hS () hP hD (by rw [wdM, if_pos c11]) dX8_wordOf_16

theorem hdX8_steps : hdOK yX8_steps 0 := by decide +kernel
set_option maxHeartbeats 4000000 in
set_option maxRecDepth 100000 in
theorem mX8_steps (l : Launch) (G : GG) (ad : Nat → Nat) (z : Nat → Nat) (fo : Option Nat) (sv : Nat → Nat) (d : Nat → Int32) (pa ke : Nat → Nat) (ik fa : Nat → Int32) (te aw : Nat → Nat) (ht9 : ∀ j, te j < 256) (hz : z 10 ≤ 120) (h2 : z 12 ≤ z 10) : Mv l yX8_steps cX8_steps 1 none (rmN 3 63) G [.ref (ad 0)] (mow G ad z fo sv d pa ke ik fa te aw) (fun (_ : Unit) => True) (fun (_ : Unit) => mow G ad (stZ te z) fo sv d pa ke ik fa te aw) := by
  refine Mv.of (cc := cX8_steps) (nL := 1) (by decide) (Nat.le_of_ble_eq_true rfl) ?_
  intro p e s m below meth c A ls F hr hlocks hnm hX hA hD hP hS hl
  have F : CallFix p m c cX8_steps 1 s [.ref (ad 0)].toArray wA RX8 := F
  obtain ⟨hx, hb, hml, hown, hts⟩ := id F
  have hl : lv_has ls 1 [(0, .ref (ad 0))] := hl
  refine lv_aload_n hx hb dX8_steps_0 rfl (lv_at hl 0 rfl) ?_
  refine lv_aload_n hx hb dX8_steps_1 rfl (lv_at hl 0 rfl) ?_
  refine va_get (D := G.1) (ci := 7) (v := .int (nI (z 12))) (C := RX8) (T := TX8) (N := 17) hx hb hts inA8 hown hX.1 hP 0 rfl rfl 12 (by decide) (hts _ kw_692) (fun _ h9 => h9) rfl dX8_steps_2 ?_
  refine va_put (D := G.1) (ci := 7) (v := .int (nI (z 12))) (ty := .int) (C := RX8) (T := TX8) (N := 17) hx hb hts inA8 tyX8 tyX8_ok nmX8 hown hX.1 hP hD hS 0 rfl rfl 11 (by decide) (hts _ kw_691) (fun _ h9 => h9) rfl (by decide +kernel) rfl rfl (Nat.le_of_ble_eq_true rfl) dX8_steps_5 (fun H locs hP hD hS => ?_)
  have hP : va_P G.1 vwCl (mow G ad (va_up z 11 (z 12)) fo sv d pa ke ik fa te aw) H := hP
  have hD : va_D A (mow G ad (va_up z 11 (z 12)) fo sv d pa ke ik fa te aw) := hD
  have lp8 : ∀ (n8 : Nat) (s9 : Nat), (z 10 - s9) < n8 → (s9 ≤ z 10) → (runP (isB te) (z 10) (z 10 - s9) s9 = tS te (z 10) (z 12)) → ∀ (H : Heap) (locs : List Loc), va_P G.1 vwCl (mow G ad (va_up z 11 s9) fo sv d pa ke ik fa te aw) H → va_D A (mow G ad (va_up z 11 s9) fo sv d pa ke ik fa te aw) → va_S A s.heap H locs → ∀ (ls : Array Slot), lv_has ls 1 [(0, .ref (ad 0))] → WV p l e (rmN 3 63) s m [.ref (ad 0)] below meth c H locs G A (fun (_ : Unit) => True) (fun (_ : Unit) => mow G ad (stZ te z) fo sv d pa ke ik fa te aw) (F0 m 8 ls []) := by
    intro n8
    induction n8 with
    | zero => intro s9 h9; exact absurd h9 (Nat.not_lt_zero _)
    | succ n8 ih8 =>
      intro s9 hm8  h8 hi8 H locs hP hD hS ls hl
      refine lv_aload_n hx hb dX8_steps_8 rfl (lv_at hl 0 rfl) ?_
      refine lv_aload_n hx hb dX8_steps_9 rfl (lv_at hl 0 rfl) ?_
      refine va_get (D := G.1) (ci := 7) (v := .int (nI s9)) (C := RX8) (T := TX8) (N := 17) hx hb hts inA8 hown hX.1 hP 0 rfl rfl 11 (by decide) (hts _ kw_691) (fun _ h9 => h9) rfl dX8_steps_10 ?_
      refine ca_Vi (ci := 7) (q := (RX8, TX8, 17)) (rest := []) (wr := ([] : va_W)) F hX (mX8_at l G ad (va_up z 11 s9) fo sv d pa ke ik fa te aw s9 ht9 hz (by omega)) (cA_V hts kw_758 kw_8 kw_755 kw_757 kp_21 hdX8_at ⟨Nat.le_of_ble_eq_true rfl, Nat.le_of_ble_eq_true rfl⟩) rfl rfl rfl hl.1 rfl (Nat.le_of_ble_eq_true rfl) dX8_steps_13 ⟨Nat.le_of_ble_eq_true rfl, Nat.le_of_ble_eq_true rfl⟩ hP hD hS hA (pm_nil _) (fun r13 u13 H locs hp13 hP hD hS => ?_)
      have hP : va_P G.1 vwCl (mow G ad (va_up z 11 s9) fo sv d pa ke ik fa te aw) H := wp_pm (pm_nil _).symm hP
      have hD : va_D A (mow G ad (va_up z 11 s9) fo sv d pa ke ik fa te aw) := wd_pm (pm_nil _).symm hD
      subst hp13
      by_cases h16 : s9 < z 10
      · refine ti (y := nI (te s9)) (if_pos h16) ?_
        refine lv_bipush (v := (nI 32)) hx hb dX8_steps_16 (by decide) ?_
        refine nv_ne (x := te s9) (y := 32) (tgt := 34) hx hb dX8_steps_18 (by decide) (by have := ht9 s9; omega) (by decide) (fun c18 => ?_) (fun c18 => ?_)
        · refine lv_aload_n hx hb dX8_steps_34 rfl (lv_at hl 0 rfl) ?_
          refine lv_aload_n hx hb dX8_steps_35 rfl (lv_at hl 0 rfl) ?_
          refine va_get (D := G.1) (ci := 7) (v := .int (nI s9)) (C := RX8) (T := TX8) (N := 17) hx hb hts inA8 hown hX.1 hP 0 rfl rfl 11 (by decide) (hts _ kw_691) (fun _ h9 => h9) rfl dX8_steps_36 ?_
          refine va_put (D := G.1) (ci := 7) (v := .int (nI s9)) (ty := .int) (C := RX8) (T := TX8) (N := 17) hx hb hts inA8 tyX8 tyX8_ok nmX8 hown hX.1 hP hD hS 0 rfl rfl 12 (by decide) (hts _ kw_692) (fun _ h9 => h9) rfl (by decide +kernel) rfl rfl (Nat.le_of_ble_eq_true rfl) dX8_steps_39 (fun H locs hP hD hS => ?_)
          have hP : va_P G.1 vwCl (mow G ad (va_up (va_up z 11 s9) 12 s9) fo sv d pa ke ik fa te aw) H := hP
          have hD : va_D A (mow G ad (va_up (va_up z 11 s9) 12 s9) fo sv d pa ke ik fa te aw) := hD
          refine lv_aload_n hx hb dX8_steps_42 rfl (lv_at hl 0 rfl) ?_
          refine lv_aload_n hx hb dX8_steps_43 rfl (lv_at hl 0 rfl) ?_
          refine va_get (D := G.1) (ci := 7) (v := .int (nI s9)) (C := RX8) (T := TX8) (N := 17) hx hb hts inA8 hown hX.1 hP 0 rfl rfl 12 (by decide) (hts _ kw_692) (fun _ h9 => h9) rfl dX8_steps_44 ?_
          refine ca_Vi (ci := 7) (q := (RX8, TX8, 17)) (rest := []) (wr := ([] : va_W)) F hX (mX8_at l G ad (va_up (va_up z 11 s9) 12 s9) fo sv d pa ke ik fa te aw s9 ht9 hz (by omega)) (cA_V hts kw_758 kw_8 kw_755 kw_757 kp_21 hdX8_at ⟨Nat.le_of_ble_eq_true rfl, Nat.le_of_ble_eq_true rfl⟩) rfl rfl rfl hl.1 rfl (Nat.le_of_ble_eq_true rfl) dX8_steps_47 ⟨Nat.le_of_ble_eq_true rfl, Nat.le_of_ble_eq_true rfl⟩ hP hD hS hA (pm_nil _) (fun r47 u47 H locs hp47 hP hD hS => ?_)
          have hP : va_P G.1 vwCl (mow G ad (va_up (va_up z 11 s9) 12 s9) fo sv d pa ke ik fa te aw) H := wp_pm (pm_nil _).symm hP
          have hD : va_D A (mow G ad (va_up (va_up z 11 s9) 12 s9) fo sv d pa ke ik fa te aw) := wd_pm (pm_nil _).symm hD
          subst hp47
          refine ti (y := (nI (te s9))) (if_pos h16) ?_
          refine nv_zge (x := te s9) (tgt := 61) hx hb dX8_steps_50 (by decide) (by have := ht9 s9; omega) ?_
          refine lv_aload_n hx hb dX8_steps_61 rfl (lv_at hl 0 rfl) ?_
          refine lv_aload_n hx hb dX8_steps_62 rfl (lv_at hl 0 rfl) ?_
          refine va_get (D := G.1) (ci := 7) (v := .int (nI s9)) (C := RX8) (T := TX8) (N := 17) hx hb hts inA8 hown hX.1 hP 0 rfl rfl 12 (by decide) (hts _ kw_692) (fun _ h9 => h9) rfl dX8_steps_63 ?_
          refine ca_Vi (ci := 7) (q := (RX8, TX8, 17)) (rest := []) (wr := ([] : va_W)) F hX (mX8_at l G ad (va_up (va_up z 11 s9) 12 s9) fo sv d pa ke ik fa te aw s9 ht9 hz (by omega)) (cA_V hts kw_758 kw_8 kw_755 kw_757 kp_21 hdX8_at ⟨Nat.le_of_ble_eq_true rfl, Nat.le_of_ble_eq_true rfl⟩) rfl rfl rfl hl.1 rfl (Nat.le_of_ble_eq_true rfl) dX8_steps_66 ⟨Nat.le_of_ble_eq_true rfl, Nat.le_of_ble_eq_true rfl⟩ hP hD hS hA (pm_nil _) (fun r66 u66 H locs hp66 hP hD hS => ?_)
          have hP : va_P G.1 vwCl (mow G ad (va_up (va_up z 11 s9) 12 s9) fo sv d pa ke ik fa te aw) H := wp_pm (pm_nil _).symm hP
          have hD : va_D A (mow G ad (va_up (va_up z 11 s9) 12 s9) fo sv d pa ke ik fa te aw) := wd_pm (pm_nil _).symm hD
          subst hp66
          refine ti (y := (nI (te s9))) (if_pos h16) ?_
          refine lv_bipush (v := (nI 48)) hx hb dX8_steps_69 (by decide) ?_
          refine lv_bipush (v := (nI 57)) hx hb dX8_steps_71 (by decide) ?_
          refine ca_Si (rest := []) (wr := mow G ad (va_up (va_up z 11 s9) 12 s9) fo sv d pa ke ik fa te aw) F hX (mX8_in l G (nI (te s9)) (nI 48) (nI 57)) (cA_S hts kw_738 kw_8 kw_736 kw_737 hdX8_in ⟨Nat.le_of_ble_eq_true rfl, Nat.le_of_ble_eq_true rfl⟩) rfl hl.1 rfl (Nat.le_of_ble_eq_true rfl) dX8_steps_73 ⟨Nat.le_of_ble_eq_true rfl, Nat.le_of_ble_eq_true rfl⟩ hP hD hS hA (List.Perm.refl _) (fun r73 u73 H locs hp73 hP hD hS => ?_)
          have hP : va_P G.1 vwCl (mow G ad (va_up (va_up z 11 s9) 12 s9) fo sv d pa ke ik fa te aw) H := hP
          have hD : va_D A (mow G ad (va_up (va_up z 11 s9) 12 s9) fo sv d pa ke ik fa te aw) := hD
          subst hp73
          refine ti (y := (bI (isD te s9))) (by rw [in_nn (by decide) (by have := ht9 s9; omega) (by decide)]; rfl) ?_
          refine bv_eq (b := isD te s9) (tgt := 136) hx hb dX8_steps_76 (by decide) (fun c76 => ?_) (fun c76 => ?_)
          · refine lv_aload_n hx hb dX8_steps_136 rfl (lv_at hl 0 rfl) ?_
            refine lv_aload_n hx hb dX8_steps_137 rfl (lv_at hl 0 rfl) ?_
            refine va_get (D := G.1) (ci := 7) (v := .int (nI s9)) (C := RX8) (T := TX8) (N := 17) hx hb hts inA8 hown hX.1 hP 0 rfl rfl 12 (by decide) (hts _ kw_692) (fun _ h9 => h9) rfl dX8_steps_138 ?_
            refine ca_Vi (ci := 7) (q := (RX8, TX8, 17)) (rest := []) (wr := ([] : va_W)) F hX (mX8_at l G ad (va_up (va_up z 11 s9) 12 s9) fo sv d pa ke ik fa te aw s9 ht9 hz (by omega)) (cA_V hts kw_758 kw_8 kw_755 kw_757 kp_21 hdX8_at ⟨Nat.le_of_ble_eq_true rfl, Nat.le_of_ble_eq_true rfl⟩) rfl rfl rfl hl.1 rfl (Nat.le_of_ble_eq_true rfl) dX8_steps_141 ⟨Nat.le_of_ble_eq_true rfl, Nat.le_of_ble_eq_true rfl⟩ hP hD hS hA (pm_nil _) (fun r141 u141 H locs hp141 hP hD hS => ?_)
            have hP : va_P G.1 vwCl (mow G ad (va_up (va_up z 11 s9) 12 s9) fo sv d pa ke ik fa te aw) H := wp_pm (pm_nil _).symm hP
            have hD : va_D A (mow G ad (va_up (va_up z 11 s9) 12 s9) fo sv d pa ke ik fa te aw) := wd_pm (pm_nil _).symm hD
            subst hp141
            refine ti (y := (nI (te s9))) (if_pos h16) ?_
            refine lv_bipush (v := (nI 97)) hx hb dX8_steps_144 (by decide) ?_
            refine lv_bipush (v := (nI 122)) hx hb dX8_steps_146 (by decide) ?_
            refine ca_Si (rest := []) (wr := mow G ad (va_up (va_up z 11 s9) 12 s9) fo sv d pa ke ik fa te aw) F hX (mX8_in l G (nI (te s9)) (nI 97) (nI 122)) (cA_S hts kw_738 kw_8 kw_736 kw_737 hdX8_in ⟨Nat.le_of_ble_eq_true rfl, Nat.le_of_ble_eq_true rfl⟩) rfl hl.1 rfl (Nat.le_of_ble_eq_true rfl) dX8_steps_148 ⟨Nat.le_of_ble_eq_true rfl, Nat.le_of_ble_eq_true rfl⟩ hP hD hS hA (List.Perm.refl _) (fun r148 u148 H locs hp148 hP hD hS => ?_)
            have hP : va_P G.1 vwCl (mow G ad (va_up (va_up z 11 s9) 12 s9) fo sv d pa ke ik fa te aw) H := hP
            have hD : va_D A (mow G ad (va_up (va_up z 11 s9) 12 s9) fo sv d pa ke ik fa te aw) := hD
            subst hp148
            refine ti (y := (bI (isL te s9))) (by rw [in_nn (by decide) (by have := ht9 s9; omega) (by decide)]; rfl) ?_
            refine bv_eq (b := isL te s9) (tgt := 196) hx hb dX8_steps_151 (by decide) (fun c151 => ?_) (fun c151 => ?_)
            · refine lv_aload_n hx hb dX8_steps_196 rfl (lv_at hl 0 rfl) ?_
              refine lv_aload_n hx hb dX8_steps_197 rfl (lv_at hl 0 rfl) ?_
              refine lv_aload_n hx hb dX8_steps_198 rfl (lv_at hl 0 rfl) ?_
              refine va_get (D := G.1) (ci := 7) (v := .int (nI s9)) (C := RX8) (T := TX8) (N := 17) hx hb hts inA8 hown hX.1 hP 0 rfl rfl 12 (by decide) (hts _ kw_692) (fun _ h9 => h9) rfl dX8_steps_199 ?_
              refine ca_Vi (ci := 7) (q := (RX8, TX8, 17)) (rest := [.ref (ad 0)]) (wr := ([] : va_W)) F hX (mX8_at l G ad (va_up (va_up z 11 s9) 12 s9) fo sv d pa ke ik fa te aw s9 ht9 hz (by omega)) (cA_V hts kw_758 kw_8 kw_755 kw_757 kp_21 hdX8_at ⟨Nat.le_of_ble_eq_true rfl, Nat.le_of_ble_eq_true rfl⟩) rfl rfl rfl hl.1 rfl (Nat.le_of_ble_eq_true rfl) dX8_steps_202 ⟨Nat.le_of_ble_eq_true rfl, Nat.le_of_ble_eq_true rfl⟩ hP hD hS hA (pm_nil _) (fun r202 u202 H locs hp202 hP hD hS => ?_)
              have hP : va_P G.1 vwCl (mow G ad (va_up (va_up z 11 s9) 12 s9) fo sv d pa ke ik fa te aw) H := wp_pm (pm_nil _).symm hP
              have hD : va_D A (mow G ad (va_up (va_up z 11 s9) 12 s9) fo sv d pa ke ik fa te aw) := wd_pm (pm_nil _).symm hD
              subst hp202
              refine ti (y := (nI (te s9))) (if_pos h16) ?_
              refine lv_bipush (v := (nI 59)) hx hb dX8_steps_205 (by decide) ?_
              refine nv_ne (x := te s9) (y := 59) (tgt := 215) hx hb dX8_steps_207 (by decide) (by have := ht9 s9; omega) (by decide) (fun c207 => ?_) (fun c207 => ?_)
              · refine lv_bipush (v := (nI 7)) hx hb dX8_steps_215 (by decide) ?_
                refine va_put (D := G.1) (ci := 7) (v := .int (nI 7)) (ty := .int) (C := RX8) (T := TX8) (N := 17) hx hb hts inA8 tyX8 tyX8_ok nmX8 hown hX.1 hP hD hS 0 rfl rfl 13 (by decide) (hts _ kw_693) (fun _ h9 => h9) rfl (by decide +kernel) rfl rfl (Nat.le_of_ble_eq_true rfl) dX8_steps_217 (fun H locs hP hD hS => ?_)
                have hP : va_P G.1 vwCl (mow G ad (va_up (va_up (va_up z 11 s9) 12 s9) 13 7) fo sv d pa ke ik fa te aw) H := hP
                have hD : va_D A (mow G ad (va_up (va_up (va_up z 11 s9) 12 s9) 13 7) fo sv d pa ke ik fa te aw) := hD
                refine lv_aload_n hx hb dX8_steps_220 rfl (lv_at hl 0 rfl) ?_
                refine lv_dup hx hb dX8_steps_221 rfl ?_
                refine va_get (D := G.1) (ci := 7) (v := .int (nI s9)) (C := RX8) (T := TX8) (N := 17) hx hb hts inA8 hown hX.1 hP 0 rfl rfl 12 (by decide) (hts _ kw_692) (fun _ h9 => h9) rfl dX8_steps_222 ?_
                refine lv_iconst (v := (nI 1)) hx hb dX8_steps_225 (by decide) ?_
                refine lv_iadd hx hb dX8_steps_226 (ti (y := (nI (s9 + 1))) (nI_add _ _) ?_)
                refine va_put (D := G.1) (ci := 7) (v := .int (nI (s9 + 1))) (ty := .int) (C := RX8) (T := TX8) (N := 17) hx hb hts inA8 tyX8 tyX8_ok nmX8 hown hX.1 hP hD hS 0 rfl rfl 12 (by decide) (hts _ kw_692) (fun _ h9 => h9) rfl (by decide +kernel) rfl rfl (Nat.le_of_ble_eq_true rfl) dX8_steps_227 (fun H locs hP hD hS => ?_)
                have hP : va_P G.1 vwCl (mow G ad (va_up (va_up (va_up z 11 s9) 12 (s9 + 1)) 13 7) fo sv d pa ke ik fa te aw) H := hP
                have hD : va_D A (mow G ad (va_up (va_up (va_up z 11 s9) 12 (s9 + 1)) 13 7) fo sv d pa ke ik fa te aw) := hD
                have hs9 : tS te (z 10) (z 12) = s9 := hi8.symm.trans (runP_stop h16 (decide_eq_false c18))
                have he9 : tE te (z 10) s9 = s9 + 1 := by rw [tE, if_neg (Nat.not_le.mpr h16), if_neg (by rw [c76]; decide), if_neg (by rw [c151]; decide)]
                have e7 : stZ te z = va_up (va_up (va_up z 11 s9) 12 (s9 + 1)) 13 7 := by unfold stZ; rw [hs9, he9, mK, if_neg (Nat.not_le.mpr h16), if_neg (by rw [c76]; decide), if_neg (by rw [c151]; decide), if_neg c207]
                have hP : va_P G.1 vwCl (mow G ad (stZ te z) fo sv d pa ke ik fa te aw) H := by rw [e7]; exact hP
                have hD : va_D A (mow G ad (stZ te z) fo sv d pa ke ik fa te aw) := by rw [e7]; exact hD
                exact re_v hx hb hr hlocks hS () hP hD trivial dX8_steps_230
              · refine lv_bipush (v := (nI 6)) hx hb dX8_steps_210 (by decide) ?_
                refine lv_goto (tgt := 217) hx hb dX8_steps_212 (by decide) ?_
                refine va_put (D := G.1) (ci := 7) (v := .int (nI 6)) (ty := .int) (C := RX8) (T := TX8) (N := 17) hx hb hts inA8 tyX8 tyX8_ok nmX8 hown hX.1 hP hD hS 0 rfl rfl 13 (by decide) (hts _ kw_693) (fun _ h9 => h9) rfl (by decide +kernel) rfl rfl (Nat.le_of_ble_eq_true rfl) dX8_steps_217 (fun H locs hP hD hS => ?_)
                have hP : va_P G.1 vwCl (mow G ad (va_up (va_up (va_up z 11 s9) 12 s9) 13 6) fo sv d pa ke ik fa te aw) H := hP
                have hD : va_D A (mow G ad (va_up (va_up (va_up z 11 s9) 12 s9) 13 6) fo sv d pa ke ik fa te aw) := hD
                refine lv_aload_n hx hb dX8_steps_220 rfl (lv_at hl 0 rfl) ?_
                refine lv_dup hx hb dX8_steps_221 rfl ?_
                refine va_get (D := G.1) (ci := 7) (v := .int (nI s9)) (C := RX8) (T := TX8) (N := 17) hx hb hts inA8 hown hX.1 hP 0 rfl rfl 12 (by decide) (hts _ kw_692) (fun _ h9 => h9) rfl dX8_steps_222 ?_
                refine lv_iconst (v := (nI 1)) hx hb dX8_steps_225 (by decide) ?_
                refine lv_iadd hx hb dX8_steps_226 (ti (y := (nI (s9 + 1))) (nI_add _ _) ?_)
                refine va_put (D := G.1) (ci := 7) (v := .int (nI (s9 + 1))) (ty := .int) (C := RX8) (T := TX8) (N := 17) hx hb hts inA8 tyX8 tyX8_ok nmX8 hown hX.1 hP hD hS 0 rfl rfl 12 (by decide) (hts _ kw_692) (fun _ h9 => h9) rfl (by decide +kernel) rfl rfl (Nat.le_of_ble_eq_true rfl) dX8_steps_227 (fun H locs hP hD hS => ?_)
                have hP : va_P G.1 vwCl (mow G ad (va_up (va_up (va_up z 11 s9) 12 (s9 + 1)) 13 6) fo sv d pa ke ik fa te aw) H := hP
                have hD : va_D A (mow G ad (va_up (va_up (va_up z 11 s9) 12 (s9 + 1)) 13 6) fo sv d pa ke ik fa te aw) := hD
                have hs9 : tS te (z 10) (z 12) = s9 := hi8.symm.trans (runP_stop h16 (decide_eq_false c18))
                have he9 : tE te (z 10) s9 = s9 + 1 := by rw [tE, if_neg (Nat.not_le.mpr h16), if_neg (by rw [c76]; decide), if_neg (by rw [c151]; decide)]
                have e7 : stZ te z = va_up (va_up (va_up z 11 s9) 12 (s9 + 1)) 13 6 := by unfold stZ; rw [hs9, he9, mK, if_neg (Nat.not_le.mpr h16), if_neg (by rw [c76]; decide), if_neg (by rw [c151]; decide), if_pos c207]
                have hP : va_P G.1 vwCl (mow G ad (stZ te z) fo sv d pa ke ik fa te aw) H := by rw [e7]; exact hP
                have hD : va_D A (mow G ad (stZ te z) fo sv d pa ke ik fa te aw) := by rw [e7]; exact hD
                exact re_v hx hb hr hlocks hS () hP hD trivial dX8_steps_230
            · have lp154 : ∀ (n154 : Nat) (e9 : Nat), (z 10 - e9) < n154 → (e9 ≤ z 10) → (s9 ≤ e9) → (runP (isL te) (z 10) (z 10 - e9) e9 = runP (isL te) (z 10) (z 10 - s9) s9) → (∀ j, s9 ≤ j → j < e9 → isL te j = true) → ∀ (H : Heap) (locs : List Loc), va_P G.1 vwCl (mow G ad (va_up (va_up z 11 s9) 12 e9) fo sv d pa ke ik fa te aw) H → va_D A (mow G ad (va_up (va_up z 11 s9) 12 e9) fo sv d pa ke ik fa te aw) → va_S A s.heap H locs → ∀ (ls : Array Slot), lv_has ls 1 [(0, .ref (ad 0))] → WV p l e (rmN 3 63) s m [.ref (ad 0)] below meth c H locs G A (fun (_ : Unit) => True) (fun (_ : Unit) => mow G ad (stZ te z) fo sv d pa ke ik fa te aw) (F0 m 154 ls []) := by
                intro n154
                induction n154 with
                | zero => intro e9 h9; exact absurd h9 (Nat.not_lt_zero _)
                | succ n154 ih154 =>
                  intro e9 hm154  h154a h154b hi154 hr154 H locs hP hD hS ls hl
                  refine lv_aload_n hx hb dX8_steps_154 rfl (lv_at hl 0 rfl) ?_
                  refine lv_aload_n hx hb dX8_steps_155 rfl (lv_at hl 0 rfl) ?_
                  refine va_get (D := G.1) (ci := 7) (v := .int (nI e9)) (C := RX8) (T := TX8) (N := 17) hx hb hts inA8 hown hX.1 hP 0 rfl rfl 12 (by decide) (hts _ kw_692) (fun _ h9 => h9) rfl dX8_steps_156 ?_
                  refine ca_Vi (ci := 7) (q := (RX8, TX8, 17)) (rest := []) (wr := ([] : va_W)) F hX (mX8_at l G ad (va_up (va_up z 11 s9) 12 e9) fo sv d pa ke ik fa te aw e9 ht9 hz (by omega)) (cA_V hts kw_758 kw_8 kw_755 kw_757 kp_21 hdX8_at ⟨Nat.le_of_ble_eq_true rfl, Nat.le_of_ble_eq_true rfl⟩) rfl rfl rfl hl.1 rfl (Nat.le_of_ble_eq_true rfl) dX8_steps_159 ⟨Nat.le_of_ble_eq_true rfl, Nat.le_of_ble_eq_true rfl⟩ hP hD hS hA (pm_nil _) (fun r159 u159 H locs hp159 hP hD hS => ?_)
                  have hP : va_P G.1 vwCl (mow G ad (va_up (va_up z 11 s9) 12 e9) fo sv d pa ke ik fa te aw) H := wp_pm (pm_nil _).symm hP
                  have hD : va_D A (mow G ad (va_up (va_up z 11 s9) 12 e9) fo sv d pa ke ik fa te aw) := wd_pm (pm_nil _).symm hD
                  subst hp159
                  by_cases h162 : e9 < z 10
                  · refine ti (y := nI (te e9)) (if_pos h162) ?_
                    refine lv_bipush (v := (nI 97)) hx hb dX8_steps_162 (by decide) ?_
                    refine lv_bipush (v := (nI 122)) hx hb dX8_steps_164 (by decide) ?_
                    refine ca_Si (rest := []) (wr := mow G ad (va_up (va_up z 11 s9) 12 e9) fo sv d pa ke ik fa te aw) F hX (mX8_in l G (nI (te e9)) (nI 97) (nI 122)) (cA_S hts kw_738 kw_8 kw_736 kw_737 hdX8_in ⟨Nat.le_of_ble_eq_true rfl, Nat.le_of_ble_eq_true rfl⟩) rfl hl.1 rfl (Nat.le_of_ble_eq_true rfl) dX8_steps_166 ⟨Nat.le_of_ble_eq_true rfl, Nat.le_of_ble_eq_true rfl⟩ hP hD hS hA (List.Perm.refl _) (fun r166 u166 H locs hp166 hP hD hS => ?_)
                    have hP : va_P G.1 vwCl (mow G ad (va_up (va_up z 11 s9) 12 e9) fo sv d pa ke ik fa te aw) H := hP
                    have hD : va_D A (mow G ad (va_up (va_up z 11 s9) 12 e9) fo sv d pa ke ik fa te aw) := hD
                    subst hp166
                    refine ti (y := (bI (isL te e9))) (by rw [in_nn (by decide) (by have := ht9 e9; omega) (by decide)]; rfl) ?_
                    refine bv_eq (b := isL te e9) (tgt := 185) hx hb dX8_steps_169 (by decide) (fun c169 => ?_) (fun c169 => ?_)
                    · refine lv_aload_n hx hb dX8_steps_185 rfl (lv_at hl 0 rfl) ?_
                      refine lv_aload_n hx hb dX8_steps_186 rfl (lv_at hl 0 rfl) ?_
                      refine ca_Vi (ci := 7) (q := (RX8, TX8, 17)) (rest := [.ref (ad 0)]) (wr := ([] : va_W)) F hX (mX8_wordOf l G ad (va_up (va_up z 11 s9) 12 e9) fo sv d pa ke ik fa te aw  ht9 hz h154b h154a hr154) (cA_V hts kw_762 kw_8 kw_759 kw_761 kp_22 hdX8_wordOf ⟨Nat.le_of_ble_eq_true rfl, Nat.le_of_ble_eq_true rfl⟩) rfl rfl rfl hl.1 rfl (Nat.le_of_ble_eq_true rfl) dX8_steps_187 ⟨Nat.le_of_ble_eq_true rfl, Nat.le_of_ble_eq_true rfl⟩ hP hD hS hA (pm_nil _) (fun r187 u187 H locs hp187 hP hD hS => ?_)
                      have hP : va_P G.1 vwCl (mow G ad (va_up (va_up z 11 s9) 12 e9) fo sv d pa ke ik fa te aw) H := wp_pm (pm_nil _).symm hP
                      have hD : va_D A (mow G ad (va_up (va_up z 11 s9) 12 e9) fo sv d pa ke ik fa te aw) := wd_pm (pm_nil _).symm hD
                      subst hp187
                      refine ti (y := (nI (wdM te s9 e9))) rfl ?_
                      refine va_put (D := G.1) (ci := 7) (v := .int (nI (wdM te s9 e9))) (ty := .int) (C := RX8) (T := TX8) (N := 17) hx hb hts inA8 tyX8 tyX8_ok nmX8 hown hX.1 hP hD hS 0 rfl rfl 13 (by decide) (hts _ kw_693) (fun _ h9 => h9) rfl (by decide +kernel) rfl rfl (Nat.le_of_ble_eq_true rfl) dX8_steps_190 (fun H locs hP hD hS => ?_)
                      have hP : va_P G.1 vwCl (mow G ad (va_up (va_up (va_up z 11 s9) 12 e9) 13 (wdM te s9 e9)) fo sv d pa ke ik fa te aw) H := hP
                      have hD : va_D A (mow G ad (va_up (va_up (va_up z 11 s9) 12 e9) 13 (wdM te s9 e9)) fo sv d pa ke ik fa te aw) := hD
                      refine lv_goto (tgt := 230) hx hb dX8_steps_193 (by decide) ?_
                      have hs9 : tS te (z 10) (z 12) = s9 := hi8.symm.trans (runP_stop h16 (decide_eq_false c18))
                      have he9 : tE te (z 10) s9 = e9 := by rw [tE, if_neg (Nat.not_le.mpr h16), if_neg (by rw [c76]; decide), if_pos c151]; exact hi154.symm.trans (runP_stop h162 c169)
                      have e7 : stZ te z = va_up (va_up (va_up z 11 s9) 12 e9) 13 (wdM te s9 e9) := by unfold stZ; rw [hs9, he9, mK, if_neg (Nat.not_le.mpr h16), if_neg (by rw [c76]; decide), if_pos c151, he9]
                      have hP : va_P G.1 vwCl (mow G ad (stZ te z) fo sv d pa ke ik fa te aw) H := by rw [e7]; exact hP
                      have hD : va_D A (mow G ad (stZ te z) fo sv d pa ke ik fa te aw) := by rw [e7]; exact hD
                      exact re_v hx hb hr hlocks hS () hP hD trivial dX8_steps_230
                    · refine lv_aload_n hx hb dX8_steps_172 rfl (lv_at hl 0 rfl) ?_
                      refine lv_dup hx hb dX8_steps_173 rfl ?_
                      refine va_get (D := G.1) (ci := 7) (v := .int (nI e9)) (C := RX8) (T := TX8) (N := 17) hx hb hts inA8 hown hX.1 hP 0 rfl rfl 12 (by decide) (hts _ kw_692) (fun _ h9 => h9) rfl dX8_steps_174 ?_
                      refine lv_iconst (v := (nI 1)) hx hb dX8_steps_177 (by decide) ?_
                      refine lv_iadd hx hb dX8_steps_178 (ti (y := (nI (e9 + 1))) (nI_add _ _) ?_)
                      refine va_put (D := G.1) (ci := 7) (v := .int (nI (e9 + 1))) (ty := .int) (C := RX8) (T := TX8) (N := 17) hx hb hts inA8 tyX8 tyX8_ok nmX8 hown hX.1 hP hD hS 0 rfl rfl 12 (by decide) (hts _ kw_692) (fun _ h9 => h9) rfl (by decide +kernel) rfl rfl (Nat.le_of_ble_eq_true rfl) dX8_steps_179 (fun H locs hP hD hS => ?_)
                      have hP : va_P G.1 vwCl (mow G ad (va_up (va_up z 11 s9) 12 (e9 + 1)) fo sv d pa ke ik fa te aw) H := hP
                      have hD : va_D A (mow G ad (va_up (va_up z 11 s9) 12 (e9 + 1)) fo sv d pa ke ik fa te aw) := hD
                      refine lv_goto (tgt := 154) hx hb dX8_steps_182 (by decide) ?_
                      exact ih154 (e9 + 1) (by omega) (by omega) (by omega) ((runP_step h162 c169).symm.trans hi154) (fun j h1 h2 => by by_cases e : j = e9; rw [e]; exact c169; exact hr154 j h1 (by omega)) _ _ hP hD hS ls (lv_sub hl [0] rfl)
                  · refine ti (y := -1) (if_neg h162) ?_
                    refine lv_bipush (v := (nI 97)) hx hb dX8_steps_162 (by decide) ?_
                    refine lv_bipush (v := (nI 122)) hx hb dX8_steps_164 (by decide) ?_
                    refine ca_Si (rest := []) (wr := mow G ad (va_up (va_up z 11 s9) 12 e9) fo sv d pa ke ik fa te aw) F hX (mX8_in l G (-1) (nI 97) (nI 122)) (cA_S hts kw_738 kw_8 kw_736 kw_737 hdX8_in ⟨Nat.le_of_ble_eq_true rfl, Nat.le_of_ble_eq_true rfl⟩) rfl hl.1 rfl (Nat.le_of_ble_eq_true rfl) dX8_steps_166 ⟨Nat.le_of_ble_eq_true rfl, Nat.le_of_ble_eq_true rfl⟩ hP hD hS hA (List.Perm.refl _) (fun r166 u166 H locs hp166 hP hD hS => ?_)
                    have hP : va_P G.1 vwCl (mow G ad (va_up (va_up z 11 s9) 12 e9) fo sv d pa ke ik fa te aw) H := hP
                    have hD : va_D A (mow G ad (va_up (va_up z 11 s9) 12 e9) fo sv d pa ke ik fa te aw) := hD
                    subst hp166
                    refine ti (y := (bI false)) (by decide) ?_
                    refine bv_eq (b := false) (tgt := 185) hx hb dX8_steps_169 (by decide) (fun c169 => ?_) (fun c169 => ?_)
                    · refine lv_aload_n hx hb dX8_steps_185 rfl (lv_at hl 0 rfl) ?_
                      refine lv_aload_n hx hb dX8_steps_186 rfl (lv_at hl 0 rfl) ?_
                      refine ca_Vi (ci := 7) (q := (RX8, TX8, 17)) (rest := [.ref (ad 0)]) (wr := ([] : va_W)) F hX (mX8_wordOf l G ad (va_up (va_up z 11 s9) 12 e9) fo sv d pa ke ik fa te aw  ht9 hz h154b h154a hr154) (cA_V hts kw_762 kw_8 kw_759 kw_761 kp_22 hdX8_wordOf ⟨Nat.le_of_ble_eq_true rfl, Nat.le_of_ble_eq_true rfl⟩) rfl rfl rfl hl.1 rfl (Nat.le_of_ble_eq_true rfl) dX8_steps_187 ⟨Nat.le_of_ble_eq_true rfl, Nat.le_of_ble_eq_true rfl⟩ hP hD hS hA (pm_nil _) (fun r187 u187 H locs hp187 hP hD hS => ?_)
                      have hP : va_P G.1 vwCl (mow G ad (va_up (va_up z 11 s9) 12 e9) fo sv d pa ke ik fa te aw) H := wp_pm (pm_nil _).symm hP
                      have hD : va_D A (mow G ad (va_up (va_up z 11 s9) 12 e9) fo sv d pa ke ik fa te aw) := wd_pm (pm_nil _).symm hD
                      subst hp187
                      refine ti (y := (nI (wdM te s9 e9))) rfl ?_
                      refine va_put (D := G.1) (ci := 7) (v := .int (nI (wdM te s9 e9))) (ty := .int) (C := RX8) (T := TX8) (N := 17) hx hb hts inA8 tyX8 tyX8_ok nmX8 hown hX.1 hP hD hS 0 rfl rfl 13 (by decide) (hts _ kw_693) (fun _ h9 => h9) rfl (by decide +kernel) rfl rfl (Nat.le_of_ble_eq_true rfl) dX8_steps_190 (fun H locs hP hD hS => ?_)
                      have hP : va_P G.1 vwCl (mow G ad (va_up (va_up (va_up z 11 s9) 12 e9) 13 (wdM te s9 e9)) fo sv d pa ke ik fa te aw) H := hP
                      have hD : va_D A (mow G ad (va_up (va_up (va_up z 11 s9) 12 e9) 13 (wdM te s9 e9)) fo sv d pa ke ik fa te aw) := hD
                      refine lv_goto (tgt := 230) hx hb dX8_steps_193 (by decide) ?_
                      have hs9 : tS te (z 10) (z 12) = s9 := hi8.symm.trans (runP_stop h16 (decide_eq_false c18))
                      have he9 : tE te (z 10) s9 = e9 := by rw [tE, if_neg (Nat.not_le.mpr h16), if_neg (by rw [c76]; decide), if_pos c151]; exact hi154.symm.trans (runP_end (Nat.not_lt.mp h162))
                      have e7 : stZ te z = va_up (va_up (va_up z 11 s9) 12 e9) 13 (wdM te s9 e9) := by unfold stZ; rw [hs9, he9, mK, if_neg (Nat.not_le.mpr h16), if_neg (by rw [c76]; decide), if_pos c151, he9]
                      have hP : va_P G.1 vwCl (mow G ad (stZ te z) fo sv d pa ke ik fa te aw) H := by rw [e7]; exact hP
                      have hD : va_D A (mow G ad (stZ te z) fo sv d pa ke ik fa te aw) := by rw [e7]; exact hD
                      exact re_v hx hb hr hlocks hS () hP hD trivial dX8_steps_230
                    · exact absurd c169 (by decide)
              exact lp154 _ s9 (Nat.lt_succ_self _) (by omega) (Nat.le_refl _) rfl (fun j h1 h2 => absurd h1 (by omega)) _ _ hP hD hS ls (lv_sub hl [0] rfl)
          · have lp79 : ∀ (n79 : Nat) (e9 : Nat), (z 10 - e9) < n79 → (e9 ≤ z 10) → (s9 ≤ e9) → (runP (isD te) (z 10) (z 10 - e9) e9 = runP (isD te) (z 10) (z 10 - s9) s9) → (∀ j, s9 ≤ j → j < e9 → isD te j = true) → ∀ (H : Heap) (locs : List Loc), va_P G.1 vwCl (mow G ad (va_up (va_up z 11 s9) 12 e9) fo sv d pa ke ik fa te aw) H → va_D A (mow G ad (va_up (va_up z 11 s9) 12 e9) fo sv d pa ke ik fa te aw) → va_S A s.heap H locs → ∀ (ls : Array Slot), lv_has ls 1 [(0, .ref (ad 0))] → WV p l e (rmN 3 63) s m [.ref (ad 0)] below meth c H locs G A (fun (_ : Unit) => True) (fun (_ : Unit) => mow G ad (stZ te z) fo sv d pa ke ik fa te aw) (F0 m 79 ls []) := by
              intro n79
              induction n79 with
              | zero => intro e9 h9; exact absurd h9 (Nat.not_lt_zero _)
              | succ n79 ih79 =>
                intro e9 hm79  h79a h79b hi79 hr79 H locs hP hD hS ls hl
                refine lv_aload_n hx hb dX8_steps_79 rfl (lv_at hl 0 rfl) ?_
                refine lv_aload_n hx hb dX8_steps_80 rfl (lv_at hl 0 rfl) ?_
                refine va_get (D := G.1) (ci := 7) (v := .int (nI e9)) (C := RX8) (T := TX8) (N := 17) hx hb hts inA8 hown hX.1 hP 0 rfl rfl 12 (by decide) (hts _ kw_692) (fun _ h9 => h9) rfl dX8_steps_81 ?_
                refine ca_Vi (ci := 7) (q := (RX8, TX8, 17)) (rest := []) (wr := ([] : va_W)) F hX (mX8_at l G ad (va_up (va_up z 11 s9) 12 e9) fo sv d pa ke ik fa te aw e9 ht9 hz (by omega)) (cA_V hts kw_758 kw_8 kw_755 kw_757 kp_21 hdX8_at ⟨Nat.le_of_ble_eq_true rfl, Nat.le_of_ble_eq_true rfl⟩) rfl rfl rfl hl.1 rfl (Nat.le_of_ble_eq_true rfl) dX8_steps_84 ⟨Nat.le_of_ble_eq_true rfl, Nat.le_of_ble_eq_true rfl⟩ hP hD hS hA (pm_nil _) (fun r84 u84 H locs hp84 hP hD hS => ?_)
                have hP : va_P G.1 vwCl (mow G ad (va_up (va_up z 11 s9) 12 e9) fo sv d pa ke ik fa te aw) H := wp_pm (pm_nil _).symm hP
                have hD : va_D A (mow G ad (va_up (va_up z 11 s9) 12 e9) fo sv d pa ke ik fa te aw) := wd_pm (pm_nil _).symm hD
                subst hp84
                by_cases h87 : e9 < z 10
                · refine ti (y := nI (te e9)) (if_pos h87) ?_
                  refine lv_bipush (v := (nI 48)) hx hb dX8_steps_87 (by decide) ?_
                  refine lv_bipush (v := (nI 57)) hx hb dX8_steps_89 (by decide) ?_
                  refine ca_Si (rest := []) (wr := mow G ad (va_up (va_up z 11 s9) 12 e9) fo sv d pa ke ik fa te aw) F hX (mX8_in l G (nI (te e9)) (nI 48) (nI 57)) (cA_S hts kw_738 kw_8 kw_736 kw_737 hdX8_in ⟨Nat.le_of_ble_eq_true rfl, Nat.le_of_ble_eq_true rfl⟩) rfl hl.1 rfl (Nat.le_of_ble_eq_true rfl) dX8_steps_91 ⟨Nat.le_of_ble_eq_true rfl, Nat.le_of_ble_eq_true rfl⟩ hP hD hS hA (List.Perm.refl _) (fun r91 u91 H locs hp91 hP hD hS => ?_)
                  have hP : va_P G.1 vwCl (mow G ad (va_up (va_up z 11 s9) 12 e9) fo sv d pa ke ik fa te aw) H := hP
                  have hD : va_D A (mow G ad (va_up (va_up z 11 s9) 12 e9) fo sv d pa ke ik fa te aw) := hD
                  subst hp91
                  refine ti (y := (bI (isD te e9))) (by rw [in_nn (by decide) (by have := ht9 e9; omega) (by decide)]; rfl) ?_
                  refine bv_eq (b := isD te e9) (tgt := 110) hx hb dX8_steps_94 (by decide) (fun c94 => ?_) (fun c94 => ?_)
                  · refine lv_aload_n hx hb dX8_steps_110 rfl (lv_at hl 0 rfl) ?_
                    refine lv_aload_n hx hb dX8_steps_111 rfl (lv_at hl 0 rfl) ?_
                    refine va_get (D := G.1) (ci := 7) (v := .int (nI e9)) (C := RX8) (T := TX8) (N := 17) hx hb hts inA8 hown hX.1 hP 0 rfl rfl 12 (by decide) (hts _ kw_692) (fun _ h9 => h9) rfl dX8_steps_112 ?_
                    refine lv_aload_n hx hb dX8_steps_115 rfl (lv_at hl 0 rfl) ?_
                    refine va_get (D := G.1) (ci := 7) (v := .int (nI s9)) (C := RX8) (T := TX8) (N := 17) hx hb hts inA8 hown hX.1 hP 0 rfl rfl 11 (by decide) (hts _ kw_691) (fun _ h9 => h9) rfl dX8_steps_116 ?_
                    refine lv_isub hx hb dX8_steps_119 (ti (y := (nI (e9 - s9))) (pk_sub (by omega)) ?_)
                    refine lv_iconst (v := (nI 1)) hx hb dX8_steps_120 (by decide) ?_
                    refine nv_ne (x := e9 - s9) (y := 1) (tgt := 128) hx hb dX8_steps_121 (by decide) (by omega) (by decide) (fun c121 => ?_) (fun c121 => ?_)
                    · refine lv_bipush (v := (nI 7)) hx hb dX8_steps_128 (by decide) ?_
                      refine va_put (D := G.1) (ci := 7) (v := .int (nI 7)) (ty := .int) (C := RX8) (T := TX8) (N := 17) hx hb hts inA8 tyX8 tyX8_ok nmX8 hown hX.1 hP hD hS 0 rfl rfl 13 (by decide) (hts _ kw_693) (fun _ h9 => h9) rfl (by decide +kernel) rfl rfl (Nat.le_of_ble_eq_true rfl) dX8_steps_130 (fun H locs hP hD hS => ?_)
                      have hP : va_P G.1 vwCl (mow G ad (va_up (va_up (va_up z 11 s9) 12 e9) 13 7) fo sv d pa ke ik fa te aw) H := hP
                      have hD : va_D A (mow G ad (va_up (va_up (va_up z 11 s9) 12 e9) 13 7) fo sv d pa ke ik fa te aw) := hD
                      refine lv_goto (tgt := 230) hx hb dX8_steps_133 (by decide) ?_
                      have hs9 : tS te (z 10) (z 12) = s9 := hi8.symm.trans (runP_stop h16 (decide_eq_false c18))
                      have he9 : tE te (z 10) s9 = e9 := by rw [tE, if_neg (Nat.not_le.mpr h16), if_pos c76]; exact hi79.symm.trans (runP_stop h87 c94)
                      have e7 : stZ te z = va_up (va_up (va_up z 11 s9) 12 e9) 13 7 := by unfold stZ; rw [hs9, he9, mK, if_neg (Nat.not_le.mpr h16), if_pos c76, he9, if_neg c121]
                      have hP : va_P G.1 vwCl (mow G ad (stZ te z) fo sv d pa ke ik fa te aw) H := by rw [e7]; exact hP
                      have hD : va_D A (mow G ad (stZ te z) fo sv d pa ke ik fa te aw) := by rw [e7]; exact hD
                      exact re_v hx hb hr hlocks hS () hP hD trivial dX8_steps_230
                    · refine lv_iconst (v := (nI 5)) hx hb dX8_steps_124 (by decide) ?_
                      refine lv_goto (tgt := 130) hx hb dX8_steps_125 (by decide) ?_
                      refine va_put (D := G.1) (ci := 7) (v := .int (nI 5)) (ty := .int) (C := RX8) (T := TX8) (N := 17) hx hb hts inA8 tyX8 tyX8_ok nmX8 hown hX.1 hP hD hS 0 rfl rfl 13 (by decide) (hts _ kw_693) (fun _ h9 => h9) rfl (by decide +kernel) rfl rfl (Nat.le_of_ble_eq_true rfl) dX8_steps_130 (fun H locs hP hD hS => ?_)
                      have hP : va_P G.1 vwCl (mow G ad (va_up (va_up (va_up z 11 s9) 12 e9) 13 5) fo sv d pa ke ik fa te aw) H := hP
                      have hD : va_D A (mow G ad (va_up (va_up (va_up z 11 s9) 12 e9) 13 5) fo sv d pa ke ik fa te aw) := hD
                      refine lv_goto (tgt := 230) hx hb dX8_steps_133 (by decide) ?_
                      have hs9 : tS te (z 10) (z 12) = s9 := hi8.symm.trans (runP_stop h16 (decide_eq_false c18))
                      have he9 : tE te (z 10) s9 = e9 := by rw [tE, if_neg (Nat.not_le.mpr h16), if_pos c76]; exact hi79.symm.trans (runP_stop h87 c94)
                      have e7 : stZ te z = va_up (va_up (va_up z 11 s9) 12 e9) 13 5 := by unfold stZ; rw [hs9, he9, mK, if_neg (Nat.not_le.mpr h16), if_pos c76, he9, if_pos c121]
                      have hP : va_P G.1 vwCl (mow G ad (stZ te z) fo sv d pa ke ik fa te aw) H := by rw [e7]; exact hP
                      have hD : va_D A (mow G ad (stZ te z) fo sv d pa ke ik fa te aw) := by rw [e7]; exact hD
                      exact re_v hx hb hr hlocks hS () hP hD trivial dX8_steps_230
                  · refine lv_aload_n hx hb dX8_steps_97 rfl (lv_at hl 0 rfl) ?_
                    refine lv_dup hx hb dX8_steps_98 rfl ?_
                    refine va_get (D := G.1) (ci := 7) (v := .int (nI e9)) (C := RX8) (T := TX8) (N := 17) hx hb hts inA8 hown hX.1 hP 0 rfl rfl 12 (by decide) (hts _ kw_692) (fun _ h9 => h9) rfl dX8_steps_99 ?_
                    refine lv_iconst (v := (nI 1)) hx hb dX8_steps_102 (by decide) ?_
                    refine lv_iadd hx hb dX8_steps_103 (ti (y := (nI (e9 + 1))) (nI_add _ _) ?_)
                    refine va_put (D := G.1) (ci := 7) (v := .int (nI (e9 + 1))) (ty := .int) (C := RX8) (T := TX8) (N := 17) hx hb hts inA8 tyX8 tyX8_ok nmX8 hown hX.1 hP hD hS 0 rfl rfl 12 (by decide) (hts _ kw_692) (fun _ h9 => h9) rfl (by decide +kernel) rfl rfl (Nat.le_of_ble_eq_true rfl) dX8_steps_104 (fun H locs hP hD hS => ?_)
                    have hP : va_P G.1 vwCl (mow G ad (va_up (va_up z 11 s9) 12 (e9 + 1)) fo sv d pa ke ik fa te aw) H := hP
                    have hD : va_D A (mow G ad (va_up (va_up z 11 s9) 12 (e9 + 1)) fo sv d pa ke ik fa te aw) := hD
                    refine lv_goto (tgt := 79) hx hb dX8_steps_107 (by decide) ?_
                    exact ih79 (e9 + 1) (by omega) (by omega) (by omega) ((runP_step h87 c94).symm.trans hi79) (fun j h1 h2 => by by_cases e : j = e9; rw [e]; exact c94; exact hr79 j h1 (by omega)) _ _ hP hD hS ls (lv_sub hl [0] rfl)
                · refine ti (y := -1) (if_neg h87) ?_
                  refine lv_bipush (v := (nI 48)) hx hb dX8_steps_87 (by decide) ?_
                  refine lv_bipush (v := (nI 57)) hx hb dX8_steps_89 (by decide) ?_
                  refine ca_Si (rest := []) (wr := mow G ad (va_up (va_up z 11 s9) 12 e9) fo sv d pa ke ik fa te aw) F hX (mX8_in l G (-1) (nI 48) (nI 57)) (cA_S hts kw_738 kw_8 kw_736 kw_737 hdX8_in ⟨Nat.le_of_ble_eq_true rfl, Nat.le_of_ble_eq_true rfl⟩) rfl hl.1 rfl (Nat.le_of_ble_eq_true rfl) dX8_steps_91 ⟨Nat.le_of_ble_eq_true rfl, Nat.le_of_ble_eq_true rfl⟩ hP hD hS hA (List.Perm.refl _) (fun r91 u91 H locs hp91 hP hD hS => ?_)
                  have hP : va_P G.1 vwCl (mow G ad (va_up (va_up z 11 s9) 12 e9) fo sv d pa ke ik fa te aw) H := hP
                  have hD : va_D A (mow G ad (va_up (va_up z 11 s9) 12 e9) fo sv d pa ke ik fa te aw) := hD
                  subst hp91
                  refine ti (y := (bI false)) (by decide) ?_
                  refine bv_eq (b := false) (tgt := 110) hx hb dX8_steps_94 (by decide) (fun c94 => ?_) (fun c94 => ?_)
                  · refine lv_aload_n hx hb dX8_steps_110 rfl (lv_at hl 0 rfl) ?_
                    refine lv_aload_n hx hb dX8_steps_111 rfl (lv_at hl 0 rfl) ?_
                    refine va_get (D := G.1) (ci := 7) (v := .int (nI e9)) (C := RX8) (T := TX8) (N := 17) hx hb hts inA8 hown hX.1 hP 0 rfl rfl 12 (by decide) (hts _ kw_692) (fun _ h9 => h9) rfl dX8_steps_112 ?_
                    refine lv_aload_n hx hb dX8_steps_115 rfl (lv_at hl 0 rfl) ?_
                    refine va_get (D := G.1) (ci := 7) (v := .int (nI s9)) (C := RX8) (T := TX8) (N := 17) hx hb hts inA8 hown hX.1 hP 0 rfl rfl 11 (by decide) (hts _ kw_691) (fun _ h9 => h9) rfl dX8_steps_116 ?_
                    refine lv_isub hx hb dX8_steps_119 (ti (y := (nI (e9 - s9))) (pk_sub (by omega)) ?_)
                    refine lv_iconst (v := (nI 1)) hx hb dX8_steps_120 (by decide) ?_
                    refine nv_ne (x := e9 - s9) (y := 1) (tgt := 128) hx hb dX8_steps_121 (by decide) (by omega) (by decide) (fun c121 => ?_) (fun c121 => ?_)
                    · refine lv_bipush (v := (nI 7)) hx hb dX8_steps_128 (by decide) ?_
                      refine va_put (D := G.1) (ci := 7) (v := .int (nI 7)) (ty := .int) (C := RX8) (T := TX8) (N := 17) hx hb hts inA8 tyX8 tyX8_ok nmX8 hown hX.1 hP hD hS 0 rfl rfl 13 (by decide) (hts _ kw_693) (fun _ h9 => h9) rfl (by decide +kernel) rfl rfl (Nat.le_of_ble_eq_true rfl) dX8_steps_130 (fun H locs hP hD hS => ?_)
                      have hP : va_P G.1 vwCl (mow G ad (va_up (va_up (va_up z 11 s9) 12 e9) 13 7) fo sv d pa ke ik fa te aw) H := hP
                      have hD : va_D A (mow G ad (va_up (va_up (va_up z 11 s9) 12 e9) 13 7) fo sv d pa ke ik fa te aw) := hD
                      refine lv_goto (tgt := 230) hx hb dX8_steps_133 (by decide) ?_
                      have hs9 : tS te (z 10) (z 12) = s9 := hi8.symm.trans (runP_stop h16 (decide_eq_false c18))
                      have he9 : tE te (z 10) s9 = e9 := by rw [tE, if_neg (Nat.not_le.mpr h16), if_pos c76]; exact hi79.symm.trans (runP_end (Nat.not_lt.mp h87))
                      have e7 : stZ te z = va_up (va_up (va_up z 11 s9) 12 e9) 13 7 := by unfold stZ; rw [hs9, he9, mK, if_neg (Nat.not_le.mpr h16), if_pos c76, he9, if_neg c121]
                      have hP : va_P G.1 vwCl (mow G ad (stZ te z) fo sv d pa ke ik fa te aw) H := by rw [e7]; exact hP
                      have hD : va_D A (mow G ad (stZ te z) fo sv d pa ke ik fa te aw) := by rw [e7]; exact hD
                      exact re_v hx hb hr hlocks hS () hP hD trivial dX8_steps_230
                    · refine lv_iconst (v := (nI 5)) hx hb dX8_steps_124 (by decide) ?_
                      refine lv_goto (tgt := 130) hx hb dX8_steps_125 (by decide) ?_
                      refine va_put (D := G.1) (ci := 7) (v := .int (nI 5)) (ty := .int) (C := RX8) (T := TX8) (N := 17) hx hb hts inA8 tyX8 tyX8_ok nmX8 hown hX.1 hP hD hS 0 rfl rfl 13 (by decide) (hts _ kw_693) (fun _ h9 => h9) rfl (by decide +kernel) rfl rfl (Nat.le_of_ble_eq_true rfl) dX8_steps_130 (fun H locs hP hD hS => ?_)
                      have hP : va_P G.1 vwCl (mow G ad (va_up (va_up (va_up z 11 s9) 12 e9) 13 5) fo sv d pa ke ik fa te aw) H := hP
                      have hD : va_D A (mow G ad (va_up (va_up (va_up z 11 s9) 12 e9) 13 5) fo sv d pa ke ik fa te aw) := hD
                      refine lv_goto (tgt := 230) hx hb dX8_steps_133 (by decide) ?_
                      have hs9 : tS te (z 10) (z 12) = s9 := hi8.symm.trans (runP_stop h16 (decide_eq_false c18))
                      have he9 : tE te (z 10) s9 = e9 := by rw [tE, if_neg (Nat.not_le.mpr h16), if_pos c76]; exact hi79.symm.trans (runP_end (Nat.not_lt.mp h87))
                      have e7 : stZ te z = va_up (va_up (va_up z 11 s9) 12 e9) 13 5 := by unfold stZ; rw [hs9, he9, mK, if_neg (Nat.not_le.mpr h16), if_pos c76, he9, if_pos c121]
                      have hP : va_P G.1 vwCl (mow G ad (stZ te z) fo sv d pa ke ik fa te aw) H := by rw [e7]; exact hP
                      have hD : va_D A (mow G ad (stZ te z) fo sv d pa ke ik fa te aw) := by rw [e7]; exact hD
                      exact re_v hx hb hr hlocks hS () hP hD trivial dX8_steps_230
                  · exact absurd c94 (by decide)
            exact lp79 _ s9 (Nat.lt_succ_self _) (by omega) (Nat.le_refl _) rfl (fun j h1 h2 => absurd h1 (by omega)) _ _ hP hD hS ls (lv_sub hl [0] rfl)
        · refine lv_aload_n hx hb dX8_steps_21 rfl (lv_at hl 0 rfl) ?_
          refine lv_dup hx hb dX8_steps_22 rfl ?_
          refine va_get (D := G.1) (ci := 7) (v := .int (nI s9)) (C := RX8) (T := TX8) (N := 17) hx hb hts inA8 hown hX.1 hP 0 rfl rfl 11 (by decide) (hts _ kw_691) (fun _ h9 => h9) rfl dX8_steps_23 ?_
          refine lv_iconst (v := (nI 1)) hx hb dX8_steps_26 (by decide) ?_
          refine lv_iadd hx hb dX8_steps_27 (ti (y := (nI (s9 + 1))) (nI_add _ _) ?_)
          refine va_put (D := G.1) (ci := 7) (v := .int (nI (s9 + 1))) (ty := .int) (C := RX8) (T := TX8) (N := 17) hx hb hts inA8 tyX8 tyX8_ok nmX8 hown hX.1 hP hD hS 0 rfl rfl 11 (by decide) (hts _ kw_691) (fun _ h9 => h9) rfl (by decide +kernel) rfl rfl (Nat.le_of_ble_eq_true rfl) dX8_steps_28 (fun H locs hP hD hS => ?_)
          have hP : va_P G.1 vwCl (mow G ad (va_up z 11 (s9 + 1)) fo sv d pa ke ik fa te aw) H := hP
          have hD : va_D A (mow G ad (va_up z 11 (s9 + 1)) fo sv d pa ke ik fa te aw) := hD
          refine lv_goto (tgt := 8) hx hb dX8_steps_31 (by decide) ?_
          exact ih8 (s9 + 1) (by omega) (by omega) ((runP_step h16 (decide_eq_true c18)).symm.trans hi8) _ _ hP hD hS ls (lv_sub hl [0] rfl)
      · refine ti (y := -1) (if_neg h16) ?_
        refine lv_bipush (v := (nI 32)) hx hb dX8_steps_16 (by decide) ?_
        refine lv_icmp_ne (x := (-1)) (y := (nI 32)) (tgt := 34) hx hb dX8_steps_18 (by decide) (fun c18 => ?_) (fun c18 => ?_)
        · refine lv_aload_n hx hb dX8_steps_34 rfl (lv_at hl 0 rfl) ?_
          refine lv_aload_n hx hb dX8_steps_35 rfl (lv_at hl 0 rfl) ?_
          refine va_get (D := G.1) (ci := 7) (v := .int (nI s9)) (C := RX8) (T := TX8) (N := 17) hx hb hts inA8 hown hX.1 hP 0 rfl rfl 11 (by decide) (hts _ kw_691) (fun _ h9 => h9) rfl dX8_steps_36 ?_
          refine va_put (D := G.1) (ci := 7) (v := .int (nI s9)) (ty := .int) (C := RX8) (T := TX8) (N := 17) hx hb hts inA8 tyX8 tyX8_ok nmX8 hown hX.1 hP hD hS 0 rfl rfl 12 (by decide) (hts _ kw_692) (fun _ h9 => h9) rfl (by decide +kernel) rfl rfl (Nat.le_of_ble_eq_true rfl) dX8_steps_39 (fun H locs hP hD hS => ?_)
          have hP : va_P G.1 vwCl (mow G ad (va_up (va_up z 11 s9) 12 s9) fo sv d pa ke ik fa te aw) H := hP
          have hD : va_D A (mow G ad (va_up (va_up z 11 s9) 12 s9) fo sv d pa ke ik fa te aw) := hD
          refine lv_aload_n hx hb dX8_steps_42 rfl (lv_at hl 0 rfl) ?_
          refine lv_aload_n hx hb dX8_steps_43 rfl (lv_at hl 0 rfl) ?_
          refine va_get (D := G.1) (ci := 7) (v := .int (nI s9)) (C := RX8) (T := TX8) (N := 17) hx hb hts inA8 hown hX.1 hP 0 rfl rfl 12 (by decide) (hts _ kw_692) (fun _ h9 => h9) rfl dX8_steps_44 ?_
          refine ca_Vi (ci := 7) (q := (RX8, TX8, 17)) (rest := []) (wr := ([] : va_W)) F hX (mX8_at l G ad (va_up (va_up z 11 s9) 12 s9) fo sv d pa ke ik fa te aw s9 ht9 hz (by omega)) (cA_V hts kw_758 kw_8 kw_755 kw_757 kp_21 hdX8_at ⟨Nat.le_of_ble_eq_true rfl, Nat.le_of_ble_eq_true rfl⟩) rfl rfl rfl hl.1 rfl (Nat.le_of_ble_eq_true rfl) dX8_steps_47 ⟨Nat.le_of_ble_eq_true rfl, Nat.le_of_ble_eq_true rfl⟩ hP hD hS hA (pm_nil _) (fun r47 u47 H locs hp47 hP hD hS => ?_)
          have hP : va_P G.1 vwCl (mow G ad (va_up (va_up z 11 s9) 12 s9) fo sv d pa ke ik fa te aw) H := wp_pm (pm_nil _).symm hP
          have hD : va_D A (mow G ad (va_up (va_up z 11 s9) 12 s9) fo sv d pa ke ik fa te aw) := wd_pm (pm_nil _).symm hD
          subst hp47
          refine ti (y := (-1)) (if_neg h16) ?_
          refine lv_if_ge (x := (-1)) (tgt := 61) hx hb dX8_steps_50 (by decide) (fun c50 => ?_) (fun c50 => ?_)
          · exact absurd c50 (by decide)
          · refine lv_aload_n hx hb dX8_steps_53 rfl (lv_at hl 0 rfl) ?_
            refine lv_iconst (v := (nI 0)) hx hb dX8_steps_54 (by decide) ?_
            refine va_put (D := G.1) (ci := 7) (v := .int (nI 0)) (ty := .int) (C := RX8) (T := TX8) (N := 17) hx hb hts inA8 tyX8 tyX8_ok nmX8 hown hX.1 hP hD hS 0 rfl rfl 13 (by decide) (hts _ kw_693) (fun _ h9 => h9) rfl (by decide +kernel) rfl rfl (Nat.le_of_ble_eq_true rfl) dX8_steps_55 (fun H locs hP hD hS => ?_)
            have hP : va_P G.1 vwCl (mow G ad (va_up (va_up (va_up z 11 s9) 12 s9) 13 0) fo sv d pa ke ik fa te aw) H := hP
            have hD : va_D A (mow G ad (va_up (va_up (va_up z 11 s9) 12 s9) 13 0) fo sv d pa ke ik fa te aw) := hD
            refine lv_goto (tgt := 230) hx hb dX8_steps_58 (by decide) ?_
            have hs9 : tS te (z 10) (z 12) = s9 := hi8.symm.trans (runP_end (Nat.not_lt.mp h16))
            have e7 : stZ te z = va_up (va_up (va_up z 11 s9) 12 s9) 13 0 := by unfold stZ; rw [hs9, tE, if_pos (Nat.not_lt.mp h16), mK, if_pos (Nat.not_lt.mp h16)]
            have hP : va_P G.1 vwCl (mow G ad (stZ te z) fo sv d pa ke ik fa te aw) H := by rw [e7]; exact hP
            have hD : va_D A (mow G ad (stZ te z) fo sv d pa ke ik fa te aw) := by rw [e7]; exact hD
            exact re_v hx hb hr hlocks hS () hP hD trivial dX8_steps_230
        · exact absurd c18 (by decide)
  exact lp8 _ (z 12) (Nat.lt_succ_self _) h2 rfl _ _ hP hD hS ls (lv_sub hl [0] rfl)

theorem hdX8_takes : hdOK yX8_takes 1 := by decide +kernel
set_option maxHeartbeats 4000000 in
set_option maxRecDepth 100000 in
theorem mX8_takes_t (l : Launch) (G : GG) (ad : Nat → Nat) (z : Nat → Nat) (sv : Nat → Nat) (d : Nat → Int32) (pa ke : Nat → Nat) (ik fa : Nat → Int32) (te aw : Nat → Nat) (hY : YB te z) : Mv l yX8_takes cX8_takes 2 none (rmN 4 83) G [.ref (ad 0), .int (bI true)] (mow G ad z none sv d pa ke ik fa te aw) (fun (_ : Unit) => True) (fun (_ : Unit) => mow G ad (stZ te z) none sv d pa ke ik fa te aw) := by
  refine Mv.of (cc := cX8_takes) (nL := 2) (by decide) (Nat.le_of_ble_eq_true rfl) ?_
  intro p e s m below meth c A ls F hr hlocks hnm hX hA hD hP hS hl
  have F : CallFix p m c cX8_takes 2 s [.ref (ad 0), .int (bI true)].toArray wA RX8 := F
  obtain ⟨hx, hb, hml, hown, hts⟩ := id F
  have hl : lv_has ls 2 [(0, .ref (ad 0)), (1, .int (bI true))] := hl
  obtain ⟨ht9, y1, y2, y3, y4, y5, y6⟩ := id hY
  refine lv_aload_n hx hb dX8_takes_0 rfl (lv_at hl 0 rfl) ?_
  refine va_get (D := G.1) (ci := 7) (v := .int (-9)) (C := RX8) (T := TX8) (N := 17) hx hb hts inA8 hown hX.1 hP 0 rfl rfl 14 (by decide) (hts _ kw_694) (fun _ h9 => h9) rfl dX8_takes_1 ?_
  refine lv_bipush (v := (-9)) hx hb dX8_takes_4 (by decide) ?_
  refine lv_icmp_ne (x := (-9)) (y := (-9)) (tgt := 28) hx hb dX8_takes_6 (by decide) (fun h9 => absurd rfl h9) (fun _ => ?_)
  refine lv_iload_n hx hb dX8_takes_9 rfl (lv_at hl 1 rfl) ?_
  refine bv_eq (b := true) (tgt := 20) hx hb dX8_takes_10 (by decide) (fun c10 => ?_) (fun c10 => ?_)
  · exact absurd c10 (by decide)
  · refine lv_aload_n hx hb dX8_takes_13 rfl (lv_at hl 0 rfl) ?_
    refine ca_Vv (ci := 7) (q := (RX8, TX8, 17)) (rest := []) (wr := ([] : va_W)) F hX (mX8_steps l G ad z none sv d pa ke ik fa te aw  ht9 y1 y3) (cA_V hts kw_754 kw_8 kw_751 kw_753 kp_20 hdX8_steps ⟨Nat.le_of_ble_eq_true rfl, Nat.le_of_ble_eq_true rfl⟩) rfl rfl rfl hl.1 rfl (Nat.le_of_ble_eq_true rfl) dX8_takes_14 ⟨Nat.le_of_ble_eq_true rfl, Nat.le_of_ble_eq_true rfl⟩ hP hD hS hA (pm_nil _) (fun u14 H locs hp14 hP hD hS => ?_)
    have hP : va_P G.1 vwCl (mow G ad (stZ te z) none sv d pa ke ik fa te aw) H := wp_pm (pm_nil _).symm hP
    have hD : va_D A (mow G ad (stZ te z) none sv d pa ke ik fa te aw) := wd_pm (pm_nil _).symm hD
    refine lv_goto (tgt := 28) hx hb dX8_takes_17 (by decide) ?_
    exact re_v hx hb hr hlocks hS () hP hD trivial dX8_takes_28

set_option maxHeartbeats 4000000 in
set_option maxRecDepth 100000 in
theorem mX8_takes_f (l : Launch) (G : GG) (ad : Nat → Nat) (z : Nat → Nat) (sv : Nat → Nat) (d : Nat → Int32) (pa ke : Nat → Nat) (ik fa : Nat → Int32) (te aw : Nat → Nat) (hY : YB te z) : Mv l yX8_takes cX8_takes 2 none (rmN 4 83) G [.ref (ad 0), .int (bI false)] (mow G ad z none sv d pa ke ik fa te aw) (fun (_ : Unit) => True) (fun (_ : Unit) => mow G ad z (some (z 11)) sv d pa ke ik fa te aw) := by
  refine Mv.of (cc := cX8_takes) (nL := 2) (by decide) (Nat.le_of_ble_eq_true rfl) ?_
  intro p e s m below meth c A ls F hr hlocks hnm hX hA hD hP hS hl
  have F : CallFix p m c cX8_takes 2 s [.ref (ad 0), .int (bI false)].toArray wA RX8 := F
  obtain ⟨hx, hb, hml, hown, hts⟩ := id F
  have hl : lv_has ls 2 [(0, .ref (ad 0)), (1, .int (bI false))] := hl
  obtain ⟨ht9, y1, y2, y3, y4, y5, y6⟩ := id hY
  refine lv_aload_n hx hb dX8_takes_0 rfl (lv_at hl 0 rfl) ?_
  refine va_get (D := G.1) (ci := 7) (v := .int (-9)) (C := RX8) (T := TX8) (N := 17) hx hb hts inA8 hown hX.1 hP 0 rfl rfl 14 (by decide) (hts _ kw_694) (fun _ h9 => h9) rfl dX8_takes_1 ?_
  refine lv_bipush (v := (-9)) hx hb dX8_takes_4 (by decide) ?_
  refine lv_icmp_ne (x := (-9)) (y := (-9)) (tgt := 28) hx hb dX8_takes_6 (by decide) (fun h9 => absurd rfl h9) (fun _ => ?_)
  refine lv_iload_n hx hb dX8_takes_9 rfl (lv_at hl 1 rfl) ?_
  refine bv_eq (b := false) (tgt := 20) hx hb dX8_takes_10 (by decide) (fun c10 => ?_) (fun c10 => ?_)
  · refine lv_aload_n hx hb dX8_takes_20 rfl (lv_at hl 0 rfl) ?_
    refine lv_aload_n hx hb dX8_takes_21 rfl (lv_at hl 0 rfl) ?_
    refine va_get (D := G.1) (ci := 7) (v := .int (nI (z 11))) (C := RX8) (T := TX8) (N := 17) hx hb hts inA8 hown hX.1 hP 0 rfl rfl 11 (by decide) (hts _ kw_691) (fun _ h9 => h9) rfl dX8_takes_22 ?_
    refine va_put (D := G.1) (ci := 7) (v := .int (nI (z 11))) (ty := .int) (C := RX8) (T := TX8) (N := 17) hx hb hts inA8 tyX8 tyX8_ok nmX8 hown hX.1 hP hD hS 0 rfl rfl 14 (by decide) (hts _ kw_694) (fun _ h9 => h9) rfl (by decide +kernel) rfl rfl (Nat.le_of_ble_eq_true rfl) dX8_takes_25 (fun H locs hP hD hS => ?_)
    have hP : va_P G.1 vwCl (mow G ad z (some (z 11)) sv d pa ke ik fa te aw) H := hP
    have hD : va_D A (mow G ad z (some (z 11)) sv d pa ke ik fa te aw) := hD
    exact re_v hx hb hr hlocks hS () hP hD trivial dX8_takes_28
  · exact absurd c10 (by decide)

set_option maxHeartbeats 4000000 in
set_option maxRecDepth 100000 in
theorem mX8_takes_s (l : Launch) (G : GG) (ad : Nat → Nat) (z : Nat → Nat) (sv : Nat → Nat) (d : Nat → Int32) (pa ke : Nat → Nat) (ik fa : Nat → Int32) (te aw : Nat → Nat) (q : Nat) (hq : q < 2 ^ 31) (b : Bool) (hY : YB te z) : Mv l yX8_takes cX8_takes 2 none (rmN 4 83) G [.ref (ad 0), .int (bI b)] (mow G ad z (some q) sv d pa ke ik fa te aw) (fun (_ : Unit) => True) (fun (_ : Unit) => mow G ad z (some q) sv d pa ke ik fa te aw) := by
  refine Mv.of (cc := cX8_takes) (nL := 2) (by decide) (Nat.le_of_ble_eq_true rfl) ?_
  intro p e s m below meth c A ls F hr hlocks hnm hX hA hD hP hS hl
  have F : CallFix p m c cX8_takes 2 s [.ref (ad 0), .int (bI b)].toArray wA RX8 := F
  obtain ⟨hx, hb, hml, hown, hts⟩ := id F
  have hl : lv_has ls 2 [(0, .ref (ad 0)), (1, .int (bI b))] := hl
  obtain ⟨ht9, y1, y2, y3, y4, y5, y6⟩ := id hY
  refine lv_aload_n hx hb dX8_takes_0 rfl (lv_at hl 0 rfl) ?_
  refine va_get (D := G.1) (ci := 7) (v := .int (nI q)) (C := RX8) (T := TX8) (N := 17) hx hb hts inA8 hown hX.1 hP 0 rfl rfl 14 (by decide) (hts _ kw_694) (fun _ h9 => h9) rfl dX8_takes_1 ?_
  refine lv_bipush (v := (-9)) hx hb dX8_takes_4 (by decide) ?_
  refine lv_icmp_ne (x := (nI q)) (y := (-9)) (tgt := 28) hx hb dX8_takes_6 (by decide) (fun _ => ?_) (fun h9 => absurd h9 (nI_n9 (by omega)))
  exact re_v hx hb hr hlocks hS () hP hD trivial dX8_takes_28

set_option maxRecDepth 100000 in
theorem mX8_takes (l : Launch) (G : GG) (ad : Nat → Nat) (z : Nat → Nat) (fo : Option Nat) (sv : Nat → Nat) (d : Nat → Int32) (pa ke : Nat → Nat) (ik fa : Nat → Int32) (te aw : Nat → Nat) (b : Bool) (hY : YB te z) (hf : ∀ q, fo = some q → q < 2 ^ 31) : Mv l yX8_takes cX8_takes 2 none (rmN 4 83) G [.ref (ad 0), .int (bI b)] (mow G ad z fo sv d pa ke ik fa te aw) (fun (_ : Unit) => True) (fun (_ : Unit) => mow G ad (tkM te b (z, fo)).1 (tkM te b (z, fo)).2 sv d pa ke ik fa te aw) := by
  cases fo with
  | some q => exact mX8_takes_s l G ad z sv d pa ke ik fa te aw q (hf q rfl) b hY
  | none =>
    cases b with
    | true => exact mX8_takes_t l G ad z sv d pa ke ik fa te aw hY
    | false => exact mX8_takes_f l G ad z sv d pa ke ik fa te aw hY

theorem fo_tk {te : Nat → Nat} {q : FS} {b : Bool} (h : YB te q.1) (hf : ∀ x, q.2 = some x → x < 2 ^ 31) : ∀ x, (tkM te b q).2 = some x → x < 2 ^ 31 := by
  obtain ⟨z, fo⟩ := q
  cases fo with
  | some q0 => exact hf
  | none =>
    cases b with
    | true => intro x h; cases h
    | false =>
      intro x h9
      have e : some (z 11) = some x := h9
      have h1 : z 10 ≤ 120 := h.2.1
      have h2 : z 11 ≤ z 12 := h.2.2.1
      have h3 : z 12 ≤ z 10 := h.2.2.2.1
      cases e; omega

theorem fgM_5 {te z : Nat → Nat} {fo : Option Nat} {lo hi : Int32} (h : z 13 = 5) : fgM te lo hi (z, fo) = tkM te (decide (lo ≤ nI (te (z 11) - 48) ∧ nI (te (z 11) - 48) ≤ hi)) (z, fo) := by
  have e : fvM te z = some (te (z 11) - 48) := by rw [fvM, if_pos h]
  show tkM te (decide (z 13 = 5) && decide (lo ≤ oN (fvM te z) ∧ oN (fvM te z) ≤ hi)) (z, fo) = _
  rw [decide_eq_true h, e]
  rfl
theorem fgM_n {te z : Nat → Nat} {fo : Option Nat} {lo hi : Int32} (h : z 13 ≠ 5) : fgM te lo hi (z, fo) = tkM te false (z, fo) := by
  show tkM te (decide (z 13 = 5) && decide (lo ≤ oN (fvM te z) ∧ oN (fvM te z) ≤ hi)) (z, fo) = _
  rw [decide_eq_false h, Bool.false_and]

theorem hdX8_figure : hdOK yX8_figure 2 := by decide +kernel
set_option maxHeartbeats 4000000 in
set_option maxRecDepth 100000 in
theorem mX8_figure (l : Launch) (G : GG) (ad : Nat → Nat) (z : Nat → Nat) (fo : Option Nat) (sv : Nat → Nat) (d : Nat → Int32) (pa ke : Nat → Nat) (ik fa : Nat → Int32) (te aw : Nat → Nat) (lo hi : Int32) (hY : YB te z) (hf : ∀ q, fo = some q → q < 2 ^ 31) : Mi l yX8_figure cX8_figure 4 (some .int) (rmN 5 104) G [.ref (ad 0), .int lo, .int hi] (mow G ad z fo sv d pa ke ik fa te aw) (fun (r9 : Int32) (_ : Unit) => r9 = (oN (fvM te z))) (fun (_ : Unit) => mow G ad ((fgM te lo hi (z, fo)).1) ((fgM te lo hi (z, fo)).2) sv d pa ke ik fa te aw) := by
  refine Mi.of (cc := cX8_figure) (nL := 4) (by decide) (Nat.le_of_ble_eq_true rfl) ?_
  intro p e s m below meth c A ls F hr hlocks hnm hX hA hD hP hS hl
  have F : CallFix p m c cX8_figure 4 s [.ref (ad 0), .int lo, .int hi].toArray wA RX8 := F
  obtain ⟨hx, hb, hml, hown, hts⟩ := id F
  have hl : lv_has ls 4 [(0, .ref (ad 0)), (1, .int lo), (2, .int hi)] := hl
  obtain ⟨ht9, y1, y2, y3, y4, y5, y6⟩ := id hY
  refine lv_aload_n hx hb dX8_figure_0 rfl (lv_at hl 0 rfl) ?_
  refine va_get (D := G.1) (ci := 7) (v := .int (nI (z 13))) (C := RX8) (T := TX8) (N := 17) hx hb hts inA8 hown hX.1 hP 0 rfl rfl 13 (by decide) (hts _ kw_693) (fun _ h9 => h9) rfl dX8_figure_1 ?_
  refine lv_iconst (v := (nI 5)) hx hb dX8_figure_4 (by decide) ?_
  refine nv_ne (x := z 13) (y := 5) (tgt := 22) hx hb dX8_figure_5 (by decide) (by omega) (by decide) (fun c5 => ?_) (fun c5 => ?_)
  · refine lv_bipush (v := (-9)) hx hb dX8_figure_22 (by decide) ?_
    refine lv_istore_n (lv' := [(3, .int (-9)), (0, .ref (ad 0)), (1, .int lo), (2, .int hi)]) hx hb dX8_figure_24 rfl hl (by decide) rfl (fun ls hl => ?_)
    refine lv_aload_n hx hb dX8_figure_25 rfl (lv_at hl 1 rfl) ?_
    refine lv_aload_n hx hb dX8_figure_26 rfl (lv_at hl 1 rfl) ?_
    refine va_get (D := G.1) (ci := 7) (v := .int (nI (z 13))) (C := RX8) (T := TX8) (N := 17) hx hb hts inA8 hown hX.1 hP 0 rfl rfl 13 (by decide) (hts _ kw_693) (fun _ h9 => h9) rfl dX8_figure_27 ?_
    refine lv_iconst (v := (nI 5)) hx hb dX8_figure_30 (by decide) ?_
    refine nv_ne (x := z 13) (y := 5) (tgt := 47) hx hb dX8_figure_31 (by decide) (by omega) (by decide) (fun c31 => ?_) (fun c31 => ?_)
    · refine lv_iconst (v := (nI 0)) hx hb dX8_figure_47 (by decide) ?_
      refine ca_Vv (ci := 7) (q := (RX8, TX8, 17)) (rest := []) (wr := ([] : va_W)) F hX (mX8_takes l G ad z fo sv d pa ke ik fa te aw false hY hf) (cA_V hts kw_770 kw_8 kw_767 kw_769 kp_24 hdX8_takes ⟨Nat.le_of_ble_eq_true rfl, Nat.le_of_ble_eq_true rfl⟩) rfl rfl rfl hl.1 rfl (Nat.le_of_ble_eq_true rfl) dX8_figure_48 ⟨Nat.le_of_ble_eq_true rfl, Nat.le_of_ble_eq_true rfl⟩ hP hD hS hA (pm_nil _) (fun u48 H locs hp48 hP hD hS => ?_)
      have hP : va_P G.1 vwCl (mow G ad ((tkM te false (z, fo)).1) ((tkM te false (z, fo)).2) sv d pa ke ik fa te aw) H := wp_pm (pm_nil _).symm hP
      have hD : va_D A (mow G ad ((tkM te false (z, fo)).1) ((tkM te false (z, fo)).2) sv d pa ke ik fa te aw) := wd_pm (pm_nil _).symm hD
      refine lv_iload_n hx hb dX8_figure_51 rfl (lv_at hl 0 rfl) ?_
      have e8 : fgM te lo hi (z, fo) = tkM te false (z, fo) := by rw [fgM_n c5]
      have hP : va_P G.1 vwCl (mow G ad ((fgM te lo hi (z, fo)).1) ((fgM te lo hi (z, fo)).2) sv d pa ke ik fa te aw) H := by rw [e8]; exact hP
      have hD : va_D A (mow G ad ((fgM te lo hi (z, fo)).1) ((fgM te lo hi (z, fo)).2) sv d pa ke ik fa te aw) := by rw [e8]; exact hD
      exact re_i (v := (-9)) hx hb hr hlocks hS () hP hD (by rw [fvM, if_neg c5]; rfl) dX8_figure_52
    · exact absurd c31 c5
  · refine lv_aload_n hx hb dX8_figure_8 rfl (lv_at hl 0 rfl) ?_
    refine lv_aload_n hx hb dX8_figure_9 rfl (lv_at hl 0 rfl) ?_
    refine va_get (D := G.1) (ci := 7) (v := .int (nI (z 11))) (C := RX8) (T := TX8) (N := 17) hx hb hts inA8 hown hX.1 hP 0 rfl rfl 11 (by decide) (hts _ kw_691) (fun _ h9 => h9) rfl dX8_figure_10 ?_
    refine ca_Vi (ci := 7) (q := (RX8, TX8, 17)) (rest := []) (wr := ([] : va_W)) F hX (mX8_at l G ad z fo sv d pa ke ik fa te aw (z 11) ht9 y1 (by omega)) (cA_V hts kw_758 kw_8 kw_755 kw_757 kp_21 hdX8_at ⟨Nat.le_of_ble_eq_true rfl, Nat.le_of_ble_eq_true rfl⟩) rfl rfl rfl hl.1 rfl (Nat.le_of_ble_eq_true rfl) dX8_figure_13 ⟨Nat.le_of_ble_eq_true rfl, Nat.le_of_ble_eq_true rfl⟩ hP hD hS hA (pm_nil _) (fun r13 u13 H locs hp13 hP hD hS => ?_)
    have hP : va_P G.1 vwCl (mow G ad z fo sv d pa ke ik fa te aw) H := wp_pm (pm_nil _).symm hP
    have hD : va_D A (mow G ad z fo sv d pa ke ik fa te aw) := wd_pm (pm_nil _).symm hD
    subst hp13
    refine ti (y := (nI (te (z 11)))) (if_pos (y5 c5).1) ?_
    refine lv_bipush (v := (nI 48)) hx hb dX8_figure_16 (by decide) ?_
    refine lv_isub hx hb dX8_figure_18 (ti (y := (nI ((te (z 11)) - 48))) (pk_sub (by have h9 : 48 ≤ te (z 11) ∧ te (z 11) ≤ 57 := of_decide_eq_true (y5 c5).2; omega)) ?_)
    refine lv_goto (tgt := 24) hx hb dX8_figure_19 (by decide) ?_
    refine lv_istore_n (lv' := [(3, .int (nI ((te (z 11)) - 48))), (0, .ref (ad 0)), (1, .int lo), (2, .int hi)]) hx hb dX8_figure_24 rfl hl (by decide) rfl (fun ls hl => ?_)
    refine lv_aload_n hx hb dX8_figure_25 rfl (lv_at hl 1 rfl) ?_
    refine lv_aload_n hx hb dX8_figure_26 rfl (lv_at hl 1 rfl) ?_
    refine va_get (D := G.1) (ci := 7) (v := .int (nI (z 13))) (C := RX8) (T := TX8) (N := 17) hx hb hts inA8 hown hX.1 hP 0 rfl rfl 13 (by decide) (hts _ kw_693) (fun _ h9 => h9) rfl dX8_figure_27 ?_
    refine lv_iconst (v := (nI 5)) hx hb dX8_figure_30 (by decide) ?_
    refine nv_ne (x := z 13) (y := 5) (tgt := 47) hx hb dX8_figure_31 (by decide) (by omega) (by decide) (fun c31 => ?_) (fun c31 => ?_)
    · exact absurd c5 c31
    · refine lv_iload_n hx hb dX8_figure_34 rfl (lv_at hl 0 rfl) ?_
      refine lv_iload_n hx hb dX8_figure_35 rfl (lv_at hl 2 rfl) ?_
      refine lv_iload_n hx hb dX8_figure_36 rfl (lv_at hl 3 rfl) ?_
      refine ca_Si (rest := [.ref (ad 0)]) (wr := mow G ad z fo sv d pa ke ik fa te aw) F hX (mX8_in l G (nI ((te (z 11)) - 48)) lo hi) (cA_S hts kw_738 kw_8 kw_736 kw_737 hdX8_in ⟨Nat.le_of_ble_eq_true rfl, Nat.le_of_ble_eq_true rfl⟩) rfl hl.1 rfl (Nat.le_of_ble_eq_true rfl) dX8_figure_37 ⟨Nat.le_of_ble_eq_true rfl, Nat.le_of_ble_eq_true rfl⟩ hP hD hS hA (List.Perm.refl _) (fun r37 u37 H locs hp37 hP hD hS => ?_)
      have hP : va_P G.1 vwCl (mow G ad z fo sv d pa ke ik fa te aw) H := hP
      have hD : va_D A (mow G ad z fo sv d pa ke ik fa te aw) := hD
      subst hp37
      refine bv_eq (b := decide (lo ≤ (nI ((te (z 11)) - 48)) ∧ (nI ((te (z 11)) - 48)) ≤ hi)) (tgt := 47) hx hb dX8_figure_40 (by decide) (fun c40 => ?_) (fun c40 => ?_)
      · refine lv_iconst (v := (nI 0)) hx hb dX8_figure_47 (by decide) ?_
        refine ca_Vv (ci := 7) (q := (RX8, TX8, 17)) (rest := []) (wr := ([] : va_W)) F hX (mX8_takes l G ad z fo sv d pa ke ik fa te aw false hY hf) (cA_V hts kw_770 kw_8 kw_767 kw_769 kp_24 hdX8_takes ⟨Nat.le_of_ble_eq_true rfl, Nat.le_of_ble_eq_true rfl⟩) rfl rfl rfl hl.1 rfl (Nat.le_of_ble_eq_true rfl) dX8_figure_48 ⟨Nat.le_of_ble_eq_true rfl, Nat.le_of_ble_eq_true rfl⟩ hP hD hS hA (pm_nil _) (fun u48 H locs hp48 hP hD hS => ?_)
        have hP : va_P G.1 vwCl (mow G ad ((tkM te false (z, fo)).1) ((tkM te false (z, fo)).2) sv d pa ke ik fa te aw) H := wp_pm (pm_nil _).symm hP
        have hD : va_D A (mow G ad ((tkM te false (z, fo)).1) ((tkM te false (z, fo)).2) sv d pa ke ik fa te aw) := wd_pm (pm_nil _).symm hD
        refine lv_iload_n hx hb dX8_figure_51 rfl (lv_at hl 0 rfl) ?_
        have e8 : fgM te lo hi (z, fo) = tkM te false (z, fo) := by rw [fgM_5 c5, c40]
        have hP : va_P G.1 vwCl (mow G ad ((fgM te lo hi (z, fo)).1) ((fgM te lo hi (z, fo)).2) sv d pa ke ik fa te aw) H := by rw [e8]; exact hP
        have hD : va_D A (mow G ad ((fgM te lo hi (z, fo)).1) ((fgM te lo hi (z, fo)).2) sv d pa ke ik fa te aw) := by rw [e8]; exact hD
        exact re_i (v := (nI ((te (z 11)) - 48))) hx hb hr hlocks hS () hP hD (by rw [fvM, if_pos c5]; rfl) dX8_figure_52
      · refine lv_iconst (v := (nI 1)) hx hb dX8_figure_43 (by decide) ?_
        refine lv_goto (tgt := 48) hx hb dX8_figure_44 (by decide) ?_
        refine ca_Vv (ci := 7) (q := (RX8, TX8, 17)) (rest := []) (wr := ([] : va_W)) F hX (mX8_takes l G ad z fo sv d pa ke ik fa te aw true hY hf) (cA_V hts kw_770 kw_8 kw_767 kw_769 kp_24 hdX8_takes ⟨Nat.le_of_ble_eq_true rfl, Nat.le_of_ble_eq_true rfl⟩) rfl rfl rfl hl.1 rfl (Nat.le_of_ble_eq_true rfl) dX8_figure_48 ⟨Nat.le_of_ble_eq_true rfl, Nat.le_of_ble_eq_true rfl⟩ hP hD hS hA (pm_nil _) (fun u48 H locs hp48 hP hD hS => ?_)
        have hP : va_P G.1 vwCl (mow G ad ((tkM te true (z, fo)).1) ((tkM te true (z, fo)).2) sv d pa ke ik fa te aw) H := wp_pm (pm_nil _).symm hP
        have hD : va_D A (mow G ad ((tkM te true (z, fo)).1) ((tkM te true (z, fo)).2) sv d pa ke ik fa te aw) := wd_pm (pm_nil _).symm hD
        refine lv_iload_n hx hb dX8_figure_51 rfl (lv_at hl 0 rfl) ?_
        have e8 : fgM te lo hi (z, fo) = tkM te true (z, fo) := by rw [fgM_5 c5, c40]
        have hP : va_P G.1 vwCl (mow G ad ((fgM te lo hi (z, fo)).1) ((fgM te lo hi (z, fo)).2) sv d pa ke ik fa te aw) H := by rw [e8]; exact hP
        have hD : va_D A (mow G ad ((fgM te lo hi (z, fo)).1) ((fgM te lo hi (z, fo)).2) sv d pa ke ik fa te aw) := by rw [e8]; exact hD
        exact re_i (v := (nI ((te (z 11)) - 48))) hx hb hr hlocks hS () hP hD (by rw [fvM, if_pos c5]; rfl) dX8_figure_52

theorem hdX8_areLinked : hdOK yX8_areLinked 2 := by decide +kernel
set_option maxHeartbeats 4000000 in
set_option maxRecDepth 100000 in
theorem mX8_areLinked (l : Launch) (G : GG) (ad : Nat → Nat) (z : Nat → Nat) (fo : Option Nat) (sv : Nat → Nat) (d : Nat → Int32) (pa ke : Nat → Nat) (ik fa : Nat → Int32) (te aw : Nat → Nat) (a b : Int32) (L : Nat) (hL : L ≤ 12) (hd1 : d 1 = nI L) : Mi l yX8_areLinked cX8_areLinked 5 (some .boolean) (rmN 0 0) G [.ref (ad 0), .int a, .int b] (mow G ad z fo sv d pa ke ik fa te aw) (fun (r9 : Int32) (_ : Unit) => r9 = (bI (alB d a b L))) (fun (_ : Unit) => mow G ad z fo sv d pa ke ik fa te aw) := by
  refine Mi.of (cc := cX8_areLinked) (nL := 5) (by decide) (Nat.le_of_ble_eq_true rfl) ?_
  intro p e s m below meth c A ls F hr hlocks hnm hX hA hD hP hS hl
  have F : CallFix p m c cX8_areLinked 5 s [.ref (ad 0), .int a, .int b].toArray wA RX8 := F
  obtain ⟨hx, hb, hml, hown, hts⟩ := id F
  have hl : lv_has ls 5 [(0, .ref (ad 0)), (1, .int a), (2, .int b)] := hl
  refine lv_iconst (v := (nI 0)) hx hb dX8_areLinked_0 (by decide) ?_
  refine lv_istore_n (lv' := [(3, .int (nI 0)), (0, .ref (ad 0)), (1, .int a), (2, .int b)]) hx hb dX8_areLinked_1 rfl hl (by decide) rfl (fun ls hl => ?_)
  refine lv_iconst (v := (nI 0)) hx hb dX8_areLinked_2 (by decide) ?_
  refine lv_istore (lv' := [(4, .int (nI 0)), (3, .int (nI 0)), (0, .ref (ad 0)), (1, .int a), (2, .int b)]) hx hb dX8_areLinked_3 hl (by decide) rfl (fun ls hl => ?_)
  have lp5 : ∀ (n5 : Nat) (k : Nat) (y : Nat), (L - k) < n5 → (k ≤ L) → (y ≤ 1) → (y = 1 ↔ alB d a b k = true) → ∀ (H : Heap) (locs : List Loc), va_P G.1 vwCl (mow G ad z fo sv d pa ke ik fa te aw) H → va_D A (mow G ad z fo sv d pa ke ik fa te aw) → va_S A s.heap H locs → ∀ (ls : Array Slot), lv_has ls 5 [(0, .ref (ad 0)), (1, .int a), (2, .int b), (3, .int (nI y)), (4, .int (nI k))] → WI p l e (rmN 0 0) s m [.ref (ad 0), .int a, .int b] below meth c H locs G A (fun (r9 : Int32) (_ : Unit) => r9 = (bI (alB d a b L))) (fun (_ : Unit) => mow G ad z fo sv d pa ke ik fa te aw) (F0 m 5 ls []) := by
    intro n5
    induction n5 with
    | zero => intro k y h9; exact absurd h9 (Nat.not_lt_zero _)
    | succ n5 ih5 =>
      intro k y hm5  hk hy1 hyy H locs hP hD hS ls hl
      refine lv_iload hx hb dX8_areLinked_5 (lv_at hl 4 rfl) ?_
      refine lv_aload_n hx hb dX8_areLinked_7 rfl (lv_at hl 0 rfl) ?_
      refine va_get (D := G.1) (ci := 7) (v := .ref (ad 2)) (C := RX8) (T := TX8) (N := 17) hx hb hts inA8 hown hX.1 hP 0 rfl rfl 2 (by decide) (hts _ kw_682) (fun _ h9 => h9) rfl dX8_areLinked_8 ?_
      refine lv_iconst (v := (nI 1)) hx hb dX8_areLinked_11 (by decide) ?_
      refine nv_aldI (f := d) (k := 1) hx hb hX hP 2 rfl (by omega) (by decide) dX8_areLinked_12 ?_
      refine ti (y := (nI L)) hd1 ?_
      refine nv_ge (x := k) (y := L) (tgt := 88) hx hb dX8_areLinked_13 (by decide) (by omega) (by omega) (fun c13 => ?_) (fun c13 => ?_)
      · refine lv_iload_n hx hb dX8_areLinked_88 rfl (lv_at hl 3 rfl) ?_
        refine ti (y := (bI (alB d a b L))) (by have ek : k = L := (by omega); rw [ek] at hyy; exact y_bI hy1 hyy) ?_
        exact re_z (v := (bI (alB d a b L))) hx hb hr hlocks hS () hP hD rfl (bI_nar _) dX8_areLinked_89
      · refine lv_iload_n hx hb dX8_areLinked_16 rfl (lv_at hl 3 rfl) ?_
        refine nv_zne (x := y) (tgt := 76) hx hb dX8_areLinked_17 (by decide) (by omega) (fun c17 => ?_) (fun c17 => ?_)
        · refine lv_iconst (v := (nI 1)) hx hb dX8_areLinked_76 (by decide) ?_
          refine lv_goto (tgt := 81) hx hb dX8_areLinked_77 (by decide) ?_
          refine lv_istore_n (lv' := [(3, .int (nI 1)), (0, .ref (ad 0)), (1, .int a), (2, .int b), (4, .int (nI k))]) hx hb dX8_areLinked_81 rfl hl (by decide) rfl (fun ls hl => ?_)
          refine lv_iinc (v := (nI (k + 1))) (lv' := [(4, .int (nI (k + 1))), (3, .int (nI 1)), (0, .ref (ad 0)), (1, .int a), (2, .int b)]) hx hb dX8_areLinked_82 hl (k := 4) rfl (qn_inc _) (by decide) rfl (fun ls hl => ?_)
          refine lv_goto (tgt := 5) hx hb dX8_areLinked_85 (by decide) ?_
          exact ih5 (k + 1) 1 (by omega) (by omega) (by omega) ⟨fun _ => by rw [alB, hyy.mp (by omega)]; rfl, fun _ => rfl⟩ _ _ hP hD hS ls (lv_sub hl [2, 3, 4, 1, 0] rfl)
        · refine lv_aload_n hx hb dX8_areLinked_20 rfl (lv_at hl 0 rfl) ?_
          refine va_get (D := G.1) (ci := 7) (v := .ref (ad 2)) (C := RX8) (T := TX8) (N := 17) hx hb hts inA8 hown hX.1 hP 0 rfl rfl 2 (by decide) (hts _ kw_682) (fun _ h9 => h9) rfl dX8_areLinked_21 ?_
          refine lv_bipush (v := (nI 16)) hx hb dX8_areLinked_24 (by decide) ?_
          refine lv_iload hx hb dX8_areLinked_26 (lv_at hl 4 rfl) ?_
          refine lv_iadd hx hb dX8_areLinked_28 (ti (y := (nI (16 + k))) (nI_add _ _) ?_)
          refine nv_aldI (f := d) (k := 16 + k) hx hb hX hP 2 rfl (by omega) (by decide) dX8_areLinked_29 ?_
          refine lv_iload_n hx hb dX8_areLinked_30 rfl (lv_at hl 1 rfl) ?_
          refine lv_icmp_ne (x := (d (16 + k))) (y := a) (tgt := 48) hx hb dX8_areLinked_31 (by decide) (fun c31 => ?_) (fun c31 => ?_)
          · refine lv_aload_n hx hb dX8_areLinked_48 rfl (lv_at hl 0 rfl) ?_
            refine va_get (D := G.1) (ci := 7) (v := .ref (ad 2)) (C := RX8) (T := TX8) (N := 17) hx hb hts inA8 hown hX.1 hP 0 rfl rfl 2 (by decide) (hts _ kw_682) (fun _ h9 => h9) rfl dX8_areLinked_49 ?_
            refine lv_bipush (v := (nI 16)) hx hb dX8_areLinked_52 (by decide) ?_
            refine lv_iload hx hb dX8_areLinked_54 (lv_at hl 4 rfl) ?_
            refine lv_iadd hx hb dX8_areLinked_56 (ti (y := (nI (16 + k))) (nI_add _ _) ?_)
            refine nv_aldI (f := d) (k := 16 + k) hx hb hX hP 2 rfl (by omega) (by decide) dX8_areLinked_57 ?_
            refine lv_iload_n hx hb dX8_areLinked_58 rfl (lv_at hl 2 rfl) ?_
            refine lv_icmp_ne (x := (d (16 + k))) (y := b) (tgt := 80) hx hb dX8_areLinked_59 (by decide) (fun c59 => ?_) (fun c59 => ?_)
            · refine lv_iconst (v := (nI 0)) hx hb dX8_areLinked_80 (by decide) ?_
              refine lv_istore_n (lv' := [(3, .int (nI 0)), (0, .ref (ad 0)), (1, .int a), (2, .int b), (4, .int (nI k))]) hx hb dX8_areLinked_81 rfl hl (by decide) rfl (fun ls hl => ?_)
              refine lv_iinc (v := (nI (k + 1))) (lv' := [(4, .int (nI (k + 1))), (3, .int (nI 0)), (0, .ref (ad 0)), (1, .int a), (2, .int b)]) hx hb dX8_areLinked_82 hl (k := 4) rfl (qn_inc _) (by decide) rfl (fun ls hl => ?_)
              refine lv_goto (tgt := 5) hx hb dX8_areLinked_85 (by decide) ?_
              exact ih5 (k + 1) 0 (by omega) (by omega) (by omega) (by have h0 : alB d a b k = false := y_0 hyy c17; simp only [alB, h0, decide_eq_false c31, decide_eq_false c59, Bool.false_and, Bool.and_false, Bool.true_and, Bool.and_true, Bool.or_false, Bool.false_or, Bool.or_true, Bool.true_or] <;> decide) _ _ hP hD hS ls (lv_sub hl [2, 3, 4, 1, 0] rfl)
            · refine lv_aload_n hx hb dX8_areLinked_62 rfl (lv_at hl 0 rfl) ?_
              refine va_get (D := G.1) (ci := 7) (v := .ref (ad 2)) (C := RX8) (T := TX8) (N := 17) hx hb hts inA8 hown hX.1 hP 0 rfl rfl 2 (by decide) (hts _ kw_682) (fun _ h9 => h9) rfl dX8_areLinked_63 ?_
              refine lv_bipush (v := (nI 28)) hx hb dX8_areLinked_66 (by decide) ?_
              refine lv_iload hx hb dX8_areLinked_68 (lv_at hl 4 rfl) ?_
              refine lv_iadd hx hb dX8_areLinked_70 (ti (y := (nI (28 + k))) (nI_add _ _) ?_)
              refine nv_aldI (f := d) (k := 28 + k) hx hb hX hP 2 rfl (by omega) (by decide) dX8_areLinked_71 ?_
              refine lv_iload_n hx hb dX8_areLinked_72 rfl (lv_at hl 1 rfl) ?_
              refine lv_icmp_ne (x := (d (28 + k))) (y := a) (tgt := 80) hx hb dX8_areLinked_73 (by decide) (fun c73 => ?_) (fun c73 => ?_)
              · refine lv_iconst (v := (nI 0)) hx hb dX8_areLinked_80 (by decide) ?_
                refine lv_istore_n (lv' := [(3, .int (nI 0)), (0, .ref (ad 0)), (1, .int a), (2, .int b), (4, .int (nI k))]) hx hb dX8_areLinked_81 rfl hl (by decide) rfl (fun ls hl => ?_)
                refine lv_iinc (v := (nI (k + 1))) (lv' := [(4, .int (nI (k + 1))), (3, .int (nI 0)), (0, .ref (ad 0)), (1, .int a), (2, .int b)]) hx hb dX8_areLinked_82 hl (k := 4) rfl (qn_inc _) (by decide) rfl (fun ls hl => ?_)
                refine lv_goto (tgt := 5) hx hb dX8_areLinked_85 (by decide) ?_
                exact ih5 (k + 1) 0 (by omega) (by omega) (by omega) (by have h0 : alB d a b k = false := y_0 hyy c17; simp only [alB, h0, decide_eq_false c31, decide_eq_true c59, decide_eq_false c73, Bool.false_and, Bool.and_false, Bool.true_and, Bool.and_true, Bool.or_false, Bool.false_or, Bool.or_true, Bool.true_or] <;> decide) _ _ hP hD hS ls (lv_sub hl [2, 3, 4, 1, 0] rfl)
              · refine lv_iconst (v := (nI 1)) hx hb dX8_areLinked_76 (by decide) ?_
                refine lv_goto (tgt := 81) hx hb dX8_areLinked_77 (by decide) ?_
                refine lv_istore_n (lv' := [(3, .int (nI 1)), (0, .ref (ad 0)), (1, .int a), (2, .int b), (4, .int (nI k))]) hx hb dX8_areLinked_81 rfl hl (by decide) rfl (fun ls hl => ?_)
                refine lv_iinc (v := (nI (k + 1))) (lv' := [(4, .int (nI (k + 1))), (3, .int (nI 1)), (0, .ref (ad 0)), (1, .int a), (2, .int b)]) hx hb dX8_areLinked_82 hl (k := 4) rfl (qn_inc _) (by decide) rfl (fun ls hl => ?_)
                refine lv_goto (tgt := 5) hx hb dX8_areLinked_85 (by decide) ?_
                exact ih5 (k + 1) 1 (by omega) (by omega) (by omega) (by have h0 : alB d a b k = false := y_0 hyy c17; simp only [alB, h0, decide_eq_false c31, decide_eq_true c59, decide_eq_true c73, Bool.false_and, Bool.and_false, Bool.true_and, Bool.and_true, Bool.or_false, Bool.false_or, Bool.or_true, Bool.true_or] <;> decide) _ _ hP hD hS ls (lv_sub hl [2, 3, 4, 1, 0] rfl)
          · refine lv_aload_n hx hb dX8_areLinked_34 rfl (lv_at hl 0 rfl) ?_
            refine va_get (D := G.1) (ci := 7) (v := .ref (ad 2)) (C := RX8) (T := TX8) (N := 17) hx hb hts inA8 hown hX.1 hP 0 rfl rfl 2 (by decide) (hts _ kw_682) (fun _ h9 => h9) rfl dX8_areLinked_35 ?_
            refine lv_bipush (v := (nI 28)) hx hb dX8_areLinked_38 (by decide) ?_
            refine lv_iload hx hb dX8_areLinked_40 (lv_at hl 4 rfl) ?_
            refine lv_iadd hx hb dX8_areLinked_42 (ti (y := (nI (28 + k))) (nI_add _ _) ?_)
            refine nv_aldI (f := d) (k := 28 + k) hx hb hX hP 2 rfl (by omega) (by decide) dX8_areLinked_43 ?_
            refine lv_iload_n hx hb dX8_areLinked_44 rfl (lv_at hl 2 rfl) ?_
            refine lv_icmp_eq (x := (d (28 + k))) (y := b) (tgt := 76) hx hb dX8_areLinked_45 (by decide) (fun c45 => ?_) (fun c45 => ?_)
            · refine lv_iconst (v := (nI 1)) hx hb dX8_areLinked_76 (by decide) ?_
              refine lv_goto (tgt := 81) hx hb dX8_areLinked_77 (by decide) ?_
              refine lv_istore_n (lv' := [(3, .int (nI 1)), (0, .ref (ad 0)), (1, .int a), (2, .int b), (4, .int (nI k))]) hx hb dX8_areLinked_81 rfl hl (by decide) rfl (fun ls hl => ?_)
              refine lv_iinc (v := (nI (k + 1))) (lv' := [(4, .int (nI (k + 1))), (3, .int (nI 1)), (0, .ref (ad 0)), (1, .int a), (2, .int b)]) hx hb dX8_areLinked_82 hl (k := 4) rfl (qn_inc _) (by decide) rfl (fun ls hl => ?_)
              refine lv_goto (tgt := 5) hx hb dX8_areLinked_85 (by decide) ?_
              exact ih5 (k + 1) 1 (by omega) (by omega) (by omega) (by have h0 : alB d a b k = false := y_0 hyy c17; simp only [alB, h0, decide_eq_true c31, decide_eq_true c45, Bool.false_and, Bool.and_false, Bool.true_and, Bool.and_true, Bool.or_false, Bool.false_or, Bool.or_true, Bool.true_or] <;> decide) _ _ hP hD hS ls (lv_sub hl [2, 3, 4, 1, 0] rfl)
            · refine lv_aload_n hx hb dX8_areLinked_48 rfl (lv_at hl 0 rfl) ?_
              refine va_get (D := G.1) (ci := 7) (v := .ref (ad 2)) (C := RX8) (T := TX8) (N := 17) hx hb hts inA8 hown hX.1 hP 0 rfl rfl 2 (by decide) (hts _ kw_682) (fun _ h9 => h9) rfl dX8_areLinked_49 ?_
              refine lv_bipush (v := (nI 16)) hx hb dX8_areLinked_52 (by decide) ?_
              refine lv_iload hx hb dX8_areLinked_54 (lv_at hl 4 rfl) ?_
              refine lv_iadd hx hb dX8_areLinked_56 (ti (y := (nI (16 + k))) (nI_add _ _) ?_)
              refine nv_aldI (f := d) (k := 16 + k) hx hb hX hP 2 rfl (by omega) (by decide) dX8_areLinked_57 ?_
              refine lv_iload_n hx hb dX8_areLinked_58 rfl (lv_at hl 2 rfl) ?_
              refine lv_icmp_ne (x := (d (16 + k))) (y := b) (tgt := 80) hx hb dX8_areLinked_59 (by decide) (fun c59 => ?_) (fun c59 => ?_)
              · refine lv_iconst (v := (nI 0)) hx hb dX8_areLinked_80 (by decide) ?_
                refine lv_istore_n (lv' := [(3, .int (nI 0)), (0, .ref (ad 0)), (1, .int a), (2, .int b), (4, .int (nI k))]) hx hb dX8_areLinked_81 rfl hl (by decide) rfl (fun ls hl => ?_)
                refine lv_iinc (v := (nI (k + 1))) (lv' := [(4, .int (nI (k + 1))), (3, .int (nI 0)), (0, .ref (ad 0)), (1, .int a), (2, .int b)]) hx hb dX8_areLinked_82 hl (k := 4) rfl (qn_inc _) (by decide) rfl (fun ls hl => ?_)
                refine lv_goto (tgt := 5) hx hb dX8_areLinked_85 (by decide) ?_
                exact ih5 (k + 1) 0 (by omega) (by omega) (by omega) (by have h0 : alB d a b k = false := y_0 hyy c17; simp only [alB, h0, decide_eq_true c31, decide_eq_false c45, decide_eq_false c59, Bool.false_and, Bool.and_false, Bool.true_and, Bool.and_true, Bool.or_false, Bool.false_or, Bool.or_true, Bool.true_or] <;> decide) _ _ hP hD hS ls (lv_sub hl [2, 3, 4, 1, 0] rfl)
              · refine lv_aload_n hx hb dX8_areLinked_62 rfl (lv_at hl 0 rfl) ?_
                refine va_get (D := G.1) (ci := 7) (v := .ref (ad 2)) (C := RX8) (T := TX8) (N := 17) hx hb hts inA8 hown hX.1 hP 0 rfl rfl 2 (by decide) (hts _ kw_682) (fun _ h9 => h9) rfl dX8_areLinked_63 ?_
                refine lv_bipush (v := (nI 28)) hx hb dX8_areLinked_66 (by decide) ?_
                refine lv_iload hx hb dX8_areLinked_68 (lv_at hl 4 rfl) ?_
                refine lv_iadd hx hb dX8_areLinked_70 (ti (y := (nI (28 + k))) (nI_add _ _) ?_)
                refine nv_aldI (f := d) (k := 28 + k) hx hb hX hP 2 rfl (by omega) (by decide) dX8_areLinked_71 ?_
                refine lv_iload_n hx hb dX8_areLinked_72 rfl (lv_at hl 1 rfl) ?_
                refine lv_icmp_ne (x := (d (28 + k))) (y := a) (tgt := 80) hx hb dX8_areLinked_73 (by decide) (fun c73 => ?_) (fun c73 => ?_)
                · refine lv_iconst (v := (nI 0)) hx hb dX8_areLinked_80 (by decide) ?_
                  refine lv_istore_n (lv' := [(3, .int (nI 0)), (0, .ref (ad 0)), (1, .int a), (2, .int b), (4, .int (nI k))]) hx hb dX8_areLinked_81 rfl hl (by decide) rfl (fun ls hl => ?_)
                  refine lv_iinc (v := (nI (k + 1))) (lv' := [(4, .int (nI (k + 1))), (3, .int (nI 0)), (0, .ref (ad 0)), (1, .int a), (2, .int b)]) hx hb dX8_areLinked_82 hl (k := 4) rfl (qn_inc _) (by decide) rfl (fun ls hl => ?_)
                  refine lv_goto (tgt := 5) hx hb dX8_areLinked_85 (by decide) ?_
                  exact ih5 (k + 1) 0 (by omega) (by omega) (by omega) (by have h0 : alB d a b k = false := y_0 hyy c17; simp only [alB, h0, decide_eq_true c31, decide_eq_false c45, decide_eq_true c59, decide_eq_false c73, Bool.false_and, Bool.and_false, Bool.true_and, Bool.and_true, Bool.or_false, Bool.false_or, Bool.or_true, Bool.true_or] <;> decide) _ _ hP hD hS ls (lv_sub hl [2, 3, 4, 1, 0] rfl)
                · refine lv_iconst (v := (nI 1)) hx hb dX8_areLinked_76 (by decide) ?_
                  refine lv_goto (tgt := 81) hx hb dX8_areLinked_77 (by decide) ?_
                  refine lv_istore_n (lv' := [(3, .int (nI 1)), (0, .ref (ad 0)), (1, .int a), (2, .int b), (4, .int (nI k))]) hx hb dX8_areLinked_81 rfl hl (by decide) rfl (fun ls hl => ?_)
                  refine lv_iinc (v := (nI (k + 1))) (lv' := [(4, .int (nI (k + 1))), (3, .int (nI 1)), (0, .ref (ad 0)), (1, .int a), (2, .int b)]) hx hb dX8_areLinked_82 hl (k := 4) rfl (qn_inc _) (by decide) rfl (fun ls hl => ?_)
                  refine lv_goto (tgt := 5) hx hb dX8_areLinked_85 (by decide) ?_
                  exact ih5 (k + 1) 1 (by omega) (by omega) (by omega) (by have h0 : alB d a b k = false := y_0 hyy c17; simp only [alB, h0, decide_eq_true c31, decide_eq_false c45, decide_eq_true c59, decide_eq_true c73, Bool.false_and, Bool.and_false, Bool.true_and, Bool.and_true, Bool.or_false, Bool.false_or, Bool.or_true, Bool.true_or] <;> decide) _ _ hP hD hS ls (lv_sub hl [2, 3, 4, 1, 0] rfl)
  exact lp5 _ 0 0 (Nat.lt_succ_self _) (Nat.zero_le _) (by omega) ⟨fun h => absurd h (by decide), fun h => absurd (show false = true from h) (by decide)⟩ _ _ hP hD hS ls (lv_sub hl [2, 3, 4, 1, 0] rfl)

theorem hdX8_readsLink : hdOK yX8_readsLink 0 := by decide +kernel
set_option maxHeartbeats 4000000 in
set_option maxRecDepth 100000 in
theorem mX8_readsLink (l : Launch) (G : GG) (ad : Nat → Nat) (z : Nat → Nat) (fo : Option Nat) (sv : Nat → Nat) (d : Nat → Int32) (pa ke : Nat → Nat) (ik fa : Nat → Int32) (te aw : Nat → Nat) (L : Nat) (hY : YB te z) (hf : ∀ q, fo = some q → q < 2 ^ 31) (hL : L ≤ 12) (hd1 : d 1 = nI L) : Mv l yX8_readsLink cX8_readsLink 5 none (rmN 6 127) G [.ref (ad 0)] (mow G ad z fo sv d pa ke ik fa te aw) (fun (_ : Unit) => True) (fun (_ : Unit) => mow G ad ((rl4 te d L (z, fo)).1) ((rl4 te d L (z, fo)).2) sv (rlD te d L (z, fo)) pa ke ik fa te aw) := by
  refine Mv.of (cc := cX8_readsLink) (nL := 5) (by decide) (Nat.le_of_ble_eq_true rfl) ?_
  intro p e s m below meth c A ls F hr hlocks hnm hX hA hD hP hS hl
  have F : CallFix p m c cX8_readsLink 5 s [.ref (ad 0)].toArray wA RX8 := F
  obtain ⟨hx, hb, hml, hown, hts⟩ := id F
  have hl : lv_has ls 5 [(0, .ref (ad 0))] := hl
  obtain ⟨ht9, y1, y2, y3, y4, y5, y6⟩ := id hY
  have hY1 : YB te (rl1 te L (z, fo)).1 := hY.r1 (q := (z, fo)) L
  have hY2 : YB te (rl2 te d L (z, fo)).1 := hY.r2 (q := (z, fo)) d L
  have hY3 : YB te (rl3 te d L (z, fo)).1 := hY.r3 (q := (z, fo)) d L
  have hY4 : YB te (rl4 te d L (z, fo)).1 := hY.r4 (q := (z, fo)) d L
  have hf1 : ∀ x, (rl1 te L (z, fo)).2 = some x → x < 2 ^ 31 := fo_tk (q := (z, fo)) hY hf
  have hf2 : ∀ x, (rl2 te d L (z, fo)).2 = some x → x < 2 ^ 31 := fo_tk (q := (rl1 te L (z, fo))) hY1 hf1
  have hf3 : ∀ x, (rl3 te d L (z, fo)).2 = some x → x < 2 ^ 31 := fo_tk (q := (rl2 te d L (z, fo))) hY2 hf2
  have hf4 : ∀ x, (rl4 te d L (z, fo)).2 = some x → x < 2 ^ 31 := fo_tk (q := (rl3 te d L (z, fo))) hY3 hf3
  refine lv_aload_n hx hb dX8_readsLink_0 rfl (lv_at hl 0 rfl) ?_
  refine lv_aload_n hx hb dX8_readsLink_1 rfl (lv_at hl 0 rfl) ?_
  refine va_get (D := G.1) (ci := 7) (v := .ref (ad 2)) (C := RX8) (T := TX8) (N := 17) hx hb hts inA8 hown hX.1 hP 0 rfl rfl 2 (by decide) (hts _ kw_682) (fun _ h9 => h9) rfl dX8_readsLink_2 ?_
  refine lv_iconst (v := (nI 1)) hx hb dX8_readsLink_5 (by decide) ?_
  refine nv_aldI (f := d) (k := 1) hx hb hX hP 2 rfl (by omega) (by decide) dX8_readsLink_6 ?_
  refine ti (y := (nI L)) hd1 ?_
  refine lv_bipush (v := (nI 12)) hx hb dX8_readsLink_7 (by decide) ?_
  refine nv_ge (x := L) (y := 12) (tgt := 16) hx hb dX8_readsLink_9 (by decide) (by omega) (by decide) (fun c9 => ?_) (fun c9 => ?_)
  · refine lv_iconst (v := (nI 0)) hx hb dX8_readsLink_16 (by decide) ?_
    refine ti (y := (bI (decide (L < 12)))) (by rw [decide_eq_false (Nat.not_lt.mpr c9)]; rfl) ?_
    refine ca_Vv (ci := 7) (q := (RX8, TX8, 17)) (rest := []) (wr := ([] : va_W)) F hX (mX8_takes l G ad z fo sv d pa ke ik fa te aw (decide (L < 12)) hY hf) (cA_V hts kw_770 kw_8 kw_767 kw_769 kp_24 hdX8_takes ⟨Nat.le_of_ble_eq_true rfl, Nat.le_of_ble_eq_true rfl⟩) rfl rfl rfl hl.1 rfl (Nat.le_of_ble_eq_true rfl) dX8_readsLink_17 ⟨Nat.le_of_ble_eq_true rfl, Nat.le_of_ble_eq_true rfl⟩ hP hD hS hA (pm_nil _) (fun u17 H locs hp17 hP hD hS => ?_)
    have hP : va_P G.1 vwCl (mow G ad ((tkM te (decide (L < 12)) (z, fo)).1) ((tkM te (decide (L < 12)) (z, fo)).2) sv d pa ke ik fa te aw) H := wp_pm (pm_nil _).symm hP
    have hD : va_D A (mow G ad ((tkM te (decide (L < 12)) (z, fo)).1) ((tkM te (decide (L < 12)) (z, fo)).2) sv d pa ke ik fa te aw) := wd_pm (pm_nil _).symm hD
    have hP : va_P G.1 vwCl (mow G ad ((rl1 te L (z, fo)).1) ((rl1 te L (z, fo)).2) sv d pa ke ik fa te aw) H := by rw [show (rl1 te L (z, fo)) = (tkM te (decide (L < 12)) (z, fo)) from rfl]; exact hP
    have hD : va_D A (mow G ad ((rl1 te L (z, fo)).1) ((rl1 te L (z, fo)).2) sv d pa ke ik fa te aw) := by rw [show (rl1 te L (z, fo)) = (tkM te (decide (L < 12)) (z, fo)) from rfl]; exact hD
    refine lv_aload_n hx hb dX8_readsLink_20 rfl (lv_at hl 0 rfl) ?_
    refine lv_iconst (v := (nI 0)) hx hb dX8_readsLink_21 (by decide) ?_
    refine lv_aload_n hx hb dX8_readsLink_22 rfl (lv_at hl 0 rfl) ?_
    refine va_get (D := G.1) (ci := 7) (v := .ref (ad 2)) (C := RX8) (T := TX8) (N := 17) hx hb hts inA8 hown hX.1 hP 0 rfl rfl 2 (by decide) (hts _ kw_682) (fun _ h9 => h9) rfl dX8_readsLink_23 ?_
    refine lv_iconst (v := (nI 0)) hx hb dX8_readsLink_26 (by decide) ?_
    refine nv_aldI (f := d) (k := 0) hx hb hX hP 2 rfl (by omega) (by decide) dX8_readsLink_27 ?_
    refine lv_iconst (v := (nI 1)) hx hb dX8_readsLink_28 (by decide) ?_
    refine lv_isub hx hb dX8_readsLink_29 ?_
    refine ca_Vi (ci := 7) (q := (RX8, TX8, 17)) (rest := []) (wr := ([] : va_W)) F hX (mX8_figure l G ad ((rl1 te L (z, fo)).1) ((rl1 te L (z, fo)).2) sv d pa ke ik fa te aw (nI 0) ((d 0) - (nI 1)) hY1 hf1) (cA_V hts kw_774 kw_8 kw_771 kw_773 kp_25 hdX8_figure ⟨Nat.le_of_ble_eq_true rfl, Nat.le_of_ble_eq_true rfl⟩) rfl rfl rfl hl.1 rfl (Nat.le_of_ble_eq_true rfl) dX8_readsLink_30 ⟨Nat.le_of_ble_eq_true rfl, Nat.le_of_ble_eq_true rfl⟩ hP hD hS hA (pm_nil _) (fun r30 u30 H locs hp30 hP hD hS => ?_)
    have hP : va_P G.1 vwCl (mow G ad ((fgM te (nI 0) ((d 0) - (nI 1)) (rl1 te L (z, fo))).1) ((fgM te (nI 0) ((d 0) - (nI 1)) (rl1 te L (z, fo))).2) sv d pa ke ik fa te aw) H := wp_pm (pm_nil _).symm hP
    have hD : va_D A (mow G ad ((fgM te (nI 0) ((d 0) - (nI 1)) (rl1 te L (z, fo))).1) ((fgM te (nI 0) ((d 0) - (nI 1)) (rl1 te L (z, fo))).2) sv d pa ke ik fa te aw) := wd_pm (pm_nil _).symm hD
    subst hp30
    have hP : va_P G.1 vwCl (mow G ad ((rl2 te d L (z, fo)).1) ((rl2 te d L (z, fo)).2) sv d pa ke ik fa te aw) H := by rw [show (rl2 te d L (z, fo)) = (fgM te (nI 0) ((d 0) - (nI 1)) (rl1 te L (z, fo))) from rfl]; exact hP
    have hD : va_D A (mow G ad ((rl2 te d L (z, fo)).1) ((rl2 te d L (z, fo)).2) sv d pa ke ik fa te aw) := by rw [show (rl2 te d L (z, fo)) = (fgM te (nI 0) ((d 0) - (nI 1)) (rl1 te L (z, fo))) from rfl]; exact hD
    refine lv_istore_n (lv' := [(1, .int (oN (fvM te ((rl1 te L (z, fo)).1)))), (0, .ref (ad 0))]) hx hb dX8_readsLink_33 rfl hl (by decide) rfl (fun ls hl => ?_)
    refine lv_aload_n hx hb dX8_readsLink_34 rfl (lv_at hl 1 rfl) ?_
    refine va_get (D := G.1) (ci := 7) (v := .int (nI (((rl2 te d L (z, fo)).1) 13))) (C := RX8) (T := TX8) (N := 17) hx hb hts inA8 hown hX.1 hP 0 rfl rfl 13 (by decide) (hts _ kw_693) (fun _ h9 => h9) rfl dX8_readsLink_35 ?_
    refine lv_iconst (v := (nI 5)) hx hb dX8_readsLink_38 (by decide) ?_
    refine nv_ne (x := ((rl2 te d L (z, fo)).1) 13) (y := 5) (tgt := 56) hx hb dX8_readsLink_39 (by decide) (by have := hY2.2.2.2.2.1; omega) (by decide) (fun c39 => ?_) (fun c39 => ?_)
    · refine lv_bipush (v := (-9)) hx hb dX8_readsLink_56 (by decide) ?_
      refine ti (y := (oN (fvM te (rl2 te d L (z, fo)).1))) (by rw [fvM, if_neg c39]; rfl) ?_
      refine lv_istore_n (lv' := [(2, .int (oN (fvM te (rl2 te d L (z, fo)).1))), (1, .int (oN (fvM te ((rl1 te L (z, fo)).1)))), (0, .ref (ad 0))]) hx hb dX8_readsLink_58 rfl hl (by decide) rfl (fun ls hl => ?_)
      refine lv_aload_n hx hb dX8_readsLink_59 rfl (lv_at hl 2 rfl) ?_
      refine lv_iload_n hx hb dX8_readsLink_60 rfl (lv_at hl 0 rfl) ?_
      refine lv_iconst (v := (nI 0)) hx hb dX8_readsLink_61 (by decide) ?_
      refine lv_aload_n hx hb dX8_readsLink_62 rfl (lv_at hl 2 rfl) ?_
      refine va_get (D := G.1) (ci := 7) (v := .ref (ad 2)) (C := RX8) (T := TX8) (N := 17) hx hb hts inA8 hown hX.1 hP 0 rfl rfl 2 (by decide) (hts _ kw_682) (fun _ h9 => h9) rfl dX8_readsLink_63 ?_
      refine lv_iconst (v := (nI 0)) hx hb dX8_readsLink_66 (by decide) ?_
      refine nv_aldI (f := d) (k := 0) hx hb hX hP 2 rfl (by omega) (by decide) dX8_readsLink_67 ?_
      refine lv_iconst (v := (nI 1)) hx hb dX8_readsLink_68 (by decide) ?_
      refine lv_isub hx hb dX8_readsLink_69 ?_
      refine ca_Si (rest := [.ref (ad 0)]) (wr := mow G ad ((rl2 te d L (z, fo)).1) ((rl2 te d L (z, fo)).2) sv d pa ke ik fa te aw) F hX (mX8_in l G (oN (fvM te (rl2 te d L (z, fo)).1)) (nI 0) ((d 0) - (nI 1))) (cA_S hts kw_738 kw_8 kw_736 kw_737 hdX8_in ⟨Nat.le_of_ble_eq_true rfl, Nat.le_of_ble_eq_true rfl⟩) rfl hl.1 rfl (Nat.le_of_ble_eq_true rfl) dX8_readsLink_70 ⟨Nat.le_of_ble_eq_true rfl, Nat.le_of_ble_eq_true rfl⟩ hP hD hS hA (List.Perm.refl _) (fun r70 u70 H locs hp70 hP hD hS => ?_)
      have hP : va_P G.1 vwCl (mow G ad ((rl2 te d L (z, fo)).1) ((rl2 te d L (z, fo)).2) sv d pa ke ik fa te aw) H := hP
      have hD : va_D A (mow G ad ((rl2 te d L (z, fo)).1) ((rl2 te d L (z, fo)).2) sv d pa ke ik fa te aw) := hD
      subst hp70
      refine bv_eq (b := decide ((nI 0) ≤ (oN (fvM te (rl2 te d L (z, fo)).1)) ∧ (oN (fvM te (rl2 te d L (z, fo)).1)) ≤ ((d 0) - (nI 1)))) (tgt := 94) hx hb dX8_readsLink_73 (by decide) (fun c73 => ?_) (fun c73 => ?_)
      · refine lv_iconst (v := (nI 0)) hx hb dX8_readsLink_94 (by decide) ?_
        refine ti (y := (bI (rlB te d L (z, fo)))) (by unfold rlB; rw [c73, Bool.false_and, Bool.false_and] <;> rfl) ?_
        refine ca_Vv (ci := 7) (q := (RX8, TX8, 17)) (rest := []) (wr := ([] : va_W)) F hX (mX8_takes l G ad ((rl2 te d L (z, fo)).1) ((rl2 te d L (z, fo)).2) sv d pa ke ik fa te aw (rlB te d L (z, fo)) hY2 hf2) (cA_V hts kw_770 kw_8 kw_767 kw_769 kp_24 hdX8_takes ⟨Nat.le_of_ble_eq_true rfl, Nat.le_of_ble_eq_true rfl⟩) rfl rfl rfl hl.1 rfl (Nat.le_of_ble_eq_true rfl) dX8_readsLink_95 ⟨Nat.le_of_ble_eq_true rfl, Nat.le_of_ble_eq_true rfl⟩ hP hD hS hA (pm_nil _) (fun u95 H locs hp95 hP hD hS => ?_)
        have hP : va_P G.1 vwCl (mow G ad ((tkM te (rlB te d L (z, fo)) (rl2 te d L (z, fo))).1) ((tkM te (rlB te d L (z, fo)) (rl2 te d L (z, fo))).2) sv d pa ke ik fa te aw) H := wp_pm (pm_nil _).symm hP
        have hD : va_D A (mow G ad ((tkM te (rlB te d L (z, fo)) (rl2 te d L (z, fo))).1) ((tkM te (rlB te d L (z, fo)) (rl2 te d L (z, fo))).2) sv d pa ke ik fa te aw) := wd_pm (pm_nil _).symm hD
        have hP : va_P G.1 vwCl (mow G ad ((rl3 te d L (z, fo)).1) ((rl3 te d L (z, fo)).2) sv d pa ke ik fa te aw) H := by rw [show (rl3 te d L (z, fo)) = (tkM te (rlB te d L (z, fo)) (rl2 te d L (z, fo))) from rfl]; exact hP
        have hD : va_D A (mow G ad ((rl3 te d L (z, fo)).1) ((rl3 te d L (z, fo)).2) sv d pa ke ik fa te aw) := by rw [show (rl3 te d L (z, fo)) = (tkM te (rlB te d L (z, fo)) (rl2 te d L (z, fo))) from rfl]; exact hD
        refine lv_aload_n hx hb dX8_readsLink_98 rfl (lv_at hl 2 rfl) ?_
        refine lv_iconst (v := (nI 1)) hx hb dX8_readsLink_99 (by decide) ?_
        refine lv_bipush (v := (nI 9)) hx hb dX8_readsLink_100 (by decide) ?_
        refine ca_Vi (ci := 7) (q := (RX8, TX8, 17)) (rest := []) (wr := ([] : va_W)) F hX (mX8_figure l G ad ((rl3 te d L (z, fo)).1) ((rl3 te d L (z, fo)).2) sv d pa ke ik fa te aw (nI 1) (nI 9) hY3 hf3) (cA_V hts kw_774 kw_8 kw_771 kw_773 kp_25 hdX8_figure ⟨Nat.le_of_ble_eq_true rfl, Nat.le_of_ble_eq_true rfl⟩) rfl rfl rfl hl.1 rfl (Nat.le_of_ble_eq_true rfl) dX8_readsLink_102 ⟨Nat.le_of_ble_eq_true rfl, Nat.le_of_ble_eq_true rfl⟩ hP hD hS hA (pm_nil _) (fun r102 u102 H locs hp102 hP hD hS => ?_)
        have hP : va_P G.1 vwCl (mow G ad ((fgM te (nI 1) (nI 9) (rl3 te d L (z, fo))).1) ((fgM te (nI 1) (nI 9) (rl3 te d L (z, fo))).2) sv d pa ke ik fa te aw) H := wp_pm (pm_nil _).symm hP
        have hD : va_D A (mow G ad ((fgM te (nI 1) (nI 9) (rl3 te d L (z, fo))).1) ((fgM te (nI 1) (nI 9) (rl3 te d L (z, fo))).2) sv d pa ke ik fa te aw) := wd_pm (pm_nil _).symm hD
        subst hp102
        have hP : va_P G.1 vwCl (mow G ad ((rl4 te d L (z, fo)).1) ((rl4 te d L (z, fo)).2) sv d pa ke ik fa te aw) H := by rw [show (rl4 te d L (z, fo)) = (fgM te (nI 1) (nI 9) (rl3 te d L (z, fo))) from rfl]; exact hP
        have hD : va_D A (mow G ad ((rl4 te d L (z, fo)).1) ((rl4 te d L (z, fo)).2) sv d pa ke ik fa te aw) := by rw [show (rl4 te d L (z, fo)) = (fgM te (nI 1) (nI 9) (rl3 te d L (z, fo))) from rfl]; exact hD
        refine lv_istore_n (lv' := [(3, .int (oN (fvM te ((rl3 te d L (z, fo)).1)))), (2, .int (oN (fvM te (rl2 te d L (z, fo)).1))), (1, .int (oN (fvM te ((rl1 te L (z, fo)).1)))), (0, .ref (ad 0))]) hx hb dX8_readsLink_105 rfl hl (by decide) rfl (fun ls hl => ?_)
        refine lv_aload_n hx hb dX8_readsLink_106 rfl (lv_at hl 3 rfl) ?_
        refine va_get (D := G.1) (ci := 7) (v := .int (oN ((rl4 te d L (z, fo)).2))) (C := RX8) (T := TX8) (N := 17) hx hb hts inA8 hown hX.1 hP 0 rfl rfl 14 (by decide) (hts _ kw_694) (fun _ h9 => h9) rfl dX8_readsLink_107 ?_
        rcases opt_c ((rl4 te d L (z, fo)).2) with hq | ⟨q, hq⟩
        · refine ti (y := -9) (by rw [hq]; rfl) ?_
          have h12 : L < 12 := (rl_on (q := (z, fo)) hY hq).2.1
          refine lv_bipush (v := (-9)) hx hb dX8_readsLink_110 (by decide) ?_
          refine lv_icmp_ne (x := (-9)) (y := (-9)) (tgt := 166) hx hb dX8_readsLink_112 (by decide) (fun h9 => absurd rfl h9) (fun _ => ?_)
          refine lv_aload_n hx hb dX8_readsLink_115 rfl (lv_at hl 3 rfl) ?_
          refine va_get (D := G.1) (ci := 7) (v := .ref (ad 2)) (C := RX8) (T := TX8) (N := 17) hx hb hts inA8 hown hX.1 hP 0 rfl rfl 2 (by decide) (hts _ kw_682) (fun _ h9 => h9) rfl dX8_readsLink_116 ?_
          refine lv_iconst (v := (nI 1)) hx hb dX8_readsLink_119 (by decide) ?_
          refine nv_aldI (f := d) (k := 1) hx hb hX hP 2 rfl (by omega) (by decide) dX8_readsLink_120 ?_
          refine ti (y := (nI L)) hd1 ?_
          refine lv_istore (lv' := [(4, .int (nI L)), (3, .int (oN (fvM te ((rl3 te d L (z, fo)).1)))), (2, .int (oN (fvM te (rl2 te d L (z, fo)).1))), (1, .int (oN (fvM te ((rl1 te L (z, fo)).1)))), (0, .ref (ad 0))]) hx hb dX8_readsLink_121 hl (by decide) rfl (fun ls hl => ?_)
          refine lv_aload_n hx hb dX8_readsLink_123 rfl (lv_at hl 4 rfl) ?_
          refine va_get (D := G.1) (ci := 7) (v := .ref (ad 2)) (C := RX8) (T := TX8) (N := 17) hx hb hts inA8 hown hX.1 hP 0 rfl rfl 2 (by decide) (hts _ kw_682) (fun _ h9 => h9) rfl dX8_readsLink_124 ?_
          refine lv_bipush (v := (nI 16)) hx hb dX8_readsLink_127 (by decide) ?_
          refine lv_iload hx hb dX8_readsLink_129 (lv_at hl 0 rfl) ?_
          refine lv_iadd hx hb dX8_readsLink_131 (ti (y := (nI (16 + L))) (nI_add _ _) ?_)
          refine lv_iload_n hx hb dX8_readsLink_132 rfl (lv_at hl 3 rfl) ?_
          refine nv_astI (f := d) (k := 16 + L) (v := (oN (fvM te ((rl1 te L (z, fo)).1)))) hx hb hX hP hD hS 2 rfl (by omega) (by decide) dX8_readsLink_133 (fun H locs hP hD hS => ?_)
          have hP : va_P G.1 vwCl (mow G ad ((rl4 te d L (z, fo)).1) ((rl4 te d L (z, fo)).2) sv (upd d (16 + L) (oN (fvM te ((rl1 te L (z, fo)).1)))) pa ke ik fa te aw) H := hP
          have hD : va_D A (mow G ad ((rl4 te d L (z, fo)).1) ((rl4 te d L (z, fo)).2) sv (upd d (16 + L) (oN (fvM te ((rl1 te L (z, fo)).1)))) pa ke ik fa te aw) := hD
          refine lv_aload_n hx hb dX8_readsLink_134 rfl (lv_at hl 4 rfl) ?_
          refine va_get (D := G.1) (ci := 7) (v := .ref (ad 2)) (C := RX8) (T := TX8) (N := 17) hx hb hts inA8 hown hX.1 hP 0 rfl rfl 2 (by decide) (hts _ kw_682) (fun _ h9 => h9) rfl dX8_readsLink_135 ?_
          refine lv_bipush (v := (nI 28)) hx hb dX8_readsLink_138 (by decide) ?_
          refine lv_iload hx hb dX8_readsLink_140 (lv_at hl 0 rfl) ?_
          refine lv_iadd hx hb dX8_readsLink_142 (ti (y := (nI (28 + L))) (nI_add _ _) ?_)
          refine lv_iload_n hx hb dX8_readsLink_143 rfl (lv_at hl 2 rfl) ?_
          refine nv_astI (f := upd d (16 + L) (oN (fvM te ((rl1 te L (z, fo)).1)))) (k := 28 + L) (v := (oN (fvM te (rl2 te d L (z, fo)).1))) hx hb hX hP hD hS 2 rfl (by omega) (by decide) dX8_readsLink_144 (fun H locs hP hD hS => ?_)
          have hP : va_P G.1 vwCl (mow G ad ((rl4 te d L (z, fo)).1) ((rl4 te d L (z, fo)).2) sv (upd (upd d (16 + L) (oN (fvM te ((rl1 te L (z, fo)).1)))) (28 + L) (oN (fvM te (rl2 te d L (z, fo)).1))) pa ke ik fa te aw) H := hP
          have hD : va_D A (mow G ad ((rl4 te d L (z, fo)).1) ((rl4 te d L (z, fo)).2) sv (upd (upd d (16 + L) (oN (fvM te ((rl1 te L (z, fo)).1)))) (28 + L) (oN (fvM te (rl2 te d L (z, fo)).1))) pa ke ik fa te aw) := hD
          refine lv_aload_n hx hb dX8_readsLink_145 rfl (lv_at hl 4 rfl) ?_
          refine va_get (D := G.1) (ci := 7) (v := .ref (ad 2)) (C := RX8) (T := TX8) (N := 17) hx hb hts inA8 hown hX.1 hP 0 rfl rfl 2 (by decide) (hts _ kw_682) (fun _ h9 => h9) rfl dX8_readsLink_146 ?_
          refine lv_bipush (v := (nI 40)) hx hb dX8_readsLink_149 (by decide) ?_
          refine lv_iload hx hb dX8_readsLink_151 (lv_at hl 0 rfl) ?_
          refine lv_iadd hx hb dX8_readsLink_153 (ti (y := (nI (40 + L))) (nI_add _ _) ?_)
          refine lv_iload_n hx hb dX8_readsLink_154 rfl (lv_at hl 1 rfl) ?_
          refine nv_astI (f := upd (upd d (16 + L) (oN (fvM te ((rl1 te L (z, fo)).1)))) (28 + L) (oN (fvM te (rl2 te d L (z, fo)).1))) (k := 40 + L) (v := (oN (fvM te ((rl3 te d L (z, fo)).1)))) hx hb hX hP hD hS 2 rfl (by omega) (by decide) dX8_readsLink_155 (fun H locs hP hD hS => ?_)
          have hP : va_P G.1 vwCl (mow G ad ((rl4 te d L (z, fo)).1) ((rl4 te d L (z, fo)).2) sv (upd (upd (upd d (16 + L) (oN (fvM te ((rl1 te L (z, fo)).1)))) (28 + L) (oN (fvM te (rl2 te d L (z, fo)).1))) (40 + L) (oN (fvM te ((rl3 te d L (z, fo)).1)))) pa ke ik fa te aw) H := hP
          have hD : va_D A (mow G ad ((rl4 te d L (z, fo)).1) ((rl4 te d L (z, fo)).2) sv (upd (upd (upd d (16 + L) (oN (fvM te ((rl1 te L (z, fo)).1)))) (28 + L) (oN (fvM te (rl2 te d L (z, fo)).1))) (40 + L) (oN (fvM te ((rl3 te d L (z, fo)).1)))) pa ke ik fa te aw) := hD
          refine lv_aload_n hx hb dX8_readsLink_156 rfl (lv_at hl 4 rfl) ?_
          refine va_get (D := G.1) (ci := 7) (v := .ref (ad 2)) (C := RX8) (T := TX8) (N := 17) hx hb hts inA8 hown hX.1 hP 0 rfl rfl 2 (by decide) (hts _ kw_682) (fun _ h9 => h9) rfl dX8_readsLink_157 ?_
          refine lv_iconst (v := (nI 1)) hx hb dX8_readsLink_160 (by decide) ?_
          refine lv_dup2_11 hx hb dX8_readsLink_161 rfl rfl ?_
          refine nv_aldI (f := upd (upd (upd d (16 + L) (oN (fvM te ((rl1 te L (z, fo)).1)))) (28 + L) (oN (fvM te (rl2 te d L (z, fo)).1))) (40 + L) (oN (fvM te ((rl3 te d L (z, fo)).1)))) (k := 1) hx hb hX hP 2 rfl (by omega) (by decide) dX8_readsLink_162 ?_
          refine ti (y := (nI L)) (by unfold upd; rw [if_neg (by omega), if_neg (by omega), if_neg (by omega)]; exact hd1) ?_
          refine lv_iconst (v := (nI 1)) hx hb dX8_readsLink_163 (by decide) ?_
          refine lv_iadd hx hb dX8_readsLink_164 (ti (y := (nI (L + 1))) (nI_add _ _) ?_)
          refine nv_astI (f := upd (upd (upd d (16 + L) (oN (fvM te ((rl1 te L (z, fo)).1)))) (28 + L) (oN (fvM te (rl2 te d L (z, fo)).1))) (40 + L) (oN (fvM te ((rl3 te d L (z, fo)).1)))) (k := 1) (v := (nI (L + 1))) hx hb hX hP hD hS 2 rfl (by omega) (by decide) dX8_readsLink_165 (fun H locs hP hD hS => ?_)
          have hP : va_P G.1 vwCl (mow G ad ((rl4 te d L (z, fo)).1) ((rl4 te d L (z, fo)).2) sv (upd (upd (upd (upd d (16 + L) (oN (fvM te ((rl1 te L (z, fo)).1)))) (28 + L) (oN (fvM te (rl2 te d L (z, fo)).1))) (40 + L) (oN (fvM te ((rl3 te d L (z, fo)).1)))) 1 (nI (L + 1))) pa ke ik fa te aw) H := hP
          have hD : va_D A (mow G ad ((rl4 te d L (z, fo)).1) ((rl4 te d L (z, fo)).2) sv (upd (upd (upd (upd d (16 + L) (oN (fvM te ((rl1 te L (z, fo)).1)))) (28 + L) (oN (fvM te (rl2 te d L (z, fo)).1))) (40 + L) (oN (fvM te ((rl3 te d L (z, fo)).1)))) 1 (nI (L + 1))) pa ke ik fa te aw) := hD
          have e8 : rlD te d L (z, fo) = upd (upd (upd (upd d (16 + L) (oN (fvM te ((rl1 te L (z, fo)).1)))) (28 + L) (oN (fvM te (rl2 te d L (z, fo)).1))) (40 + L) (oN (fvM te ((rl3 te d L (z, fo)).1)))) 1 (nI (L + 1)) := by unfold rlD; rw [if_pos hq]
          have hP : va_P G.1 vwCl (mow G ad ((rl4 te d L (z, fo)).1) ((rl4 te d L (z, fo)).2) sv (rlD te d L (z, fo)) pa ke ik fa te aw) H := by rw [e8]; exact hP
          have hD : va_D A (mow G ad ((rl4 te d L (z, fo)).1) ((rl4 te d L (z, fo)).2) sv (rlD te d L (z, fo)) pa ke ik fa te aw) := by rw [e8]; exact hD
          exact re_v hx hb hr hlocks hS () hP hD trivial dX8_readsLink_166
        · refine ti (y := nI q) (by rw [hq]; rfl) ?_
          have hq31 := hf4 q hq
          refine lv_bipush (v := (-9)) hx hb dX8_readsLink_110 (by decide) ?_
          refine lv_icmp_ne (x := (nI q)) (y := (-9)) (tgt := 166) hx hb dX8_readsLink_112 (by decide) (fun _ => ?_) (fun h9 => absurd h9 (nI_n9 (by omega)))
          have e8 : rlD te d L (z, fo) = d := by unfold rlD; rw [if_neg (by rw [hq]; exact fun h => by cases h)]
          have hP : va_P G.1 vwCl (mow G ad ((rl4 te d L (z, fo)).1) ((rl4 te d L (z, fo)).2) sv (rlD te d L (z, fo)) pa ke ik fa te aw) H := by rw [e8]; exact hP
          have hD : va_D A (mow G ad ((rl4 te d L (z, fo)).1) ((rl4 te d L (z, fo)).2) sv (rlD te d L (z, fo)) pa ke ik fa te aw) := by rw [e8]; exact hD
          exact re_v hx hb hr hlocks hS () hP hD trivial dX8_readsLink_166
      · refine lv_iload_n hx hb dX8_readsLink_76 rfl (lv_at hl 0 rfl) ?_
        refine lv_iload_n hx hb dX8_readsLink_77 rfl (lv_at hl 1 rfl) ?_
        refine lv_icmp_eq (x := (oN (fvM te (rl2 te d L (z, fo)).1))) (y := (oN (fvM te ((rl1 te L (z, fo)).1)))) (tgt := 94) hx hb dX8_readsLink_78 (by decide) (fun c78 => ?_) (fun c78 => ?_)
        · refine lv_iconst (v := (nI 0)) hx hb dX8_readsLink_94 (by decide) ?_
          refine ti (y := (bI (rlB te d L (z, fo)))) (by unfold rlB; rw [c73, decide_eq_true c78, Bool.not_true, Bool.and_false, Bool.false_and] <;> rfl) ?_
          refine ca_Vv (ci := 7) (q := (RX8, TX8, 17)) (rest := []) (wr := ([] : va_W)) F hX (mX8_takes l G ad ((rl2 te d L (z, fo)).1) ((rl2 te d L (z, fo)).2) sv d pa ke ik fa te aw (rlB te d L (z, fo)) hY2 hf2) (cA_V hts kw_770 kw_8 kw_767 kw_769 kp_24 hdX8_takes ⟨Nat.le_of_ble_eq_true rfl, Nat.le_of_ble_eq_true rfl⟩) rfl rfl rfl hl.1 rfl (Nat.le_of_ble_eq_true rfl) dX8_readsLink_95 ⟨Nat.le_of_ble_eq_true rfl, Nat.le_of_ble_eq_true rfl⟩ hP hD hS hA (pm_nil _) (fun u95 H locs hp95 hP hD hS => ?_)
          have hP : va_P G.1 vwCl (mow G ad ((tkM te (rlB te d L (z, fo)) (rl2 te d L (z, fo))).1) ((tkM te (rlB te d L (z, fo)) (rl2 te d L (z, fo))).2) sv d pa ke ik fa te aw) H := wp_pm (pm_nil _).symm hP
          have hD : va_D A (mow G ad ((tkM te (rlB te d L (z, fo)) (rl2 te d L (z, fo))).1) ((tkM te (rlB te d L (z, fo)) (rl2 te d L (z, fo))).2) sv d pa ke ik fa te aw) := wd_pm (pm_nil _).symm hD
          have hP : va_P G.1 vwCl (mow G ad ((rl3 te d L (z, fo)).1) ((rl3 te d L (z, fo)).2) sv d pa ke ik fa te aw) H := by rw [show (rl3 te d L (z, fo)) = (tkM te (rlB te d L (z, fo)) (rl2 te d L (z, fo))) from rfl]; exact hP
          have hD : va_D A (mow G ad ((rl3 te d L (z, fo)).1) ((rl3 te d L (z, fo)).2) sv d pa ke ik fa te aw) := by rw [show (rl3 te d L (z, fo)) = (tkM te (rlB te d L (z, fo)) (rl2 te d L (z, fo))) from rfl]; exact hD
          refine lv_aload_n hx hb dX8_readsLink_98 rfl (lv_at hl 2 rfl) ?_
          refine lv_iconst (v := (nI 1)) hx hb dX8_readsLink_99 (by decide) ?_
          refine lv_bipush (v := (nI 9)) hx hb dX8_readsLink_100 (by decide) ?_
          refine ca_Vi (ci := 7) (q := (RX8, TX8, 17)) (rest := []) (wr := ([] : va_W)) F hX (mX8_figure l G ad ((rl3 te d L (z, fo)).1) ((rl3 te d L (z, fo)).2) sv d pa ke ik fa te aw (nI 1) (nI 9) hY3 hf3) (cA_V hts kw_774 kw_8 kw_771 kw_773 kp_25 hdX8_figure ⟨Nat.le_of_ble_eq_true rfl, Nat.le_of_ble_eq_true rfl⟩) rfl rfl rfl hl.1 rfl (Nat.le_of_ble_eq_true rfl) dX8_readsLink_102 ⟨Nat.le_of_ble_eq_true rfl, Nat.le_of_ble_eq_true rfl⟩ hP hD hS hA (pm_nil _) (fun r102 u102 H locs hp102 hP hD hS => ?_)
          have hP : va_P G.1 vwCl (mow G ad ((fgM te (nI 1) (nI 9) (rl3 te d L (z, fo))).1) ((fgM te (nI 1) (nI 9) (rl3 te d L (z, fo))).2) sv d pa ke ik fa te aw) H := wp_pm (pm_nil _).symm hP
          have hD : va_D A (mow G ad ((fgM te (nI 1) (nI 9) (rl3 te d L (z, fo))).1) ((fgM te (nI 1) (nI 9) (rl3 te d L (z, fo))).2) sv d pa ke ik fa te aw) := wd_pm (pm_nil _).symm hD
          subst hp102
          have hP : va_P G.1 vwCl (mow G ad ((rl4 te d L (z, fo)).1) ((rl4 te d L (z, fo)).2) sv d pa ke ik fa te aw) H := by rw [show (rl4 te d L (z, fo)) = (fgM te (nI 1) (nI 9) (rl3 te d L (z, fo))) from rfl]; exact hP
          have hD : va_D A (mow G ad ((rl4 te d L (z, fo)).1) ((rl4 te d L (z, fo)).2) sv d pa ke ik fa te aw) := by rw [show (rl4 te d L (z, fo)) = (fgM te (nI 1) (nI 9) (rl3 te d L (z, fo))) from rfl]; exact hD
          refine lv_istore_n (lv' := [(3, .int (oN (fvM te ((rl3 te d L (z, fo)).1)))), (2, .int (oN (fvM te (rl2 te d L (z, fo)).1))), (1, .int (oN (fvM te ((rl1 te L (z, fo)).1)))), (0, .ref (ad 0))]) hx hb dX8_readsLink_105 rfl hl (by decide) rfl (fun ls hl => ?_)
          refine lv_aload_n hx hb dX8_readsLink_106 rfl (lv_at hl 3 rfl) ?_
          refine va_get (D := G.1) (ci := 7) (v := .int (oN ((rl4 te d L (z, fo)).2))) (C := RX8) (T := TX8) (N := 17) hx hb hts inA8 hown hX.1 hP 0 rfl rfl 14 (by decide) (hts _ kw_694) (fun _ h9 => h9) rfl dX8_readsLink_107 ?_
          rcases opt_c ((rl4 te d L (z, fo)).2) with hq | ⟨q, hq⟩
          · refine ti (y := -9) (by rw [hq]; rfl) ?_
            have h12 : L < 12 := (rl_on (q := (z, fo)) hY hq).2.1
            refine lv_bipush (v := (-9)) hx hb dX8_readsLink_110 (by decide) ?_
            refine lv_icmp_ne (x := (-9)) (y := (-9)) (tgt := 166) hx hb dX8_readsLink_112 (by decide) (fun h9 => absurd rfl h9) (fun _ => ?_)
            refine lv_aload_n hx hb dX8_readsLink_115 rfl (lv_at hl 3 rfl) ?_
            refine va_get (D := G.1) (ci := 7) (v := .ref (ad 2)) (C := RX8) (T := TX8) (N := 17) hx hb hts inA8 hown hX.1 hP 0 rfl rfl 2 (by decide) (hts _ kw_682) (fun _ h9 => h9) rfl dX8_readsLink_116 ?_
            refine lv_iconst (v := (nI 1)) hx hb dX8_readsLink_119 (by decide) ?_
            refine nv_aldI (f := d) (k := 1) hx hb hX hP 2 rfl (by omega) (by decide) dX8_readsLink_120 ?_
            refine ti (y := (nI L)) hd1 ?_
            refine lv_istore (lv' := [(4, .int (nI L)), (3, .int (oN (fvM te ((rl3 te d L (z, fo)).1)))), (2, .int (oN (fvM te (rl2 te d L (z, fo)).1))), (1, .int (oN (fvM te ((rl1 te L (z, fo)).1)))), (0, .ref (ad 0))]) hx hb dX8_readsLink_121 hl (by decide) rfl (fun ls hl => ?_)
            refine lv_aload_n hx hb dX8_readsLink_123 rfl (lv_at hl 4 rfl) ?_
            refine va_get (D := G.1) (ci := 7) (v := .ref (ad 2)) (C := RX8) (T := TX8) (N := 17) hx hb hts inA8 hown hX.1 hP 0 rfl rfl 2 (by decide) (hts _ kw_682) (fun _ h9 => h9) rfl dX8_readsLink_124 ?_
            refine lv_bipush (v := (nI 16)) hx hb dX8_readsLink_127 (by decide) ?_
            refine lv_iload hx hb dX8_readsLink_129 (lv_at hl 0 rfl) ?_
            refine lv_iadd hx hb dX8_readsLink_131 (ti (y := (nI (16 + L))) (nI_add _ _) ?_)
            refine lv_iload_n hx hb dX8_readsLink_132 rfl (lv_at hl 3 rfl) ?_
            refine nv_astI (f := d) (k := 16 + L) (v := (oN (fvM te ((rl1 te L (z, fo)).1)))) hx hb hX hP hD hS 2 rfl (by omega) (by decide) dX8_readsLink_133 (fun H locs hP hD hS => ?_)
            have hP : va_P G.1 vwCl (mow G ad ((rl4 te d L (z, fo)).1) ((rl4 te d L (z, fo)).2) sv (upd d (16 + L) (oN (fvM te ((rl1 te L (z, fo)).1)))) pa ke ik fa te aw) H := hP
            have hD : va_D A (mow G ad ((rl4 te d L (z, fo)).1) ((rl4 te d L (z, fo)).2) sv (upd d (16 + L) (oN (fvM te ((rl1 te L (z, fo)).1)))) pa ke ik fa te aw) := hD
            refine lv_aload_n hx hb dX8_readsLink_134 rfl (lv_at hl 4 rfl) ?_
            refine va_get (D := G.1) (ci := 7) (v := .ref (ad 2)) (C := RX8) (T := TX8) (N := 17) hx hb hts inA8 hown hX.1 hP 0 rfl rfl 2 (by decide) (hts _ kw_682) (fun _ h9 => h9) rfl dX8_readsLink_135 ?_
            refine lv_bipush (v := (nI 28)) hx hb dX8_readsLink_138 (by decide) ?_
            refine lv_iload hx hb dX8_readsLink_140 (lv_at hl 0 rfl) ?_
            refine lv_iadd hx hb dX8_readsLink_142 (ti (y := (nI (28 + L))) (nI_add _ _) ?_)
            refine lv_iload_n hx hb dX8_readsLink_143 rfl (lv_at hl 2 rfl) ?_
            refine nv_astI (f := upd d (16 + L) (oN (fvM te ((rl1 te L (z, fo)).1)))) (k := 28 + L) (v := (oN (fvM te (rl2 te d L (z, fo)).1))) hx hb hX hP hD hS 2 rfl (by omega) (by decide) dX8_readsLink_144 (fun H locs hP hD hS => ?_)
            have hP : va_P G.1 vwCl (mow G ad ((rl4 te d L (z, fo)).1) ((rl4 te d L (z, fo)).2) sv (upd (upd d (16 + L) (oN (fvM te ((rl1 te L (z, fo)).1)))) (28 + L) (oN (fvM te (rl2 te d L (z, fo)).1))) pa ke ik fa te aw) H := hP
            have hD : va_D A (mow G ad ((rl4 te d L (z, fo)).1) ((rl4 te d L (z, fo)).2) sv (upd (upd d (16 + L) (oN (fvM te ((rl1 te L (z, fo)).1)))) (28 + L) (oN (fvM te (rl2 te d L (z, fo)).1))) pa ke ik fa te aw) := hD
            refine lv_aload_n hx hb dX8_readsLink_145 rfl (lv_at hl 4 rfl) ?_
            refine va_get (D := G.1) (ci := 7) (v := .ref (ad 2)) (C := RX8) (T := TX8) (N := 17) hx hb hts inA8 hown hX.1 hP 0 rfl rfl 2 (by decide) (hts _ kw_682) (fun _ h9 => h9) rfl dX8_readsLink_146 ?_
            refine lv_bipush (v := (nI 40)) hx hb dX8_readsLink_149 (by decide) ?_
            refine lv_iload hx hb dX8_readsLink_151 (lv_at hl 0 rfl) ?_
            refine lv_iadd hx hb dX8_readsLink_153 (ti (y := (nI (40 + L))) (nI_add _ _) ?_)
            refine lv_iload_n hx hb dX8_readsLink_154 rfl (lv_at hl 1 rfl) ?_
            refine nv_astI (f := upd (upd d (16 + L) (oN (fvM te ((rl1 te L (z, fo)).1)))) (28 + L) (oN (fvM te (rl2 te d L (z, fo)).1))) (k := 40 + L) (v := (oN (fvM te ((rl3 te d L (z, fo)).1)))) hx hb hX hP hD hS 2 rfl (by omega) (by decide) dX8_readsLink_155 (fun H locs hP hD hS => ?_)
            have hP : va_P G.1 vwCl (mow G ad ((rl4 te d L (z, fo)).1) ((rl4 te d L (z, fo)).2) sv (upd (upd (upd d (16 + L) (oN (fvM te ((rl1 te L (z, fo)).1)))) (28 + L) (oN (fvM te (rl2 te d L (z, fo)).1))) (40 + L) (oN (fvM te ((rl3 te d L (z, fo)).1)))) pa ke ik fa te aw) H := hP
            have hD : va_D A (mow G ad ((rl4 te d L (z, fo)).1) ((rl4 te d L (z, fo)).2) sv (upd (upd (upd d (16 + L) (oN (fvM te ((rl1 te L (z, fo)).1)))) (28 + L) (oN (fvM te (rl2 te d L (z, fo)).1))) (40 + L) (oN (fvM te ((rl3 te d L (z, fo)).1)))) pa ke ik fa te aw) := hD
            refine lv_aload_n hx hb dX8_readsLink_156 rfl (lv_at hl 4 rfl) ?_
            refine va_get (D := G.1) (ci := 7) (v := .ref (ad 2)) (C := RX8) (T := TX8) (N := 17) hx hb hts inA8 hown hX.1 hP 0 rfl rfl 2 (by decide) (hts _ kw_682) (fun _ h9 => h9) rfl dX8_readsLink_157 ?_
            refine lv_iconst (v := (nI 1)) hx hb dX8_readsLink_160 (by decide) ?_
            refine lv_dup2_11 hx hb dX8_readsLink_161 rfl rfl ?_
            refine nv_aldI (f := upd (upd (upd d (16 + L) (oN (fvM te ((rl1 te L (z, fo)).1)))) (28 + L) (oN (fvM te (rl2 te d L (z, fo)).1))) (40 + L) (oN (fvM te ((rl3 te d L (z, fo)).1)))) (k := 1) hx hb hX hP 2 rfl (by omega) (by decide) dX8_readsLink_162 ?_
            refine ti (y := (nI L)) (by unfold upd; rw [if_neg (by omega), if_neg (by omega), if_neg (by omega)]; exact hd1) ?_
            refine lv_iconst (v := (nI 1)) hx hb dX8_readsLink_163 (by decide) ?_
            refine lv_iadd hx hb dX8_readsLink_164 (ti (y := (nI (L + 1))) (nI_add _ _) ?_)
            refine nv_astI (f := upd (upd (upd d (16 + L) (oN (fvM te ((rl1 te L (z, fo)).1)))) (28 + L) (oN (fvM te (rl2 te d L (z, fo)).1))) (40 + L) (oN (fvM te ((rl3 te d L (z, fo)).1)))) (k := 1) (v := (nI (L + 1))) hx hb hX hP hD hS 2 rfl (by omega) (by decide) dX8_readsLink_165 (fun H locs hP hD hS => ?_)
            have hP : va_P G.1 vwCl (mow G ad ((rl4 te d L (z, fo)).1) ((rl4 te d L (z, fo)).2) sv (upd (upd (upd (upd d (16 + L) (oN (fvM te ((rl1 te L (z, fo)).1)))) (28 + L) (oN (fvM te (rl2 te d L (z, fo)).1))) (40 + L) (oN (fvM te ((rl3 te d L (z, fo)).1)))) 1 (nI (L + 1))) pa ke ik fa te aw) H := hP
            have hD : va_D A (mow G ad ((rl4 te d L (z, fo)).1) ((rl4 te d L (z, fo)).2) sv (upd (upd (upd (upd d (16 + L) (oN (fvM te ((rl1 te L (z, fo)).1)))) (28 + L) (oN (fvM te (rl2 te d L (z, fo)).1))) (40 + L) (oN (fvM te ((rl3 te d L (z, fo)).1)))) 1 (nI (L + 1))) pa ke ik fa te aw) := hD
            have e8 : rlD te d L (z, fo) = upd (upd (upd (upd d (16 + L) (oN (fvM te ((rl1 te L (z, fo)).1)))) (28 + L) (oN (fvM te (rl2 te d L (z, fo)).1))) (40 + L) (oN (fvM te ((rl3 te d L (z, fo)).1)))) 1 (nI (L + 1)) := by unfold rlD; rw [if_pos hq]
            have hP : va_P G.1 vwCl (mow G ad ((rl4 te d L (z, fo)).1) ((rl4 te d L (z, fo)).2) sv (rlD te d L (z, fo)) pa ke ik fa te aw) H := by rw [e8]; exact hP
            have hD : va_D A (mow G ad ((rl4 te d L (z, fo)).1) ((rl4 te d L (z, fo)).2) sv (rlD te d L (z, fo)) pa ke ik fa te aw) := by rw [e8]; exact hD
            exact re_v hx hb hr hlocks hS () hP hD trivial dX8_readsLink_166
          · refine ti (y := nI q) (by rw [hq]; rfl) ?_
            have hq31 := hf4 q hq
            refine lv_bipush (v := (-9)) hx hb dX8_readsLink_110 (by decide) ?_
            refine lv_icmp_ne (x := (nI q)) (y := (-9)) (tgt := 166) hx hb dX8_readsLink_112 (by decide) (fun _ => ?_) (fun h9 => absurd h9 (nI_n9 (by omega)))
            have e8 : rlD te d L (z, fo) = d := by unfold rlD; rw [if_neg (by rw [hq]; exact fun h => by cases h)]
            have hP : va_P G.1 vwCl (mow G ad ((rl4 te d L (z, fo)).1) ((rl4 te d L (z, fo)).2) sv (rlD te d L (z, fo)) pa ke ik fa te aw) H := by rw [e8]; exact hP
            have hD : va_D A (mow G ad ((rl4 te d L (z, fo)).1) ((rl4 te d L (z, fo)).2) sv (rlD te d L (z, fo)) pa ke ik fa te aw) := by rw [e8]; exact hD
            exact re_v hx hb hr hlocks hS () hP hD trivial dX8_readsLink_166
        · refine lv_aload_n hx hb dX8_readsLink_81 rfl (lv_at hl 2 rfl) ?_
          refine lv_iload_n hx hb dX8_readsLink_82 rfl (lv_at hl 1 rfl) ?_
          refine lv_iload_n hx hb dX8_readsLink_83 rfl (lv_at hl 0 rfl) ?_
          refine ca_Vi (ci := 7) (q := (RX8, TX8, 17)) (rest := [.ref (ad 0)]) (wr := ([] : va_W)) F hX (mX8_areLinked l G ad ((rl2 te d L (z, fo)).1) ((rl2 te d L (z, fo)).2) sv d pa ke ik fa te aw (oN (fvM te ((rl1 te L (z, fo)).1))) (oN (fvM te (rl2 te d L (z, fo)).1)) L hL hd1) (cA_V hts kw_782 kw_8 kw_779 kw_781 kp_27 hdX8_areLinked ⟨Nat.le_of_ble_eq_true rfl, Nat.le_of_ble_eq_true rfl⟩) rfl rfl rfl hl.1 rfl (Nat.le_of_ble_eq_true rfl) dX8_readsLink_84 ⟨Nat.le_of_ble_eq_true rfl, Nat.le_of_ble_eq_true rfl⟩ hP hD hS hA (pm_nil _) (fun r84 u84 H locs hp84 hP hD hS => ?_)
          have hP : va_P G.1 vwCl (mow G ad ((rl2 te d L (z, fo)).1) ((rl2 te d L (z, fo)).2) sv d pa ke ik fa te aw) H := wp_pm (pm_nil _).symm hP
          have hD : va_D A (mow G ad ((rl2 te d L (z, fo)).1) ((rl2 te d L (z, fo)).2) sv d pa ke ik fa te aw) := wd_pm (pm_nil _).symm hD
          subst hp84
          refine bv_ne (b := alB d (oN (fvM te ((rl1 te L (z, fo)).1))) (oN (fvM te (rl2 te d L (z, fo)).1)) L) (tgt := 94) hx hb dX8_readsLink_87 (by decide) (fun c87 => ?_) (fun c87 => ?_)
          · refine lv_iconst (v := (nI 0)) hx hb dX8_readsLink_94 (by decide) ?_
            refine ti (y := (bI (rlB te d L (z, fo)))) (by unfold rlB; rw [c73, decide_eq_false c78, c87] <;> rfl) ?_
            refine ca_Vv (ci := 7) (q := (RX8, TX8, 17)) (rest := []) (wr := ([] : va_W)) F hX (mX8_takes l G ad ((rl2 te d L (z, fo)).1) ((rl2 te d L (z, fo)).2) sv d pa ke ik fa te aw (rlB te d L (z, fo)) hY2 hf2) (cA_V hts kw_770 kw_8 kw_767 kw_769 kp_24 hdX8_takes ⟨Nat.le_of_ble_eq_true rfl, Nat.le_of_ble_eq_true rfl⟩) rfl rfl rfl hl.1 rfl (Nat.le_of_ble_eq_true rfl) dX8_readsLink_95 ⟨Nat.le_of_ble_eq_true rfl, Nat.le_of_ble_eq_true rfl⟩ hP hD hS hA (pm_nil _) (fun u95 H locs hp95 hP hD hS => ?_)
            have hP : va_P G.1 vwCl (mow G ad ((tkM te (rlB te d L (z, fo)) (rl2 te d L (z, fo))).1) ((tkM te (rlB te d L (z, fo)) (rl2 te d L (z, fo))).2) sv d pa ke ik fa te aw) H := wp_pm (pm_nil _).symm hP
            have hD : va_D A (mow G ad ((tkM te (rlB te d L (z, fo)) (rl2 te d L (z, fo))).1) ((tkM te (rlB te d L (z, fo)) (rl2 te d L (z, fo))).2) sv d pa ke ik fa te aw) := wd_pm (pm_nil _).symm hD
            have hP : va_P G.1 vwCl (mow G ad ((rl3 te d L (z, fo)).1) ((rl3 te d L (z, fo)).2) sv d pa ke ik fa te aw) H := by rw [show (rl3 te d L (z, fo)) = (tkM te (rlB te d L (z, fo)) (rl2 te d L (z, fo))) from rfl]; exact hP
            have hD : va_D A (mow G ad ((rl3 te d L (z, fo)).1) ((rl3 te d L (z, fo)).2) sv d pa ke ik fa te aw) := by rw [show (rl3 te d L (z, fo)) = (tkM te (rlB te d L (z, fo)) (rl2 te d L (z, fo))) from rfl]; exact hD
            refine lv_aload_n hx hb dX8_readsLink_98 rfl (lv_at hl 2 rfl) ?_
            refine lv_iconst (v := (nI 1)) hx hb dX8_readsLink_99 (by decide) ?_
            refine lv_bipush (v := (nI 9)) hx hb dX8_readsLink_100 (by decide) ?_
            refine ca_Vi (ci := 7) (q := (RX8, TX8, 17)) (rest := []) (wr := ([] : va_W)) F hX (mX8_figure l G ad ((rl3 te d L (z, fo)).1) ((rl3 te d L (z, fo)).2) sv d pa ke ik fa te aw (nI 1) (nI 9) hY3 hf3) (cA_V hts kw_774 kw_8 kw_771 kw_773 kp_25 hdX8_figure ⟨Nat.le_of_ble_eq_true rfl, Nat.le_of_ble_eq_true rfl⟩) rfl rfl rfl hl.1 rfl (Nat.le_of_ble_eq_true rfl) dX8_readsLink_102 ⟨Nat.le_of_ble_eq_true rfl, Nat.le_of_ble_eq_true rfl⟩ hP hD hS hA (pm_nil _) (fun r102 u102 H locs hp102 hP hD hS => ?_)
            have hP : va_P G.1 vwCl (mow G ad ((fgM te (nI 1) (nI 9) (rl3 te d L (z, fo))).1) ((fgM te (nI 1) (nI 9) (rl3 te d L (z, fo))).2) sv d pa ke ik fa te aw) H := wp_pm (pm_nil _).symm hP
            have hD : va_D A (mow G ad ((fgM te (nI 1) (nI 9) (rl3 te d L (z, fo))).1) ((fgM te (nI 1) (nI 9) (rl3 te d L (z, fo))).2) sv d pa ke ik fa te aw) := wd_pm (pm_nil _).symm hD
            subst hp102
            have hP : va_P G.1 vwCl (mow G ad ((rl4 te d L (z, fo)).1) ((rl4 te d L (z, fo)).2) sv d pa ke ik fa te aw) H := by rw [show (rl4 te d L (z, fo)) = (fgM te (nI 1) (nI 9) (rl3 te d L (z, fo))) from rfl]; exact hP
            have hD : va_D A (mow G ad ((rl4 te d L (z, fo)).1) ((rl4 te d L (z, fo)).2) sv d pa ke ik fa te aw) := by rw [show (rl4 te d L (z, fo)) = (fgM te (nI 1) (nI 9) (rl3 te d L (z, fo))) from rfl]; exact hD
            refine lv_istore_n (lv' := [(3, .int (oN (fvM te ((rl3 te d L (z, fo)).1)))), (2, .int (oN (fvM te (rl2 te d L (z, fo)).1))), (1, .int (oN (fvM te ((rl1 te L (z, fo)).1)))), (0, .ref (ad 0))]) hx hb dX8_readsLink_105 rfl hl (by decide) rfl (fun ls hl => ?_)
            refine lv_aload_n hx hb dX8_readsLink_106 rfl (lv_at hl 3 rfl) ?_
            refine va_get (D := G.1) (ci := 7) (v := .int (oN ((rl4 te d L (z, fo)).2))) (C := RX8) (T := TX8) (N := 17) hx hb hts inA8 hown hX.1 hP 0 rfl rfl 14 (by decide) (hts _ kw_694) (fun _ h9 => h9) rfl dX8_readsLink_107 ?_
            rcases opt_c ((rl4 te d L (z, fo)).2) with hq | ⟨q, hq⟩
            · refine ti (y := -9) (by rw [hq]; rfl) ?_
              have h12 : L < 12 := (rl_on (q := (z, fo)) hY hq).2.1
              refine lv_bipush (v := (-9)) hx hb dX8_readsLink_110 (by decide) ?_
              refine lv_icmp_ne (x := (-9)) (y := (-9)) (tgt := 166) hx hb dX8_readsLink_112 (by decide) (fun h9 => absurd rfl h9) (fun _ => ?_)
              refine lv_aload_n hx hb dX8_readsLink_115 rfl (lv_at hl 3 rfl) ?_
              refine va_get (D := G.1) (ci := 7) (v := .ref (ad 2)) (C := RX8) (T := TX8) (N := 17) hx hb hts inA8 hown hX.1 hP 0 rfl rfl 2 (by decide) (hts _ kw_682) (fun _ h9 => h9) rfl dX8_readsLink_116 ?_
              refine lv_iconst (v := (nI 1)) hx hb dX8_readsLink_119 (by decide) ?_
              refine nv_aldI (f := d) (k := 1) hx hb hX hP 2 rfl (by omega) (by decide) dX8_readsLink_120 ?_
              refine ti (y := (nI L)) hd1 ?_
              refine lv_istore (lv' := [(4, .int (nI L)), (3, .int (oN (fvM te ((rl3 te d L (z, fo)).1)))), (2, .int (oN (fvM te (rl2 te d L (z, fo)).1))), (1, .int (oN (fvM te ((rl1 te L (z, fo)).1)))), (0, .ref (ad 0))]) hx hb dX8_readsLink_121 hl (by decide) rfl (fun ls hl => ?_)
              refine lv_aload_n hx hb dX8_readsLink_123 rfl (lv_at hl 4 rfl) ?_
              refine va_get (D := G.1) (ci := 7) (v := .ref (ad 2)) (C := RX8) (T := TX8) (N := 17) hx hb hts inA8 hown hX.1 hP 0 rfl rfl 2 (by decide) (hts _ kw_682) (fun _ h9 => h9) rfl dX8_readsLink_124 ?_
              refine lv_bipush (v := (nI 16)) hx hb dX8_readsLink_127 (by decide) ?_
              refine lv_iload hx hb dX8_readsLink_129 (lv_at hl 0 rfl) ?_
              refine lv_iadd hx hb dX8_readsLink_131 (ti (y := (nI (16 + L))) (nI_add _ _) ?_)
              refine lv_iload_n hx hb dX8_readsLink_132 rfl (lv_at hl 3 rfl) ?_
              refine nv_astI (f := d) (k := 16 + L) (v := (oN (fvM te ((rl1 te L (z, fo)).1)))) hx hb hX hP hD hS 2 rfl (by omega) (by decide) dX8_readsLink_133 (fun H locs hP hD hS => ?_)
              have hP : va_P G.1 vwCl (mow G ad ((rl4 te d L (z, fo)).1) ((rl4 te d L (z, fo)).2) sv (upd d (16 + L) (oN (fvM te ((rl1 te L (z, fo)).1)))) pa ke ik fa te aw) H := hP
              have hD : va_D A (mow G ad ((rl4 te d L (z, fo)).1) ((rl4 te d L (z, fo)).2) sv (upd d (16 + L) (oN (fvM te ((rl1 te L (z, fo)).1)))) pa ke ik fa te aw) := hD
              refine lv_aload_n hx hb dX8_readsLink_134 rfl (lv_at hl 4 rfl) ?_
              refine va_get (D := G.1) (ci := 7) (v := .ref (ad 2)) (C := RX8) (T := TX8) (N := 17) hx hb hts inA8 hown hX.1 hP 0 rfl rfl 2 (by decide) (hts _ kw_682) (fun _ h9 => h9) rfl dX8_readsLink_135 ?_
              refine lv_bipush (v := (nI 28)) hx hb dX8_readsLink_138 (by decide) ?_
              refine lv_iload hx hb dX8_readsLink_140 (lv_at hl 0 rfl) ?_
              refine lv_iadd hx hb dX8_readsLink_142 (ti (y := (nI (28 + L))) (nI_add _ _) ?_)
              refine lv_iload_n hx hb dX8_readsLink_143 rfl (lv_at hl 2 rfl) ?_
              refine nv_astI (f := upd d (16 + L) (oN (fvM te ((rl1 te L (z, fo)).1)))) (k := 28 + L) (v := (oN (fvM te (rl2 te d L (z, fo)).1))) hx hb hX hP hD hS 2 rfl (by omega) (by decide) dX8_readsLink_144 (fun H locs hP hD hS => ?_)
              have hP : va_P G.1 vwCl (mow G ad ((rl4 te d L (z, fo)).1) ((rl4 te d L (z, fo)).2) sv (upd (upd d (16 + L) (oN (fvM te ((rl1 te L (z, fo)).1)))) (28 + L) (oN (fvM te (rl2 te d L (z, fo)).1))) pa ke ik fa te aw) H := hP
              have hD : va_D A (mow G ad ((rl4 te d L (z, fo)).1) ((rl4 te d L (z, fo)).2) sv (upd (upd d (16 + L) (oN (fvM te ((rl1 te L (z, fo)).1)))) (28 + L) (oN (fvM te (rl2 te d L (z, fo)).1))) pa ke ik fa te aw) := hD
              refine lv_aload_n hx hb dX8_readsLink_145 rfl (lv_at hl 4 rfl) ?_
              refine va_get (D := G.1) (ci := 7) (v := .ref (ad 2)) (C := RX8) (T := TX8) (N := 17) hx hb hts inA8 hown hX.1 hP 0 rfl rfl 2 (by decide) (hts _ kw_682) (fun _ h9 => h9) rfl dX8_readsLink_146 ?_
              refine lv_bipush (v := (nI 40)) hx hb dX8_readsLink_149 (by decide) ?_
              refine lv_iload hx hb dX8_readsLink_151 (lv_at hl 0 rfl) ?_
              refine lv_iadd hx hb dX8_readsLink_153 (ti (y := (nI (40 + L))) (nI_add _ _) ?_)
              refine lv_iload_n hx hb dX8_readsLink_154 rfl (lv_at hl 1 rfl) ?_
              refine nv_astI (f := upd (upd d (16 + L) (oN (fvM te ((rl1 te L (z, fo)).1)))) (28 + L) (oN (fvM te (rl2 te d L (z, fo)).1))) (k := 40 + L) (v := (oN (fvM te ((rl3 te d L (z, fo)).1)))) hx hb hX hP hD hS 2 rfl (by omega) (by decide) dX8_readsLink_155 (fun H locs hP hD hS => ?_)
              have hP : va_P G.1 vwCl (mow G ad ((rl4 te d L (z, fo)).1) ((rl4 te d L (z, fo)).2) sv (upd (upd (upd d (16 + L) (oN (fvM te ((rl1 te L (z, fo)).1)))) (28 + L) (oN (fvM te (rl2 te d L (z, fo)).1))) (40 + L) (oN (fvM te ((rl3 te d L (z, fo)).1)))) pa ke ik fa te aw) H := hP
              have hD : va_D A (mow G ad ((rl4 te d L (z, fo)).1) ((rl4 te d L (z, fo)).2) sv (upd (upd (upd d (16 + L) (oN (fvM te ((rl1 te L (z, fo)).1)))) (28 + L) (oN (fvM te (rl2 te d L (z, fo)).1))) (40 + L) (oN (fvM te ((rl3 te d L (z, fo)).1)))) pa ke ik fa te aw) := hD
              refine lv_aload_n hx hb dX8_readsLink_156 rfl (lv_at hl 4 rfl) ?_
              refine va_get (D := G.1) (ci := 7) (v := .ref (ad 2)) (C := RX8) (T := TX8) (N := 17) hx hb hts inA8 hown hX.1 hP 0 rfl rfl 2 (by decide) (hts _ kw_682) (fun _ h9 => h9) rfl dX8_readsLink_157 ?_
              refine lv_iconst (v := (nI 1)) hx hb dX8_readsLink_160 (by decide) ?_
              refine lv_dup2_11 hx hb dX8_readsLink_161 rfl rfl ?_
              refine nv_aldI (f := upd (upd (upd d (16 + L) (oN (fvM te ((rl1 te L (z, fo)).1)))) (28 + L) (oN (fvM te (rl2 te d L (z, fo)).1))) (40 + L) (oN (fvM te ((rl3 te d L (z, fo)).1)))) (k := 1) hx hb hX hP 2 rfl (by omega) (by decide) dX8_readsLink_162 ?_
              refine ti (y := (nI L)) (by unfold upd; rw [if_neg (by omega), if_neg (by omega), if_neg (by omega)]; exact hd1) ?_
              refine lv_iconst (v := (nI 1)) hx hb dX8_readsLink_163 (by decide) ?_
              refine lv_iadd hx hb dX8_readsLink_164 (ti (y := (nI (L + 1))) (nI_add _ _) ?_)
              refine nv_astI (f := upd (upd (upd d (16 + L) (oN (fvM te ((rl1 te L (z, fo)).1)))) (28 + L) (oN (fvM te (rl2 te d L (z, fo)).1))) (40 + L) (oN (fvM te ((rl3 te d L (z, fo)).1)))) (k := 1) (v := (nI (L + 1))) hx hb hX hP hD hS 2 rfl (by omega) (by decide) dX8_readsLink_165 (fun H locs hP hD hS => ?_)
              have hP : va_P G.1 vwCl (mow G ad ((rl4 te d L (z, fo)).1) ((rl4 te d L (z, fo)).2) sv (upd (upd (upd (upd d (16 + L) (oN (fvM te ((rl1 te L (z, fo)).1)))) (28 + L) (oN (fvM te (rl2 te d L (z, fo)).1))) (40 + L) (oN (fvM te ((rl3 te d L (z, fo)).1)))) 1 (nI (L + 1))) pa ke ik fa te aw) H := hP
              have hD : va_D A (mow G ad ((rl4 te d L (z, fo)).1) ((rl4 te d L (z, fo)).2) sv (upd (upd (upd (upd d (16 + L) (oN (fvM te ((rl1 te L (z, fo)).1)))) (28 + L) (oN (fvM te (rl2 te d L (z, fo)).1))) (40 + L) (oN (fvM te ((rl3 te d L (z, fo)).1)))) 1 (nI (L + 1))) pa ke ik fa te aw) := hD
              have e8 : rlD te d L (z, fo) = upd (upd (upd (upd d (16 + L) (oN (fvM te ((rl1 te L (z, fo)).1)))) (28 + L) (oN (fvM te (rl2 te d L (z, fo)).1))) (40 + L) (oN (fvM te ((rl3 te d L (z, fo)).1)))) 1 (nI (L + 1)) := by unfold rlD; rw [if_pos hq]
              have hP : va_P G.1 vwCl (mow G ad ((rl4 te d L (z, fo)).1) ((rl4 te d L (z, fo)).2) sv (rlD te d L (z, fo)) pa ke ik fa te aw) H := by rw [e8]; exact hP
              have hD : va_D A (mow G ad ((rl4 te d L (z, fo)).1) ((rl4 te d L (z, fo)).2) sv (rlD te d L (z, fo)) pa ke ik fa te aw) := by rw [e8]; exact hD
              exact re_v hx hb hr hlocks hS () hP hD trivial dX8_readsLink_166
            · refine ti (y := nI q) (by rw [hq]; rfl) ?_
              have hq31 := hf4 q hq
              refine lv_bipush (v := (-9)) hx hb dX8_readsLink_110 (by decide) ?_
              refine lv_icmp_ne (x := (nI q)) (y := (-9)) (tgt := 166) hx hb dX8_readsLink_112 (by decide) (fun _ => ?_) (fun h9 => absurd h9 (nI_n9 (by omega)))
              have e8 : rlD te d L (z, fo) = d := by unfold rlD; rw [if_neg (by rw [hq]; exact fun h => by cases h)]
              have hP : va_P G.1 vwCl (mow G ad ((rl4 te d L (z, fo)).1) ((rl4 te d L (z, fo)).2) sv (rlD te d L (z, fo)) pa ke ik fa te aw) H := by rw [e8]; exact hP
              have hD : va_D A (mow G ad ((rl4 te d L (z, fo)).1) ((rl4 te d L (z, fo)).2) sv (rlD te d L (z, fo)) pa ke ik fa te aw) := by rw [e8]; exact hD
              exact re_v hx hb hr hlocks hS () hP hD trivial dX8_readsLink_166
          · refine lv_iconst (v := (nI 1)) hx hb dX8_readsLink_90 (by decide) ?_
            refine lv_goto (tgt := 95) hx hb dX8_readsLink_91 (by decide) ?_
            refine ti (y := (bI (rlB te d L (z, fo)))) (by unfold rlB; rw [c73, decide_eq_false c78, c87] <;> rfl) ?_
            refine ca_Vv (ci := 7) (q := (RX8, TX8, 17)) (rest := []) (wr := ([] : va_W)) F hX (mX8_takes l G ad ((rl2 te d L (z, fo)).1) ((rl2 te d L (z, fo)).2) sv d pa ke ik fa te aw (rlB te d L (z, fo)) hY2 hf2) (cA_V hts kw_770 kw_8 kw_767 kw_769 kp_24 hdX8_takes ⟨Nat.le_of_ble_eq_true rfl, Nat.le_of_ble_eq_true rfl⟩) rfl rfl rfl hl.1 rfl (Nat.le_of_ble_eq_true rfl) dX8_readsLink_95 ⟨Nat.le_of_ble_eq_true rfl, Nat.le_of_ble_eq_true rfl⟩ hP hD hS hA (pm_nil _) (fun u95 H locs hp95 hP hD hS => ?_)
            have hP : va_P G.1 vwCl (mow G ad ((tkM te (rlB te d L (z, fo)) (rl2 te d L (z, fo))).1) ((tkM te (rlB te d L (z, fo)) (rl2 te d L (z, fo))).2) sv d pa ke ik fa te aw) H := wp_pm (pm_nil _).symm hP
            have hD : va_D A (mow G ad ((tkM te (rlB te d L (z, fo)) (rl2 te d L (z, fo))).1) ((tkM te (rlB te d L (z, fo)) (rl2 te d L (z, fo))).2) sv d pa ke ik fa te aw) := wd_pm (pm_nil _).symm hD
            have hP : va_P G.1 vwCl (mow G ad ((rl3 te d L (z, fo)).1) ((rl3 te d L (z, fo)).2) sv d pa ke ik fa te aw) H := by rw [show (rl3 te d L (z, fo)) = (tkM te (rlB te d L (z, fo)) (rl2 te d L (z, fo))) from rfl]; exact hP
            have hD : va_D A (mow G ad ((rl3 te d L (z, fo)).1) ((rl3 te d L (z, fo)).2) sv d pa ke ik fa te aw) := by rw [show (rl3 te d L (z, fo)) = (tkM te (rlB te d L (z, fo)) (rl2 te d L (z, fo))) from rfl]; exact hD
            refine lv_aload_n hx hb dX8_readsLink_98 rfl (lv_at hl 2 rfl) ?_
            refine lv_iconst (v := (nI 1)) hx hb dX8_readsLink_99 (by decide) ?_
            refine lv_bipush (v := (nI 9)) hx hb dX8_readsLink_100 (by decide) ?_
            refine ca_Vi (ci := 7) (q := (RX8, TX8, 17)) (rest := []) (wr := ([] : va_W)) F hX (mX8_figure l G ad ((rl3 te d L (z, fo)).1) ((rl3 te d L (z, fo)).2) sv d pa ke ik fa te aw (nI 1) (nI 9) hY3 hf3) (cA_V hts kw_774 kw_8 kw_771 kw_773 kp_25 hdX8_figure ⟨Nat.le_of_ble_eq_true rfl, Nat.le_of_ble_eq_true rfl⟩) rfl rfl rfl hl.1 rfl (Nat.le_of_ble_eq_true rfl) dX8_readsLink_102 ⟨Nat.le_of_ble_eq_true rfl, Nat.le_of_ble_eq_true rfl⟩ hP hD hS hA (pm_nil _) (fun r102 u102 H locs hp102 hP hD hS => ?_)
            have hP : va_P G.1 vwCl (mow G ad ((fgM te (nI 1) (nI 9) (rl3 te d L (z, fo))).1) ((fgM te (nI 1) (nI 9) (rl3 te d L (z, fo))).2) sv d pa ke ik fa te aw) H := wp_pm (pm_nil _).symm hP
            have hD : va_D A (mow G ad ((fgM te (nI 1) (nI 9) (rl3 te d L (z, fo))).1) ((fgM te (nI 1) (nI 9) (rl3 te d L (z, fo))).2) sv d pa ke ik fa te aw) := wd_pm (pm_nil _).symm hD
            subst hp102
            have hP : va_P G.1 vwCl (mow G ad ((rl4 te d L (z, fo)).1) ((rl4 te d L (z, fo)).2) sv d pa ke ik fa te aw) H := by rw [show (rl4 te d L (z, fo)) = (fgM te (nI 1) (nI 9) (rl3 te d L (z, fo))) from rfl]; exact hP
            have hD : va_D A (mow G ad ((rl4 te d L (z, fo)).1) ((rl4 te d L (z, fo)).2) sv d pa ke ik fa te aw) := by rw [show (rl4 te d L (z, fo)) = (fgM te (nI 1) (nI 9) (rl3 te d L (z, fo))) from rfl]; exact hD
            refine lv_istore_n (lv' := [(3, .int (oN (fvM te ((rl3 te d L (z, fo)).1)))), (2, .int (oN (fvM te (rl2 te d L (z, fo)).1))), (1, .int (oN (fvM te ((rl1 te L (z, fo)).1)))), (0, .ref (ad 0))]) hx hb dX8_readsLink_105 rfl hl (by decide) rfl (fun ls hl => ?_)
            refine lv_aload_n hx hb dX8_readsLink_106 rfl (lv_at hl 3 rfl) ?_
            refine va_get (D := G.1) (ci := 7) (v := .int (oN ((rl4 te d L (z, fo)).2))) (C := RX8) (T := TX8) (N := 17) hx hb hts inA8 hown hX.1 hP 0 rfl rfl 14 (by decide) (hts _ kw_694) (fun _ h9 => h9) rfl dX8_readsLink_107 ?_
            rcases opt_c ((rl4 te d L (z, fo)).2) with hq | ⟨q, hq⟩
            · refine ti (y := -9) (by rw [hq]; rfl) ?_
              have h12 : L < 12 := (rl_on (q := (z, fo)) hY hq).2.1
              refine lv_bipush (v := (-9)) hx hb dX8_readsLink_110 (by decide) ?_
              refine lv_icmp_ne (x := (-9)) (y := (-9)) (tgt := 166) hx hb dX8_readsLink_112 (by decide) (fun h9 => absurd rfl h9) (fun _ => ?_)
              refine lv_aload_n hx hb dX8_readsLink_115 rfl (lv_at hl 3 rfl) ?_
              refine va_get (D := G.1) (ci := 7) (v := .ref (ad 2)) (C := RX8) (T := TX8) (N := 17) hx hb hts inA8 hown hX.1 hP 0 rfl rfl 2 (by decide) (hts _ kw_682) (fun _ h9 => h9) rfl dX8_readsLink_116 ?_
              refine lv_iconst (v := (nI 1)) hx hb dX8_readsLink_119 (by decide) ?_
              refine nv_aldI (f := d) (k := 1) hx hb hX hP 2 rfl (by omega) (by decide) dX8_readsLink_120 ?_
              refine ti (y := (nI L)) hd1 ?_
              refine lv_istore (lv' := [(4, .int (nI L)), (3, .int (oN (fvM te ((rl3 te d L (z, fo)).1)))), (2, .int (oN (fvM te (rl2 te d L (z, fo)).1))), (1, .int (oN (fvM te ((rl1 te L (z, fo)).1)))), (0, .ref (ad 0))]) hx hb dX8_readsLink_121 hl (by decide) rfl (fun ls hl => ?_)
              refine lv_aload_n hx hb dX8_readsLink_123 rfl (lv_at hl 4 rfl) ?_
              refine va_get (D := G.1) (ci := 7) (v := .ref (ad 2)) (C := RX8) (T := TX8) (N := 17) hx hb hts inA8 hown hX.1 hP 0 rfl rfl 2 (by decide) (hts _ kw_682) (fun _ h9 => h9) rfl dX8_readsLink_124 ?_
              refine lv_bipush (v := (nI 16)) hx hb dX8_readsLink_127 (by decide) ?_
              refine lv_iload hx hb dX8_readsLink_129 (lv_at hl 0 rfl) ?_
              refine lv_iadd hx hb dX8_readsLink_131 (ti (y := (nI (16 + L))) (nI_add _ _) ?_)
              refine lv_iload_n hx hb dX8_readsLink_132 rfl (lv_at hl 3 rfl) ?_
              refine nv_astI (f := d) (k := 16 + L) (v := (oN (fvM te ((rl1 te L (z, fo)).1)))) hx hb hX hP hD hS 2 rfl (by omega) (by decide) dX8_readsLink_133 (fun H locs hP hD hS => ?_)
              have hP : va_P G.1 vwCl (mow G ad ((rl4 te d L (z, fo)).1) ((rl4 te d L (z, fo)).2) sv (upd d (16 + L) (oN (fvM te ((rl1 te L (z, fo)).1)))) pa ke ik fa te aw) H := hP
              have hD : va_D A (mow G ad ((rl4 te d L (z, fo)).1) ((rl4 te d L (z, fo)).2) sv (upd d (16 + L) (oN (fvM te ((rl1 te L (z, fo)).1)))) pa ke ik fa te aw) := hD
              refine lv_aload_n hx hb dX8_readsLink_134 rfl (lv_at hl 4 rfl) ?_
              refine va_get (D := G.1) (ci := 7) (v := .ref (ad 2)) (C := RX8) (T := TX8) (N := 17) hx hb hts inA8 hown hX.1 hP 0 rfl rfl 2 (by decide) (hts _ kw_682) (fun _ h9 => h9) rfl dX8_readsLink_135 ?_
              refine lv_bipush (v := (nI 28)) hx hb dX8_readsLink_138 (by decide) ?_
              refine lv_iload hx hb dX8_readsLink_140 (lv_at hl 0 rfl) ?_
              refine lv_iadd hx hb dX8_readsLink_142 (ti (y := (nI (28 + L))) (nI_add _ _) ?_)
              refine lv_iload_n hx hb dX8_readsLink_143 rfl (lv_at hl 2 rfl) ?_
              refine nv_astI (f := upd d (16 + L) (oN (fvM te ((rl1 te L (z, fo)).1)))) (k := 28 + L) (v := (oN (fvM te (rl2 te d L (z, fo)).1))) hx hb hX hP hD hS 2 rfl (by omega) (by decide) dX8_readsLink_144 (fun H locs hP hD hS => ?_)
              have hP : va_P G.1 vwCl (mow G ad ((rl4 te d L (z, fo)).1) ((rl4 te d L (z, fo)).2) sv (upd (upd d (16 + L) (oN (fvM te ((rl1 te L (z, fo)).1)))) (28 + L) (oN (fvM te (rl2 te d L (z, fo)).1))) pa ke ik fa te aw) H := hP
              have hD : va_D A (mow G ad ((rl4 te d L (z, fo)).1) ((rl4 te d L (z, fo)).2) sv (upd (upd d (16 + L) (oN (fvM te ((rl1 te L (z, fo)).1)))) (28 + L) (oN (fvM te (rl2 te d L (z, fo)).1))) pa ke ik fa te aw) := hD
              refine lv_aload_n hx hb dX8_readsLink_145 rfl (lv_at hl 4 rfl) ?_
              refine va_get (D := G.1) (ci := 7) (v := .ref (ad 2)) (C := RX8) (T := TX8) (N := 17) hx hb hts inA8 hown hX.1 hP 0 rfl rfl 2 (by decide) (hts _ kw_682) (fun _ h9 => h9) rfl dX8_readsLink_146 ?_
              refine lv_bipush (v := (nI 40)) hx hb dX8_readsLink_149 (by decide) ?_
              refine lv_iload hx hb dX8_readsLink_151 (lv_at hl 0 rfl) ?_
              refine lv_iadd hx hb dX8_readsLink_153 (ti (y := (nI (40 + L))) (nI_add _ _) ?_)
              refine lv_iload_n hx hb dX8_readsLink_154 rfl (lv_at hl 1 rfl) ?_
              refine nv_astI (f := upd (upd d (16 + L) (oN (fvM te ((rl1 te L (z, fo)).1)))) (28 + L) (oN (fvM te (rl2 te d L (z, fo)).1))) (k := 40 + L) (v := (oN (fvM te ((rl3 te d L (z, fo)).1)))) hx hb hX hP hD hS 2 rfl (by omega) (by decide) dX8_readsLink_155 (fun H locs hP hD hS => ?_)
              have hP : va_P G.1 vwCl (mow G ad ((rl4 te d L (z, fo)).1) ((rl4 te d L (z, fo)).2) sv (upd (upd (upd d (16 + L) (oN (fvM te ((rl1 te L (z, fo)).1)))) (28 + L) (oN (fvM te (rl2 te d L (z, fo)).1))) (40 + L) (oN (fvM te ((rl3 te d L (z, fo)).1)))) pa ke ik fa te aw) H := hP
              have hD : va_D A (mow G ad ((rl4 te d L (z, fo)).1) ((rl4 te d L (z, fo)).2) sv (upd (upd (upd d (16 + L) (oN (fvM te ((rl1 te L (z, fo)).1)))) (28 + L) (oN (fvM te (rl2 te d L (z, fo)).1))) (40 + L) (oN (fvM te ((rl3 te d L (z, fo)).1)))) pa ke ik fa te aw) := hD
              refine lv_aload_n hx hb dX8_readsLink_156 rfl (lv_at hl 4 rfl) ?_
              refine va_get (D := G.1) (ci := 7) (v := .ref (ad 2)) (C := RX8) (T := TX8) (N := 17) hx hb hts inA8 hown hX.1 hP 0 rfl rfl 2 (by decide) (hts _ kw_682) (fun _ h9 => h9) rfl dX8_readsLink_157 ?_
              refine lv_iconst (v := (nI 1)) hx hb dX8_readsLink_160 (by decide) ?_
              refine lv_dup2_11 hx hb dX8_readsLink_161 rfl rfl ?_
              refine nv_aldI (f := upd (upd (upd d (16 + L) (oN (fvM te ((rl1 te L (z, fo)).1)))) (28 + L) (oN (fvM te (rl2 te d L (z, fo)).1))) (40 + L) (oN (fvM te ((rl3 te d L (z, fo)).1)))) (k := 1) hx hb hX hP 2 rfl (by omega) (by decide) dX8_readsLink_162 ?_
              refine ti (y := (nI L)) (by unfold upd; rw [if_neg (by omega), if_neg (by omega), if_neg (by omega)]; exact hd1) ?_
              refine lv_iconst (v := (nI 1)) hx hb dX8_readsLink_163 (by decide) ?_
              refine lv_iadd hx hb dX8_readsLink_164 (ti (y := (nI (L + 1))) (nI_add _ _) ?_)
              refine nv_astI (f := upd (upd (upd d (16 + L) (oN (fvM te ((rl1 te L (z, fo)).1)))) (28 + L) (oN (fvM te (rl2 te d L (z, fo)).1))) (40 + L) (oN (fvM te ((rl3 te d L (z, fo)).1)))) (k := 1) (v := (nI (L + 1))) hx hb hX hP hD hS 2 rfl (by omega) (by decide) dX8_readsLink_165 (fun H locs hP hD hS => ?_)
              have hP : va_P G.1 vwCl (mow G ad ((rl4 te d L (z, fo)).1) ((rl4 te d L (z, fo)).2) sv (upd (upd (upd (upd d (16 + L) (oN (fvM te ((rl1 te L (z, fo)).1)))) (28 + L) (oN (fvM te (rl2 te d L (z, fo)).1))) (40 + L) (oN (fvM te ((rl3 te d L (z, fo)).1)))) 1 (nI (L + 1))) pa ke ik fa te aw) H := hP
              have hD : va_D A (mow G ad ((rl4 te d L (z, fo)).1) ((rl4 te d L (z, fo)).2) sv (upd (upd (upd (upd d (16 + L) (oN (fvM te ((rl1 te L (z, fo)).1)))) (28 + L) (oN (fvM te (rl2 te d L (z, fo)).1))) (40 + L) (oN (fvM te ((rl3 te d L (z, fo)).1)))) 1 (nI (L + 1))) pa ke ik fa te aw) := hD
              have e8 : rlD te d L (z, fo) = upd (upd (upd (upd d (16 + L) (oN (fvM te ((rl1 te L (z, fo)).1)))) (28 + L) (oN (fvM te (rl2 te d L (z, fo)).1))) (40 + L) (oN (fvM te ((rl3 te d L (z, fo)).1)))) 1 (nI (L + 1)) := by unfold rlD; rw [if_pos hq]
              have hP : va_P G.1 vwCl (mow G ad ((rl4 te d L (z, fo)).1) ((rl4 te d L (z, fo)).2) sv (rlD te d L (z, fo)) pa ke ik fa te aw) H := by rw [e8]; exact hP
              have hD : va_D A (mow G ad ((rl4 te d L (z, fo)).1) ((rl4 te d L (z, fo)).2) sv (rlD te d L (z, fo)) pa ke ik fa te aw) := by rw [e8]; exact hD
              exact re_v hx hb hr hlocks hS () hP hD trivial dX8_readsLink_166
            · refine ti (y := nI q) (by rw [hq]; rfl) ?_
              have hq31 := hf4 q hq
              refine lv_bipush (v := (-9)) hx hb dX8_readsLink_110 (by decide) ?_
              refine lv_icmp_ne (x := (nI q)) (y := (-9)) (tgt := 166) hx hb dX8_readsLink_112 (by decide) (fun _ => ?_) (fun h9 => absurd h9 (nI_n9 (by omega)))
              have e8 : rlD te d L (z, fo) = d := by unfold rlD; rw [if_neg (by rw [hq]; exact fun h => by cases h)]
              have hP : va_P G.1 vwCl (mow G ad ((rl4 te d L (z, fo)).1) ((rl4 te d L (z, fo)).2) sv (rlD te d L (z, fo)) pa ke ik fa te aw) H := by rw [e8]; exact hP
              have hD : va_D A (mow G ad ((rl4 te d L (z, fo)).1) ((rl4 te d L (z, fo)).2) sv (rlD te d L (z, fo)) pa ke ik fa te aw) := by rw [e8]; exact hD
              exact re_v hx hb hr hlocks hS () hP hD trivial dX8_readsLink_166
    · refine lv_aload_n hx hb dX8_readsLink_42 rfl (lv_at hl 1 rfl) ?_
      refine lv_aload_n hx hb dX8_readsLink_43 rfl (lv_at hl 1 rfl) ?_
      refine va_get (D := G.1) (ci := 7) (v := .int (nI (((rl2 te d L (z, fo)).1) 11))) (C := RX8) (T := TX8) (N := 17) hx hb hts inA8 hown hX.1 hP 0 rfl rfl 11 (by decide) (hts _ kw_691) (fun _ h9 => h9) rfl dX8_readsLink_44 ?_
      refine ca_Vi (ci := 7) (q := (RX8, TX8, 17)) (rest := []) (wr := ([] : va_W)) F hX (mX8_at l G ad ((rl2 te d L (z, fo)).1) ((rl2 te d L (z, fo)).2) sv d pa ke ik fa te aw (((rl2 te d L (z, fo)).1) 11) ht9 (by have := hY2.2.1; omega) (by have h1 := hY2.2.1; have h2 := (hY2.2.2.2.2.2.1 c39).1; omega)) (cA_V hts kw_758 kw_8 kw_755 kw_757 kp_21 hdX8_at ⟨Nat.le_of_ble_eq_true rfl, Nat.le_of_ble_eq_true rfl⟩) rfl rfl rfl hl.1 rfl (Nat.le_of_ble_eq_true rfl) dX8_readsLink_47 ⟨Nat.le_of_ble_eq_true rfl, Nat.le_of_ble_eq_true rfl⟩ hP hD hS hA (pm_nil _) (fun r47 u47 H locs hp47 hP hD hS => ?_)
      have hP : va_P G.1 vwCl (mow G ad ((rl2 te d L (z, fo)).1) ((rl2 te d L (z, fo)).2) sv d pa ke ik fa te aw) H := wp_pm (pm_nil _).symm hP
      have hD : va_D A (mow G ad ((rl2 te d L (z, fo)).1) ((rl2 te d L (z, fo)).2) sv d pa ke ik fa te aw) := wd_pm (pm_nil _).symm hD
      subst hp47
      refine ti (y := (nI (te ((rl2 te d L (z, fo)).1 11)))) (if_pos (hY2.2.2.2.2.2.1 c39).1) ?_
      refine lv_bipush (v := (nI 48)) hx hb dX8_readsLink_50 (by decide) ?_
      refine lv_isub hx hb dX8_readsLink_52 (ti (y := (nI ((te ((rl2 te d L (z, fo)).1 11)) - 48))) (pk_sub (by have h9 : 48 ≤ te ((rl2 te d L (z, fo)).1 11) ∧ te ((rl2 te d L (z, fo)).1 11) ≤ 57 := of_decide_eq_true (hY2.2.2.2.2.2.1 c39).2; omega)) ?_)
      refine lv_goto (tgt := 58) hx hb dX8_readsLink_53 (by decide) ?_
      refine ti (y := (oN (fvM te (rl2 te d L (z, fo)).1))) (by rw [fvM, if_pos c39]; rfl) ?_
      refine lv_istore_n (lv' := [(2, .int (oN (fvM te (rl2 te d L (z, fo)).1))), (1, .int (oN (fvM te ((rl1 te L (z, fo)).1)))), (0, .ref (ad 0))]) hx hb dX8_readsLink_58 rfl hl (by decide) rfl (fun ls hl => ?_)
      refine lv_aload_n hx hb dX8_readsLink_59 rfl (lv_at hl 2 rfl) ?_
      refine lv_iload_n hx hb dX8_readsLink_60 rfl (lv_at hl 0 rfl) ?_
      refine lv_iconst (v := (nI 0)) hx hb dX8_readsLink_61 (by decide) ?_
      refine lv_aload_n hx hb dX8_readsLink_62 rfl (lv_at hl 2 rfl) ?_
      refine va_get (D := G.1) (ci := 7) (v := .ref (ad 2)) (C := RX8) (T := TX8) (N := 17) hx hb hts inA8 hown hX.1 hP 0 rfl rfl 2 (by decide) (hts _ kw_682) (fun _ h9 => h9) rfl dX8_readsLink_63 ?_
      refine lv_iconst (v := (nI 0)) hx hb dX8_readsLink_66 (by decide) ?_
      refine nv_aldI (f := d) (k := 0) hx hb hX hP 2 rfl (by omega) (by decide) dX8_readsLink_67 ?_
      refine lv_iconst (v := (nI 1)) hx hb dX8_readsLink_68 (by decide) ?_
      refine lv_isub hx hb dX8_readsLink_69 ?_
      refine ca_Si (rest := [.ref (ad 0)]) (wr := mow G ad ((rl2 te d L (z, fo)).1) ((rl2 te d L (z, fo)).2) sv d pa ke ik fa te aw) F hX (mX8_in l G (oN (fvM te (rl2 te d L (z, fo)).1)) (nI 0) ((d 0) - (nI 1))) (cA_S hts kw_738 kw_8 kw_736 kw_737 hdX8_in ⟨Nat.le_of_ble_eq_true rfl, Nat.le_of_ble_eq_true rfl⟩) rfl hl.1 rfl (Nat.le_of_ble_eq_true rfl) dX8_readsLink_70 ⟨Nat.le_of_ble_eq_true rfl, Nat.le_of_ble_eq_true rfl⟩ hP hD hS hA (List.Perm.refl _) (fun r70 u70 H locs hp70 hP hD hS => ?_)
      have hP : va_P G.1 vwCl (mow G ad ((rl2 te d L (z, fo)).1) ((rl2 te d L (z, fo)).2) sv d pa ke ik fa te aw) H := hP
      have hD : va_D A (mow G ad ((rl2 te d L (z, fo)).1) ((rl2 te d L (z, fo)).2) sv d pa ke ik fa te aw) := hD
      subst hp70
      refine bv_eq (b := decide ((nI 0) ≤ (oN (fvM te (rl2 te d L (z, fo)).1)) ∧ (oN (fvM te (rl2 te d L (z, fo)).1)) ≤ ((d 0) - (nI 1)))) (tgt := 94) hx hb dX8_readsLink_73 (by decide) (fun c73 => ?_) (fun c73 => ?_)
      · refine lv_iconst (v := (nI 0)) hx hb dX8_readsLink_94 (by decide) ?_
        refine ti (y := (bI (rlB te d L (z, fo)))) (by unfold rlB; rw [c73, Bool.false_and, Bool.false_and] <;> rfl) ?_
        refine ca_Vv (ci := 7) (q := (RX8, TX8, 17)) (rest := []) (wr := ([] : va_W)) F hX (mX8_takes l G ad ((rl2 te d L (z, fo)).1) ((rl2 te d L (z, fo)).2) sv d pa ke ik fa te aw (rlB te d L (z, fo)) hY2 hf2) (cA_V hts kw_770 kw_8 kw_767 kw_769 kp_24 hdX8_takes ⟨Nat.le_of_ble_eq_true rfl, Nat.le_of_ble_eq_true rfl⟩) rfl rfl rfl hl.1 rfl (Nat.le_of_ble_eq_true rfl) dX8_readsLink_95 ⟨Nat.le_of_ble_eq_true rfl, Nat.le_of_ble_eq_true rfl⟩ hP hD hS hA (pm_nil _) (fun u95 H locs hp95 hP hD hS => ?_)
        have hP : va_P G.1 vwCl (mow G ad ((tkM te (rlB te d L (z, fo)) (rl2 te d L (z, fo))).1) ((tkM te (rlB te d L (z, fo)) (rl2 te d L (z, fo))).2) sv d pa ke ik fa te aw) H := wp_pm (pm_nil _).symm hP
        have hD : va_D A (mow G ad ((tkM te (rlB te d L (z, fo)) (rl2 te d L (z, fo))).1) ((tkM te (rlB te d L (z, fo)) (rl2 te d L (z, fo))).2) sv d pa ke ik fa te aw) := wd_pm (pm_nil _).symm hD
        have hP : va_P G.1 vwCl (mow G ad ((rl3 te d L (z, fo)).1) ((rl3 te d L (z, fo)).2) sv d pa ke ik fa te aw) H := by rw [show (rl3 te d L (z, fo)) = (tkM te (rlB te d L (z, fo)) (rl2 te d L (z, fo))) from rfl]; exact hP
        have hD : va_D A (mow G ad ((rl3 te d L (z, fo)).1) ((rl3 te d L (z, fo)).2) sv d pa ke ik fa te aw) := by rw [show (rl3 te d L (z, fo)) = (tkM te (rlB te d L (z, fo)) (rl2 te d L (z, fo))) from rfl]; exact hD
        refine lv_aload_n hx hb dX8_readsLink_98 rfl (lv_at hl 2 rfl) ?_
        refine lv_iconst (v := (nI 1)) hx hb dX8_readsLink_99 (by decide) ?_
        refine lv_bipush (v := (nI 9)) hx hb dX8_readsLink_100 (by decide) ?_
        refine ca_Vi (ci := 7) (q := (RX8, TX8, 17)) (rest := []) (wr := ([] : va_W)) F hX (mX8_figure l G ad ((rl3 te d L (z, fo)).1) ((rl3 te d L (z, fo)).2) sv d pa ke ik fa te aw (nI 1) (nI 9) hY3 hf3) (cA_V hts kw_774 kw_8 kw_771 kw_773 kp_25 hdX8_figure ⟨Nat.le_of_ble_eq_true rfl, Nat.le_of_ble_eq_true rfl⟩) rfl rfl rfl hl.1 rfl (Nat.le_of_ble_eq_true rfl) dX8_readsLink_102 ⟨Nat.le_of_ble_eq_true rfl, Nat.le_of_ble_eq_true rfl⟩ hP hD hS hA (pm_nil _) (fun r102 u102 H locs hp102 hP hD hS => ?_)
        have hP : va_P G.1 vwCl (mow G ad ((fgM te (nI 1) (nI 9) (rl3 te d L (z, fo))).1) ((fgM te (nI 1) (nI 9) (rl3 te d L (z, fo))).2) sv d pa ke ik fa te aw) H := wp_pm (pm_nil _).symm hP
        have hD : va_D A (mow G ad ((fgM te (nI 1) (nI 9) (rl3 te d L (z, fo))).1) ((fgM te (nI 1) (nI 9) (rl3 te d L (z, fo))).2) sv d pa ke ik fa te aw) := wd_pm (pm_nil _).symm hD
        subst hp102
        have hP : va_P G.1 vwCl (mow G ad ((rl4 te d L (z, fo)).1) ((rl4 te d L (z, fo)).2) sv d pa ke ik fa te aw) H := by rw [show (rl4 te d L (z, fo)) = (fgM te (nI 1) (nI 9) (rl3 te d L (z, fo))) from rfl]; exact hP
        have hD : va_D A (mow G ad ((rl4 te d L (z, fo)).1) ((rl4 te d L (z, fo)).2) sv d pa ke ik fa te aw) := by rw [show (rl4 te d L (z, fo)) = (fgM te (nI 1) (nI 9) (rl3 te d L (z, fo))) from rfl]; exact hD
        refine lv_istore_n (lv' := [(3, .int (oN (fvM te ((rl3 te d L (z, fo)).1)))), (2, .int (oN (fvM te (rl2 te d L (z, fo)).1))), (1, .int (oN (fvM te ((rl1 te L (z, fo)).1)))), (0, .ref (ad 0))]) hx hb dX8_readsLink_105 rfl hl (by decide) rfl (fun ls hl => ?_)
        refine lv_aload_n hx hb dX8_readsLink_106 rfl (lv_at hl 3 rfl) ?_
        refine va_get (D := G.1) (ci := 7) (v := .int (oN ((rl4 te d L (z, fo)).2))) (C := RX8) (T := TX8) (N := 17) hx hb hts inA8 hown hX.1 hP 0 rfl rfl 14 (by decide) (hts _ kw_694) (fun _ h9 => h9) rfl dX8_readsLink_107 ?_
        rcases opt_c ((rl4 te d L (z, fo)).2) with hq | ⟨q, hq⟩
        · refine ti (y := -9) (by rw [hq]; rfl) ?_
          have h12 : L < 12 := (rl_on (q := (z, fo)) hY hq).2.1
          refine lv_bipush (v := (-9)) hx hb dX8_readsLink_110 (by decide) ?_
          refine lv_icmp_ne (x := (-9)) (y := (-9)) (tgt := 166) hx hb dX8_readsLink_112 (by decide) (fun h9 => absurd rfl h9) (fun _ => ?_)
          refine lv_aload_n hx hb dX8_readsLink_115 rfl (lv_at hl 3 rfl) ?_
          refine va_get (D := G.1) (ci := 7) (v := .ref (ad 2)) (C := RX8) (T := TX8) (N := 17) hx hb hts inA8 hown hX.1 hP 0 rfl rfl 2 (by decide) (hts _ kw_682) (fun _ h9 => h9) rfl dX8_readsLink_116 ?_
          refine lv_iconst (v := (nI 1)) hx hb dX8_readsLink_119 (by decide) ?_
          refine nv_aldI (f := d) (k := 1) hx hb hX hP 2 rfl (by omega) (by decide) dX8_readsLink_120 ?_
          refine ti (y := (nI L)) hd1 ?_
          refine lv_istore (lv' := [(4, .int (nI L)), (3, .int (oN (fvM te ((rl3 te d L (z, fo)).1)))), (2, .int (oN (fvM te (rl2 te d L (z, fo)).1))), (1, .int (oN (fvM te ((rl1 te L (z, fo)).1)))), (0, .ref (ad 0))]) hx hb dX8_readsLink_121 hl (by decide) rfl (fun ls hl => ?_)
          refine lv_aload_n hx hb dX8_readsLink_123 rfl (lv_at hl 4 rfl) ?_
          refine va_get (D := G.1) (ci := 7) (v := .ref (ad 2)) (C := RX8) (T := TX8) (N := 17) hx hb hts inA8 hown hX.1 hP 0 rfl rfl 2 (by decide) (hts _ kw_682) (fun _ h9 => h9) rfl dX8_readsLink_124 ?_
          refine lv_bipush (v := (nI 16)) hx hb dX8_readsLink_127 (by decide) ?_
          refine lv_iload hx hb dX8_readsLink_129 (lv_at hl 0 rfl) ?_
          refine lv_iadd hx hb dX8_readsLink_131 (ti (y := (nI (16 + L))) (nI_add _ _) ?_)
          refine lv_iload_n hx hb dX8_readsLink_132 rfl (lv_at hl 3 rfl) ?_
          refine nv_astI (f := d) (k := 16 + L) (v := (oN (fvM te ((rl1 te L (z, fo)).1)))) hx hb hX hP hD hS 2 rfl (by omega) (by decide) dX8_readsLink_133 (fun H locs hP hD hS => ?_)
          have hP : va_P G.1 vwCl (mow G ad ((rl4 te d L (z, fo)).1) ((rl4 te d L (z, fo)).2) sv (upd d (16 + L) (oN (fvM te ((rl1 te L (z, fo)).1)))) pa ke ik fa te aw) H := hP
          have hD : va_D A (mow G ad ((rl4 te d L (z, fo)).1) ((rl4 te d L (z, fo)).2) sv (upd d (16 + L) (oN (fvM te ((rl1 te L (z, fo)).1)))) pa ke ik fa te aw) := hD
          refine lv_aload_n hx hb dX8_readsLink_134 rfl (lv_at hl 4 rfl) ?_
          refine va_get (D := G.1) (ci := 7) (v := .ref (ad 2)) (C := RX8) (T := TX8) (N := 17) hx hb hts inA8 hown hX.1 hP 0 rfl rfl 2 (by decide) (hts _ kw_682) (fun _ h9 => h9) rfl dX8_readsLink_135 ?_
          refine lv_bipush (v := (nI 28)) hx hb dX8_readsLink_138 (by decide) ?_
          refine lv_iload hx hb dX8_readsLink_140 (lv_at hl 0 rfl) ?_
          refine lv_iadd hx hb dX8_readsLink_142 (ti (y := (nI (28 + L))) (nI_add _ _) ?_)
          refine lv_iload_n hx hb dX8_readsLink_143 rfl (lv_at hl 2 rfl) ?_
          refine nv_astI (f := upd d (16 + L) (oN (fvM te ((rl1 te L (z, fo)).1)))) (k := 28 + L) (v := (oN (fvM te (rl2 te d L (z, fo)).1))) hx hb hX hP hD hS 2 rfl (by omega) (by decide) dX8_readsLink_144 (fun H locs hP hD hS => ?_)
          have hP : va_P G.1 vwCl (mow G ad ((rl4 te d L (z, fo)).1) ((rl4 te d L (z, fo)).2) sv (upd (upd d (16 + L) (oN (fvM te ((rl1 te L (z, fo)).1)))) (28 + L) (oN (fvM te (rl2 te d L (z, fo)).1))) pa ke ik fa te aw) H := hP
          have hD : va_D A (mow G ad ((rl4 te d L (z, fo)).1) ((rl4 te d L (z, fo)).2) sv (upd (upd d (16 + L) (oN (fvM te ((rl1 te L (z, fo)).1)))) (28 + L) (oN (fvM te (rl2 te d L (z, fo)).1))) pa ke ik fa te aw) := hD
          refine lv_aload_n hx hb dX8_readsLink_145 rfl (lv_at hl 4 rfl) ?_
          refine va_get (D := G.1) (ci := 7) (v := .ref (ad 2)) (C := RX8) (T := TX8) (N := 17) hx hb hts inA8 hown hX.1 hP 0 rfl rfl 2 (by decide) (hts _ kw_682) (fun _ h9 => h9) rfl dX8_readsLink_146 ?_
          refine lv_bipush (v := (nI 40)) hx hb dX8_readsLink_149 (by decide) ?_
          refine lv_iload hx hb dX8_readsLink_151 (lv_at hl 0 rfl) ?_
          refine lv_iadd hx hb dX8_readsLink_153 (ti (y := (nI (40 + L))) (nI_add _ _) ?_)
          refine lv_iload_n hx hb dX8_readsLink_154 rfl (lv_at hl 1 rfl) ?_
          refine nv_astI (f := upd (upd d (16 + L) (oN (fvM te ((rl1 te L (z, fo)).1)))) (28 + L) (oN (fvM te (rl2 te d L (z, fo)).1))) (k := 40 + L) (v := (oN (fvM te ((rl3 te d L (z, fo)).1)))) hx hb hX hP hD hS 2 rfl (by omega) (by decide) dX8_readsLink_155 (fun H locs hP hD hS => ?_)
          have hP : va_P G.1 vwCl (mow G ad ((rl4 te d L (z, fo)).1) ((rl4 te d L (z, fo)).2) sv (upd (upd (upd d (16 + L) (oN (fvM te ((rl1 te L (z, fo)).1)))) (28 + L) (oN (fvM te (rl2 te d L (z, fo)).1))) (40 + L) (oN (fvM te ((rl3 te d L (z, fo)).1)))) pa ke ik fa te aw) H := hP
          have hD : va_D A (mow G ad ((rl4 te d L (z, fo)).1) ((rl4 te d L (z, fo)).2) sv (upd (upd (upd d (16 + L) (oN (fvM te ((rl1 te L (z, fo)).1)))) (28 + L) (oN (fvM te (rl2 te d L (z, fo)).1))) (40 + L) (oN (fvM te ((rl3 te d L (z, fo)).1)))) pa ke ik fa te aw) := hD
          refine lv_aload_n hx hb dX8_readsLink_156 rfl (lv_at hl 4 rfl) ?_
          refine va_get (D := G.1) (ci := 7) (v := .ref (ad 2)) (C := RX8) (T := TX8) (N := 17) hx hb hts inA8 hown hX.1 hP 0 rfl rfl 2 (by decide) (hts _ kw_682) (fun _ h9 => h9) rfl dX8_readsLink_157 ?_
          refine lv_iconst (v := (nI 1)) hx hb dX8_readsLink_160 (by decide) ?_
          refine lv_dup2_11 hx hb dX8_readsLink_161 rfl rfl ?_
          refine nv_aldI (f := upd (upd (upd d (16 + L) (oN (fvM te ((rl1 te L (z, fo)).1)))) (28 + L) (oN (fvM te (rl2 te d L (z, fo)).1))) (40 + L) (oN (fvM te ((rl3 te d L (z, fo)).1)))) (k := 1) hx hb hX hP 2 rfl (by omega) (by decide) dX8_readsLink_162 ?_
          refine ti (y := (nI L)) (by unfold upd; rw [if_neg (by omega), if_neg (by omega), if_neg (by omega)]; exact hd1) ?_
          refine lv_iconst (v := (nI 1)) hx hb dX8_readsLink_163 (by decide) ?_
          refine lv_iadd hx hb dX8_readsLink_164 (ti (y := (nI (L + 1))) (nI_add _ _) ?_)
          refine nv_astI (f := upd (upd (upd d (16 + L) (oN (fvM te ((rl1 te L (z, fo)).1)))) (28 + L) (oN (fvM te (rl2 te d L (z, fo)).1))) (40 + L) (oN (fvM te ((rl3 te d L (z, fo)).1)))) (k := 1) (v := (nI (L + 1))) hx hb hX hP hD hS 2 rfl (by omega) (by decide) dX8_readsLink_165 (fun H locs hP hD hS => ?_)
          have hP : va_P G.1 vwCl (mow G ad ((rl4 te d L (z, fo)).1) ((rl4 te d L (z, fo)).2) sv (upd (upd (upd (upd d (16 + L) (oN (fvM te ((rl1 te L (z, fo)).1)))) (28 + L) (oN (fvM te (rl2 te d L (z, fo)).1))) (40 + L) (oN (fvM te ((rl3 te d L (z, fo)).1)))) 1 (nI (L + 1))) pa ke ik fa te aw) H := hP
          have hD : va_D A (mow G ad ((rl4 te d L (z, fo)).1) ((rl4 te d L (z, fo)).2) sv (upd (upd (upd (upd d (16 + L) (oN (fvM te ((rl1 te L (z, fo)).1)))) (28 + L) (oN (fvM te (rl2 te d L (z, fo)).1))) (40 + L) (oN (fvM te ((rl3 te d L (z, fo)).1)))) 1 (nI (L + 1))) pa ke ik fa te aw) := hD
          have e8 : rlD te d L (z, fo) = upd (upd (upd (upd d (16 + L) (oN (fvM te ((rl1 te L (z, fo)).1)))) (28 + L) (oN (fvM te (rl2 te d L (z, fo)).1))) (40 + L) (oN (fvM te ((rl3 te d L (z, fo)).1)))) 1 (nI (L + 1)) := by unfold rlD; rw [if_pos hq]
          have hP : va_P G.1 vwCl (mow G ad ((rl4 te d L (z, fo)).1) ((rl4 te d L (z, fo)).2) sv (rlD te d L (z, fo)) pa ke ik fa te aw) H := by rw [e8]; exact hP
          have hD : va_D A (mow G ad ((rl4 te d L (z, fo)).1) ((rl4 te d L (z, fo)).2) sv (rlD te d L (z, fo)) pa ke ik fa te aw) := by rw [e8]; exact hD
          exact re_v hx hb hr hlocks hS () hP hD trivial dX8_readsLink_166
        · refine ti (y := nI q) (by rw [hq]; rfl) ?_
          have hq31 := hf4 q hq
          refine lv_bipush (v := (-9)) hx hb dX8_readsLink_110 (by decide) ?_
          refine lv_icmp_ne (x := (nI q)) (y := (-9)) (tgt := 166) hx hb dX8_readsLink_112 (by decide) (fun _ => ?_) (fun h9 => absurd h9 (nI_n9 (by omega)))
          have e8 : rlD te d L (z, fo) = d := by unfold rlD; rw [if_neg (by rw [hq]; exact fun h => by cases h)]
          have hP : va_P G.1 vwCl (mow G ad ((rl4 te d L (z, fo)).1) ((rl4 te d L (z, fo)).2) sv (rlD te d L (z, fo)) pa ke ik fa te aw) H := by rw [e8]; exact hP
          have hD : va_D A (mow G ad ((rl4 te d L (z, fo)).1) ((rl4 te d L (z, fo)).2) sv (rlD te d L (z, fo)) pa ke ik fa te aw) := by rw [e8]; exact hD
          exact re_v hx hb hr hlocks hS () hP hD trivial dX8_readsLink_166
      · refine lv_iload_n hx hb dX8_readsLink_76 rfl (lv_at hl 0 rfl) ?_
        refine lv_iload_n hx hb dX8_readsLink_77 rfl (lv_at hl 1 rfl) ?_
        refine lv_icmp_eq (x := (oN (fvM te (rl2 te d L (z, fo)).1))) (y := (oN (fvM te ((rl1 te L (z, fo)).1)))) (tgt := 94) hx hb dX8_readsLink_78 (by decide) (fun c78 => ?_) (fun c78 => ?_)
        · refine lv_iconst (v := (nI 0)) hx hb dX8_readsLink_94 (by decide) ?_
          refine ti (y := (bI (rlB te d L (z, fo)))) (by unfold rlB; rw [c73, decide_eq_true c78, Bool.not_true, Bool.and_false, Bool.false_and] <;> rfl) ?_
          refine ca_Vv (ci := 7) (q := (RX8, TX8, 17)) (rest := []) (wr := ([] : va_W)) F hX (mX8_takes l G ad ((rl2 te d L (z, fo)).1) ((rl2 te d L (z, fo)).2) sv d pa ke ik fa te aw (rlB te d L (z, fo)) hY2 hf2) (cA_V hts kw_770 kw_8 kw_767 kw_769 kp_24 hdX8_takes ⟨Nat.le_of_ble_eq_true rfl, Nat.le_of_ble_eq_true rfl⟩) rfl rfl rfl hl.1 rfl (Nat.le_of_ble_eq_true rfl) dX8_readsLink_95 ⟨Nat.le_of_ble_eq_true rfl, Nat.le_of_ble_eq_true rfl⟩ hP hD hS hA (pm_nil _) (fun u95 H locs hp95 hP hD hS => ?_)
          have hP : va_P G.1 vwCl (mow G ad ((tkM te (rlB te d L (z, fo)) (rl2 te d L (z, fo))).1) ((tkM te (rlB te d L (z, fo)) (rl2 te d L (z, fo))).2) sv d pa ke ik fa te aw) H := wp_pm (pm_nil _).symm hP
          have hD : va_D A (mow G ad ((tkM te (rlB te d L (z, fo)) (rl2 te d L (z, fo))).1) ((tkM te (rlB te d L (z, fo)) (rl2 te d L (z, fo))).2) sv d pa ke ik fa te aw) := wd_pm (pm_nil _).symm hD
          have hP : va_P G.1 vwCl (mow G ad ((rl3 te d L (z, fo)).1) ((rl3 te d L (z, fo)).2) sv d pa ke ik fa te aw) H := by rw [show (rl3 te d L (z, fo)) = (tkM te (rlB te d L (z, fo)) (rl2 te d L (z, fo))) from rfl]; exact hP
          have hD : va_D A (mow G ad ((rl3 te d L (z, fo)).1) ((rl3 te d L (z, fo)).2) sv d pa ke ik fa te aw) := by rw [show (rl3 te d L (z, fo)) = (tkM te (rlB te d L (z, fo)) (rl2 te d L (z, fo))) from rfl]; exact hD
          refine lv_aload_n hx hb dX8_readsLink_98 rfl (lv_at hl 2 rfl) ?_
          refine lv_iconst (v := (nI 1)) hx hb dX8_readsLink_99 (by decide) ?_
          refine lv_bipush (v := (nI 9)) hx hb dX8_readsLink_100 (by decide) ?_
          refine ca_Vi (ci := 7) (q := (RX8, TX8, 17)) (rest := []) (wr := ([] : va_W)) F hX (mX8_figure l G ad ((rl3 te d L (z, fo)).1) ((rl3 te d L (z, fo)).2) sv d pa ke ik fa te aw (nI 1) (nI 9) hY3 hf3) (cA_V hts kw_774 kw_8 kw_771 kw_773 kp_25 hdX8_figure ⟨Nat.le_of_ble_eq_true rfl, Nat.le_of_ble_eq_true rfl⟩) rfl rfl rfl hl.1 rfl (Nat.le_of_ble_eq_true rfl) dX8_readsLink_102 ⟨Nat.le_of_ble_eq_true rfl, Nat.le_of_ble_eq_true rfl⟩ hP hD hS hA (pm_nil _) (fun r102 u102 H locs hp102 hP hD hS => ?_)
          have hP : va_P G.1 vwCl (mow G ad ((fgM te (nI 1) (nI 9) (rl3 te d L (z, fo))).1) ((fgM te (nI 1) (nI 9) (rl3 te d L (z, fo))).2) sv d pa ke ik fa te aw) H := wp_pm (pm_nil _).symm hP
          have hD : va_D A (mow G ad ((fgM te (nI 1) (nI 9) (rl3 te d L (z, fo))).1) ((fgM te (nI 1) (nI 9) (rl3 te d L (z, fo))).2) sv d pa ke ik fa te aw) := wd_pm (pm_nil _).symm hD
          subst hp102
          have hP : va_P G.1 vwCl (mow G ad ((rl4 te d L (z, fo)).1) ((rl4 te d L (z, fo)).2) sv d pa ke ik fa te aw) H := by rw [show (rl4 te d L (z, fo)) = (fgM te (nI 1) (nI 9) (rl3 te d L (z, fo))) from rfl]; exact hP
          have hD : va_D A (mow G ad ((rl4 te d L (z, fo)).1) ((rl4 te d L (z, fo)).2) sv d pa ke ik fa te aw) := by rw [show (rl4 te d L (z, fo)) = (fgM te (nI 1) (nI 9) (rl3 te d L (z, fo))) from rfl]; exact hD
          refine lv_istore_n (lv' := [(3, .int (oN (fvM te ((rl3 te d L (z, fo)).1)))), (2, .int (oN (fvM te (rl2 te d L (z, fo)).1))), (1, .int (oN (fvM te ((rl1 te L (z, fo)).1)))), (0, .ref (ad 0))]) hx hb dX8_readsLink_105 rfl hl (by decide) rfl (fun ls hl => ?_)
          refine lv_aload_n hx hb dX8_readsLink_106 rfl (lv_at hl 3 rfl) ?_
          refine va_get (D := G.1) (ci := 7) (v := .int (oN ((rl4 te d L (z, fo)).2))) (C := RX8) (T := TX8) (N := 17) hx hb hts inA8 hown hX.1 hP 0 rfl rfl 14 (by decide) (hts _ kw_694) (fun _ h9 => h9) rfl dX8_readsLink_107 ?_
          rcases opt_c ((rl4 te d L (z, fo)).2) with hq | ⟨q, hq⟩
          · refine ti (y := -9) (by rw [hq]; rfl) ?_
            have h12 : L < 12 := (rl_on (q := (z, fo)) hY hq).2.1
            refine lv_bipush (v := (-9)) hx hb dX8_readsLink_110 (by decide) ?_
            refine lv_icmp_ne (x := (-9)) (y := (-9)) (tgt := 166) hx hb dX8_readsLink_112 (by decide) (fun h9 => absurd rfl h9) (fun _ => ?_)
            refine lv_aload_n hx hb dX8_readsLink_115 rfl (lv_at hl 3 rfl) ?_
            refine va_get (D := G.1) (ci := 7) (v := .ref (ad 2)) (C := RX8) (T := TX8) (N := 17) hx hb hts inA8 hown hX.1 hP 0 rfl rfl 2 (by decide) (hts _ kw_682) (fun _ h9 => h9) rfl dX8_readsLink_116 ?_
            refine lv_iconst (v := (nI 1)) hx hb dX8_readsLink_119 (by decide) ?_
            refine nv_aldI (f := d) (k := 1) hx hb hX hP 2 rfl (by omega) (by decide) dX8_readsLink_120 ?_
            refine ti (y := (nI L)) hd1 ?_
            refine lv_istore (lv' := [(4, .int (nI L)), (3, .int (oN (fvM te ((rl3 te d L (z, fo)).1)))), (2, .int (oN (fvM te (rl2 te d L (z, fo)).1))), (1, .int (oN (fvM te ((rl1 te L (z, fo)).1)))), (0, .ref (ad 0))]) hx hb dX8_readsLink_121 hl (by decide) rfl (fun ls hl => ?_)
            refine lv_aload_n hx hb dX8_readsLink_123 rfl (lv_at hl 4 rfl) ?_
            refine va_get (D := G.1) (ci := 7) (v := .ref (ad 2)) (C := RX8) (T := TX8) (N := 17) hx hb hts inA8 hown hX.1 hP 0 rfl rfl 2 (by decide) (hts _ kw_682) (fun _ h9 => h9) rfl dX8_readsLink_124 ?_
            refine lv_bipush (v := (nI 16)) hx hb dX8_readsLink_127 (by decide) ?_
            refine lv_iload hx hb dX8_readsLink_129 (lv_at hl 0 rfl) ?_
            refine lv_iadd hx hb dX8_readsLink_131 (ti (y := (nI (16 + L))) (nI_add _ _) ?_)
            refine lv_iload_n hx hb dX8_readsLink_132 rfl (lv_at hl 3 rfl) ?_
            refine nv_astI (f := d) (k := 16 + L) (v := (oN (fvM te ((rl1 te L (z, fo)).1)))) hx hb hX hP hD hS 2 rfl (by omega) (by decide) dX8_readsLink_133 (fun H locs hP hD hS => ?_)
            have hP : va_P G.1 vwCl (mow G ad ((rl4 te d L (z, fo)).1) ((rl4 te d L (z, fo)).2) sv (upd d (16 + L) (oN (fvM te ((rl1 te L (z, fo)).1)))) pa ke ik fa te aw) H := hP
            have hD : va_D A (mow G ad ((rl4 te d L (z, fo)).1) ((rl4 te d L (z, fo)).2) sv (upd d (16 + L) (oN (fvM te ((rl1 te L (z, fo)).1)))) pa ke ik fa te aw) := hD
            refine lv_aload_n hx hb dX8_readsLink_134 rfl (lv_at hl 4 rfl) ?_
            refine va_get (D := G.1) (ci := 7) (v := .ref (ad 2)) (C := RX8) (T := TX8) (N := 17) hx hb hts inA8 hown hX.1 hP 0 rfl rfl 2 (by decide) (hts _ kw_682) (fun _ h9 => h9) rfl dX8_readsLink_135 ?_
            refine lv_bipush (v := (nI 28)) hx hb dX8_readsLink_138 (by decide) ?_
            refine lv_iload hx hb dX8_readsLink_140 (lv_at hl 0 rfl) ?_
            refine lv_iadd hx hb dX8_readsLink_142 (ti (y := (nI (28 + L))) (nI_add _ _) ?_)
            refine lv_iload_n hx hb dX8_readsLink_143 rfl (lv_at hl 2 rfl) ?_
            refine nv_astI (f := upd d (16 + L) (oN (fvM te ((rl1 te L (z, fo)).1)))) (k := 28 + L) (v := (oN (fvM te (rl2 te d L (z, fo)).1))) hx hb hX hP hD hS 2 rfl (by omega) (by decide) dX8_readsLink_144 (fun H locs hP hD hS => ?_)
            have hP : va_P G.1 vwCl (mow G ad ((rl4 te d L (z, fo)).1) ((rl4 te d L (z, fo)).2) sv (upd (upd d (16 + L) (oN (fvM te ((rl1 te L (z, fo)).1)))) (28 + L) (oN (fvM te (rl2 te d L (z, fo)).1))) pa ke ik fa te aw) H := hP
            have hD : va_D A (mow G ad ((rl4 te d L (z, fo)).1) ((rl4 te d L (z, fo)).2) sv (upd (upd d (16 + L) (oN (fvM te ((rl1 te L (z, fo)).1)))) (28 + L) (oN (fvM te (rl2 te d L (z, fo)).1))) pa ke ik fa te aw) := hD
            refine lv_aload_n hx hb dX8_readsLink_145 rfl (lv_at hl 4 rfl) ?_
            refine va_get (D := G.1) (ci := 7) (v := .ref (ad 2)) (C := RX8) (T := TX8) (N := 17) hx hb hts inA8 hown hX.1 hP 0 rfl rfl 2 (by decide) (hts _ kw_682) (fun _ h9 => h9) rfl dX8_readsLink_146 ?_
            refine lv_bipush (v := (nI 40)) hx hb dX8_readsLink_149 (by decide) ?_
            refine lv_iload hx hb dX8_readsLink_151 (lv_at hl 0 rfl) ?_
            refine lv_iadd hx hb dX8_readsLink_153 (ti (y := (nI (40 + L))) (nI_add _ _) ?_)
            refine lv_iload_n hx hb dX8_readsLink_154 rfl (lv_at hl 1 rfl) ?_
            refine nv_astI (f := upd (upd d (16 + L) (oN (fvM te ((rl1 te L (z, fo)).1)))) (28 + L) (oN (fvM te (rl2 te d L (z, fo)).1))) (k := 40 + L) (v := (oN (fvM te ((rl3 te d L (z, fo)).1)))) hx hb hX hP hD hS 2 rfl (by omega) (by decide) dX8_readsLink_155 (fun H locs hP hD hS => ?_)
            have hP : va_P G.1 vwCl (mow G ad ((rl4 te d L (z, fo)).1) ((rl4 te d L (z, fo)).2) sv (upd (upd (upd d (16 + L) (oN (fvM te ((rl1 te L (z, fo)).1)))) (28 + L) (oN (fvM te (rl2 te d L (z, fo)).1))) (40 + L) (oN (fvM te ((rl3 te d L (z, fo)).1)))) pa ke ik fa te aw) H := hP
            have hD : va_D A (mow G ad ((rl4 te d L (z, fo)).1) ((rl4 te d L (z, fo)).2) sv (upd (upd (upd d (16 + L) (oN (fvM te ((rl1 te L (z, fo)).1)))) (28 + L) (oN (fvM te (rl2 te d L (z, fo)).1))) (40 + L) (oN (fvM te ((rl3 te d L (z, fo)).1)))) pa ke ik fa te aw) := hD
            refine lv_aload_n hx hb dX8_readsLink_156 rfl (lv_at hl 4 rfl) ?_
            refine va_get (D := G.1) (ci := 7) (v := .ref (ad 2)) (C := RX8) (T := TX8) (N := 17) hx hb hts inA8 hown hX.1 hP 0 rfl rfl 2 (by decide) (hts _ kw_682) (fun _ h9 => h9) rfl dX8_readsLink_157 ?_
            refine lv_iconst (v := (nI 1)) hx hb dX8_readsLink_160 (by decide) ?_
            refine lv_dup2_11 hx hb dX8_readsLink_161 rfl rfl ?_
            refine nv_aldI (f := upd (upd (upd d (16 + L) (oN (fvM te ((rl1 te L (z, fo)).1)))) (28 + L) (oN (fvM te (rl2 te d L (z, fo)).1))) (40 + L) (oN (fvM te ((rl3 te d L (z, fo)).1)))) (k := 1) hx hb hX hP 2 rfl (by omega) (by decide) dX8_readsLink_162 ?_
            refine ti (y := (nI L)) (by unfold upd; rw [if_neg (by omega), if_neg (by omega), if_neg (by omega)]; exact hd1) ?_
            refine lv_iconst (v := (nI 1)) hx hb dX8_readsLink_163 (by decide) ?_
            refine lv_iadd hx hb dX8_readsLink_164 (ti (y := (nI (L + 1))) (nI_add _ _) ?_)
            refine nv_astI (f := upd (upd (upd d (16 + L) (oN (fvM te ((rl1 te L (z, fo)).1)))) (28 + L) (oN (fvM te (rl2 te d L (z, fo)).1))) (40 + L) (oN (fvM te ((rl3 te d L (z, fo)).1)))) (k := 1) (v := (nI (L + 1))) hx hb hX hP hD hS 2 rfl (by omega) (by decide) dX8_readsLink_165 (fun H locs hP hD hS => ?_)
            have hP : va_P G.1 vwCl (mow G ad ((rl4 te d L (z, fo)).1) ((rl4 te d L (z, fo)).2) sv (upd (upd (upd (upd d (16 + L) (oN (fvM te ((rl1 te L (z, fo)).1)))) (28 + L) (oN (fvM te (rl2 te d L (z, fo)).1))) (40 + L) (oN (fvM te ((rl3 te d L (z, fo)).1)))) 1 (nI (L + 1))) pa ke ik fa te aw) H := hP
            have hD : va_D A (mow G ad ((rl4 te d L (z, fo)).1) ((rl4 te d L (z, fo)).2) sv (upd (upd (upd (upd d (16 + L) (oN (fvM te ((rl1 te L (z, fo)).1)))) (28 + L) (oN (fvM te (rl2 te d L (z, fo)).1))) (40 + L) (oN (fvM te ((rl3 te d L (z, fo)).1)))) 1 (nI (L + 1))) pa ke ik fa te aw) := hD
            have e8 : rlD te d L (z, fo) = upd (upd (upd (upd d (16 + L) (oN (fvM te ((rl1 te L (z, fo)).1)))) (28 + L) (oN (fvM te (rl2 te d L (z, fo)).1))) (40 + L) (oN (fvM te ((rl3 te d L (z, fo)).1)))) 1 (nI (L + 1)) := by unfold rlD; rw [if_pos hq]
            have hP : va_P G.1 vwCl (mow G ad ((rl4 te d L (z, fo)).1) ((rl4 te d L (z, fo)).2) sv (rlD te d L (z, fo)) pa ke ik fa te aw) H := by rw [e8]; exact hP
            have hD : va_D A (mow G ad ((rl4 te d L (z, fo)).1) ((rl4 te d L (z, fo)).2) sv (rlD te d L (z, fo)) pa ke ik fa te aw) := by rw [e8]; exact hD
            exact re_v hx hb hr hlocks hS () hP hD trivial dX8_readsLink_166
          · refine ti (y := nI q) (by rw [hq]; rfl) ?_
            have hq31 := hf4 q hq
            refine lv_bipush (v := (-9)) hx hb dX8_readsLink_110 (by decide) ?_
            refine lv_icmp_ne (x := (nI q)) (y := (-9)) (tgt := 166) hx hb dX8_readsLink_112 (by decide) (fun _ => ?_) (fun h9 => absurd h9 (nI_n9 (by omega)))
            have e8 : rlD te d L (z, fo) = d := by unfold rlD; rw [if_neg (by rw [hq]; exact fun h => by cases h)]
            have hP : va_P G.1 vwCl (mow G ad ((rl4 te d L (z, fo)).1) ((rl4 te d L (z, fo)).2) sv (rlD te d L (z, fo)) pa ke ik fa te aw) H := by rw [e8]; exact hP
            have hD : va_D A (mow G ad ((rl4 te d L (z, fo)).1) ((rl4 te d L (z, fo)).2) sv (rlD te d L (z, fo)) pa ke ik fa te aw) := by rw [e8]; exact hD
            exact re_v hx hb hr hlocks hS () hP hD trivial dX8_readsLink_166
        · refine lv_aload_n hx hb dX8_readsLink_81 rfl (lv_at hl 2 rfl) ?_
          refine lv_iload_n hx hb dX8_readsLink_82 rfl (lv_at hl 1 rfl) ?_
          refine lv_iload_n hx hb dX8_readsLink_83 rfl (lv_at hl 0 rfl) ?_
          refine ca_Vi (ci := 7) (q := (RX8, TX8, 17)) (rest := [.ref (ad 0)]) (wr := ([] : va_W)) F hX (mX8_areLinked l G ad ((rl2 te d L (z, fo)).1) ((rl2 te d L (z, fo)).2) sv d pa ke ik fa te aw (oN (fvM te ((rl1 te L (z, fo)).1))) (oN (fvM te (rl2 te d L (z, fo)).1)) L hL hd1) (cA_V hts kw_782 kw_8 kw_779 kw_781 kp_27 hdX8_areLinked ⟨Nat.le_of_ble_eq_true rfl, Nat.le_of_ble_eq_true rfl⟩) rfl rfl rfl hl.1 rfl (Nat.le_of_ble_eq_true rfl) dX8_readsLink_84 ⟨Nat.le_of_ble_eq_true rfl, Nat.le_of_ble_eq_true rfl⟩ hP hD hS hA (pm_nil _) (fun r84 u84 H locs hp84 hP hD hS => ?_)
          have hP : va_P G.1 vwCl (mow G ad ((rl2 te d L (z, fo)).1) ((rl2 te d L (z, fo)).2) sv d pa ke ik fa te aw) H := wp_pm (pm_nil _).symm hP
          have hD : va_D A (mow G ad ((rl2 te d L (z, fo)).1) ((rl2 te d L (z, fo)).2) sv d pa ke ik fa te aw) := wd_pm (pm_nil _).symm hD
          subst hp84
          refine bv_ne (b := alB d (oN (fvM te ((rl1 te L (z, fo)).1))) (oN (fvM te (rl2 te d L (z, fo)).1)) L) (tgt := 94) hx hb dX8_readsLink_87 (by decide) (fun c87 => ?_) (fun c87 => ?_)
          · refine lv_iconst (v := (nI 0)) hx hb dX8_readsLink_94 (by decide) ?_
            refine ti (y := (bI (rlB te d L (z, fo)))) (by unfold rlB; rw [c73, decide_eq_false c78, c87] <;> rfl) ?_
            refine ca_Vv (ci := 7) (q := (RX8, TX8, 17)) (rest := []) (wr := ([] : va_W)) F hX (mX8_takes l G ad ((rl2 te d L (z, fo)).1) ((rl2 te d L (z, fo)).2) sv d pa ke ik fa te aw (rlB te d L (z, fo)) hY2 hf2) (cA_V hts kw_770 kw_8 kw_767 kw_769 kp_24 hdX8_takes ⟨Nat.le_of_ble_eq_true rfl, Nat.le_of_ble_eq_true rfl⟩) rfl rfl rfl hl.1 rfl (Nat.le_of_ble_eq_true rfl) dX8_readsLink_95 ⟨Nat.le_of_ble_eq_true rfl, Nat.le_of_ble_eq_true rfl⟩ hP hD hS hA (pm_nil _) (fun u95 H locs hp95 hP hD hS => ?_)
            have hP : va_P G.1 vwCl (mow G ad ((tkM te (rlB te d L (z, fo)) (rl2 te d L (z, fo))).1) ((tkM te (rlB te d L (z, fo)) (rl2 te d L (z, fo))).2) sv d pa ke ik fa te aw) H := wp_pm (pm_nil _).symm hP
            have hD : va_D A (mow G ad ((tkM te (rlB te d L (z, fo)) (rl2 te d L (z, fo))).1) ((tkM te (rlB te d L (z, fo)) (rl2 te d L (z, fo))).2) sv d pa ke ik fa te aw) := wd_pm (pm_nil _).symm hD
            have hP : va_P G.1 vwCl (mow G ad ((rl3 te d L (z, fo)).1) ((rl3 te d L (z, fo)).2) sv d pa ke ik fa te aw) H := by rw [show (rl3 te d L (z, fo)) = (tkM te (rlB te d L (z, fo)) (rl2 te d L (z, fo))) from rfl]; exact hP
            have hD : va_D A (mow G ad ((rl3 te d L (z, fo)).1) ((rl3 te d L (z, fo)).2) sv d pa ke ik fa te aw) := by rw [show (rl3 te d L (z, fo)) = (tkM te (rlB te d L (z, fo)) (rl2 te d L (z, fo))) from rfl]; exact hD
            refine lv_aload_n hx hb dX8_readsLink_98 rfl (lv_at hl 2 rfl) ?_
            refine lv_iconst (v := (nI 1)) hx hb dX8_readsLink_99 (by decide) ?_
            refine lv_bipush (v := (nI 9)) hx hb dX8_readsLink_100 (by decide) ?_
            refine ca_Vi (ci := 7) (q := (RX8, TX8, 17)) (rest := []) (wr := ([] : va_W)) F hX (mX8_figure l G ad ((rl3 te d L (z, fo)).1) ((rl3 te d L (z, fo)).2) sv d pa ke ik fa te aw (nI 1) (nI 9) hY3 hf3) (cA_V hts kw_774 kw_8 kw_771 kw_773 kp_25 hdX8_figure ⟨Nat.le_of_ble_eq_true rfl, Nat.le_of_ble_eq_true rfl⟩) rfl rfl rfl hl.1 rfl (Nat.le_of_ble_eq_true rfl) dX8_readsLink_102 ⟨Nat.le_of_ble_eq_true rfl, Nat.le_of_ble_eq_true rfl⟩ hP hD hS hA (pm_nil _) (fun r102 u102 H locs hp102 hP hD hS => ?_)
            have hP : va_P G.1 vwCl (mow G ad ((fgM te (nI 1) (nI 9) (rl3 te d L (z, fo))).1) ((fgM te (nI 1) (nI 9) (rl3 te d L (z, fo))).2) sv d pa ke ik fa te aw) H := wp_pm (pm_nil _).symm hP
            have hD : va_D A (mow G ad ((fgM te (nI 1) (nI 9) (rl3 te d L (z, fo))).1) ((fgM te (nI 1) (nI 9) (rl3 te d L (z, fo))).2) sv d pa ke ik fa te aw) := wd_pm (pm_nil _).symm hD
            subst hp102
            have hP : va_P G.1 vwCl (mow G ad ((rl4 te d L (z, fo)).1) ((rl4 te d L (z, fo)).2) sv d pa ke ik fa te aw) H := by rw [show (rl4 te d L (z, fo)) = (fgM te (nI 1) (nI 9) (rl3 te d L (z, fo))) from rfl]; exact hP
            have hD : va_D A (mow G ad ((rl4 te d L (z, fo)).1) ((rl4 te d L (z, fo)).2) sv d pa ke ik fa te aw) := by rw [show (rl4 te d L (z, fo)) = (fgM te (nI 1) (nI 9) (rl3 te d L (z, fo))) from rfl]; exact hD
            refine lv_istore_n (lv' := [(3, .int (oN (fvM te ((rl3 te d L (z, fo)).1)))), (2, .int (oN (fvM te (rl2 te d L (z, fo)).1))), (1, .int (oN (fvM te ((rl1 te L (z, fo)).1)))), (0, .ref (ad 0))]) hx hb dX8_readsLink_105 rfl hl (by decide) rfl (fun ls hl => ?_)
            refine lv_aload_n hx hb dX8_readsLink_106 rfl (lv_at hl 3 rfl) ?_
            refine va_get (D := G.1) (ci := 7) (v := .int (oN ((rl4 te d L (z, fo)).2))) (C := RX8) (T := TX8) (N := 17) hx hb hts inA8 hown hX.1 hP 0 rfl rfl 14 (by decide) (hts _ kw_694) (fun _ h9 => h9) rfl dX8_readsLink_107 ?_
            rcases opt_c ((rl4 te d L (z, fo)).2) with hq | ⟨q, hq⟩
            · refine ti (y := -9) (by rw [hq]; rfl) ?_
              have h12 : L < 12 := (rl_on (q := (z, fo)) hY hq).2.1
              refine lv_bipush (v := (-9)) hx hb dX8_readsLink_110 (by decide) ?_
              refine lv_icmp_ne (x := (-9)) (y := (-9)) (tgt := 166) hx hb dX8_readsLink_112 (by decide) (fun h9 => absurd rfl h9) (fun _ => ?_)
              refine lv_aload_n hx hb dX8_readsLink_115 rfl (lv_at hl 3 rfl) ?_
              refine va_get (D := G.1) (ci := 7) (v := .ref (ad 2)) (C := RX8) (T := TX8) (N := 17) hx hb hts inA8 hown hX.1 hP 0 rfl rfl 2 (by decide) (hts _ kw_682) (fun _ h9 => h9) rfl dX8_readsLink_116 ?_
              refine lv_iconst (v := (nI 1)) hx hb dX8_readsLink_119 (by decide) ?_
              refine nv_aldI (f := d) (k := 1) hx hb hX hP 2 rfl (by omega) (by decide) dX8_readsLink_120 ?_
              refine ti (y := (nI L)) hd1 ?_
              refine lv_istore (lv' := [(4, .int (nI L)), (3, .int (oN (fvM te ((rl3 te d L (z, fo)).1)))), (2, .int (oN (fvM te (rl2 te d L (z, fo)).1))), (1, .int (oN (fvM te ((rl1 te L (z, fo)).1)))), (0, .ref (ad 0))]) hx hb dX8_readsLink_121 hl (by decide) rfl (fun ls hl => ?_)
              refine lv_aload_n hx hb dX8_readsLink_123 rfl (lv_at hl 4 rfl) ?_
              refine va_get (D := G.1) (ci := 7) (v := .ref (ad 2)) (C := RX8) (T := TX8) (N := 17) hx hb hts inA8 hown hX.1 hP 0 rfl rfl 2 (by decide) (hts _ kw_682) (fun _ h9 => h9) rfl dX8_readsLink_124 ?_
              refine lv_bipush (v := (nI 16)) hx hb dX8_readsLink_127 (by decide) ?_
              refine lv_iload hx hb dX8_readsLink_129 (lv_at hl 0 rfl) ?_
              refine lv_iadd hx hb dX8_readsLink_131 (ti (y := (nI (16 + L))) (nI_add _ _) ?_)
              refine lv_iload_n hx hb dX8_readsLink_132 rfl (lv_at hl 3 rfl) ?_
              refine nv_astI (f := d) (k := 16 + L) (v := (oN (fvM te ((rl1 te L (z, fo)).1)))) hx hb hX hP hD hS 2 rfl (by omega) (by decide) dX8_readsLink_133 (fun H locs hP hD hS => ?_)
              have hP : va_P G.1 vwCl (mow G ad ((rl4 te d L (z, fo)).1) ((rl4 te d L (z, fo)).2) sv (upd d (16 + L) (oN (fvM te ((rl1 te L (z, fo)).1)))) pa ke ik fa te aw) H := hP
              have hD : va_D A (mow G ad ((rl4 te d L (z, fo)).1) ((rl4 te d L (z, fo)).2) sv (upd d (16 + L) (oN (fvM te ((rl1 te L (z, fo)).1)))) pa ke ik fa te aw) := hD
              refine lv_aload_n hx hb dX8_readsLink_134 rfl (lv_at hl 4 rfl) ?_
              refine va_get (D := G.1) (ci := 7) (v := .ref (ad 2)) (C := RX8) (T := TX8) (N := 17) hx hb hts inA8 hown hX.1 hP 0 rfl rfl 2 (by decide) (hts _ kw_682) (fun _ h9 => h9) rfl dX8_readsLink_135 ?_
              refine lv_bipush (v := (nI 28)) hx hb dX8_readsLink_138 (by decide) ?_
              refine lv_iload hx hb dX8_readsLink_140 (lv_at hl 0 rfl) ?_
              refine lv_iadd hx hb dX8_readsLink_142 (ti (y := (nI (28 + L))) (nI_add _ _) ?_)
              refine lv_iload_n hx hb dX8_readsLink_143 rfl (lv_at hl 2 rfl) ?_
              refine nv_astI (f := upd d (16 + L) (oN (fvM te ((rl1 te L (z, fo)).1)))) (k := 28 + L) (v := (oN (fvM te (rl2 te d L (z, fo)).1))) hx hb hX hP hD hS 2 rfl (by omega) (by decide) dX8_readsLink_144 (fun H locs hP hD hS => ?_)
              have hP : va_P G.1 vwCl (mow G ad ((rl4 te d L (z, fo)).1) ((rl4 te d L (z, fo)).2) sv (upd (upd d (16 + L) (oN (fvM te ((rl1 te L (z, fo)).1)))) (28 + L) (oN (fvM te (rl2 te d L (z, fo)).1))) pa ke ik fa te aw) H := hP
              have hD : va_D A (mow G ad ((rl4 te d L (z, fo)).1) ((rl4 te d L (z, fo)).2) sv (upd (upd d (16 + L) (oN (fvM te ((rl1 te L (z, fo)).1)))) (28 + L) (oN (fvM te (rl2 te d L (z, fo)).1))) pa ke ik fa te aw) := hD
              refine lv_aload_n hx hb dX8_readsLink_145 rfl (lv_at hl 4 rfl) ?_
              refine va_get (D := G.1) (ci := 7) (v := .ref (ad 2)) (C := RX8) (T := TX8) (N := 17) hx hb hts inA8 hown hX.1 hP 0 rfl rfl 2 (by decide) (hts _ kw_682) (fun _ h9 => h9) rfl dX8_readsLink_146 ?_
              refine lv_bipush (v := (nI 40)) hx hb dX8_readsLink_149 (by decide) ?_
              refine lv_iload hx hb dX8_readsLink_151 (lv_at hl 0 rfl) ?_
              refine lv_iadd hx hb dX8_readsLink_153 (ti (y := (nI (40 + L))) (nI_add _ _) ?_)
              refine lv_iload_n hx hb dX8_readsLink_154 rfl (lv_at hl 1 rfl) ?_
              refine nv_astI (f := upd (upd d (16 + L) (oN (fvM te ((rl1 te L (z, fo)).1)))) (28 + L) (oN (fvM te (rl2 te d L (z, fo)).1))) (k := 40 + L) (v := (oN (fvM te ((rl3 te d L (z, fo)).1)))) hx hb hX hP hD hS 2 rfl (by omega) (by decide) dX8_readsLink_155 (fun H locs hP hD hS => ?_)
              have hP : va_P G.1 vwCl (mow G ad ((rl4 te d L (z, fo)).1) ((rl4 te d L (z, fo)).2) sv (upd (upd (upd d (16 + L) (oN (fvM te ((rl1 te L (z, fo)).1)))) (28 + L) (oN (fvM te (rl2 te d L (z, fo)).1))) (40 + L) (oN (fvM te ((rl3 te d L (z, fo)).1)))) pa ke ik fa te aw) H := hP
              have hD : va_D A (mow G ad ((rl4 te d L (z, fo)).1) ((rl4 te d L (z, fo)).2) sv (upd (upd (upd d (16 + L) (oN (fvM te ((rl1 te L (z, fo)).1)))) (28 + L) (oN (fvM te (rl2 te d L (z, fo)).1))) (40 + L) (oN (fvM te ((rl3 te d L (z, fo)).1)))) pa ke ik fa te aw) := hD
              refine lv_aload_n hx hb dX8_readsLink_156 rfl (lv_at hl 4 rfl) ?_
              refine va_get (D := G.1) (ci := 7) (v := .ref (ad 2)) (C := RX8) (T := TX8) (N := 17) hx hb hts inA8 hown hX.1 hP 0 rfl rfl 2 (by decide) (hts _ kw_682) (fun _ h9 => h9) rfl dX8_readsLink_157 ?_
              refine lv_iconst (v := (nI 1)) hx hb dX8_readsLink_160 (by decide) ?_
              refine lv_dup2_11 hx hb dX8_readsLink_161 rfl rfl ?_
              refine nv_aldI (f := upd (upd (upd d (16 + L) (oN (fvM te ((rl1 te L (z, fo)).1)))) (28 + L) (oN (fvM te (rl2 te d L (z, fo)).1))) (40 + L) (oN (fvM te ((rl3 te d L (z, fo)).1)))) (k := 1) hx hb hX hP 2 rfl (by omega) (by decide) dX8_readsLink_162 ?_
              refine ti (y := (nI L)) (by unfold upd; rw [if_neg (by omega), if_neg (by omega), if_neg (by omega)]; exact hd1) ?_
              refine lv_iconst (v := (nI 1)) hx hb dX8_readsLink_163 (by decide) ?_
              refine lv_iadd hx hb dX8_readsLink_164 (ti (y := (nI (L + 1))) (nI_add _ _) ?_)
              refine nv_astI (f := upd (upd (upd d (16 + L) (oN (fvM te ((rl1 te L (z, fo)).1)))) (28 + L) (oN (fvM te (rl2 te d L (z, fo)).1))) (40 + L) (oN (fvM te ((rl3 te d L (z, fo)).1)))) (k := 1) (v := (nI (L + 1))) hx hb hX hP hD hS 2 rfl (by omega) (by decide) dX8_readsLink_165 (fun H locs hP hD hS => ?_)
              have hP : va_P G.1 vwCl (mow G ad ((rl4 te d L (z, fo)).1) ((rl4 te d L (z, fo)).2) sv (upd (upd (upd (upd d (16 + L) (oN (fvM te ((rl1 te L (z, fo)).1)))) (28 + L) (oN (fvM te (rl2 te d L (z, fo)).1))) (40 + L) (oN (fvM te ((rl3 te d L (z, fo)).1)))) 1 (nI (L + 1))) pa ke ik fa te aw) H := hP
              have hD : va_D A (mow G ad ((rl4 te d L (z, fo)).1) ((rl4 te d L (z, fo)).2) sv (upd (upd (upd (upd d (16 + L) (oN (fvM te ((rl1 te L (z, fo)).1)))) (28 + L) (oN (fvM te (rl2 te d L (z, fo)).1))) (40 + L) (oN (fvM te ((rl3 te d L (z, fo)).1)))) 1 (nI (L + 1))) pa ke ik fa te aw) := hD
              have e8 : rlD te d L (z, fo) = upd (upd (upd (upd d (16 + L) (oN (fvM te ((rl1 te L (z, fo)).1)))) (28 + L) (oN (fvM te (rl2 te d L (z, fo)).1))) (40 + L) (oN (fvM te ((rl3 te d L (z, fo)).1)))) 1 (nI (L + 1)) := by unfold rlD; rw [if_pos hq]
              have hP : va_P G.1 vwCl (mow G ad ((rl4 te d L (z, fo)).1) ((rl4 te d L (z, fo)).2) sv (rlD te d L (z, fo)) pa ke ik fa te aw) H := by rw [e8]; exact hP
              have hD : va_D A (mow G ad ((rl4 te d L (z, fo)).1) ((rl4 te d L (z, fo)).2) sv (rlD te d L (z, fo)) pa ke ik fa te aw) := by rw [e8]; exact hD
              exact re_v hx hb hr hlocks hS () hP hD trivial dX8_readsLink_166
            · refine ti (y := nI q) (by rw [hq]; rfl) ?_
              have hq31 := hf4 q hq
              refine lv_bipush (v := (-9)) hx hb dX8_readsLink_110 (by decide) ?_
              refine lv_icmp_ne (x := (nI q)) (y := (-9)) (tgt := 166) hx hb dX8_readsLink_112 (by decide) (fun _ => ?_) (fun h9 => absurd h9 (nI_n9 (by omega)))
              have e8 : rlD te d L (z, fo) = d := by unfold rlD; rw [if_neg (by rw [hq]; exact fun h => by cases h)]
              have hP : va_P G.1 vwCl (mow G ad ((rl4 te d L (z, fo)).1) ((rl4 te d L (z, fo)).2) sv (rlD te d L (z, fo)) pa ke ik fa te aw) H := by rw [e8]; exact hP
              have hD : va_D A (mow G ad ((rl4 te d L (z, fo)).1) ((rl4 te d L (z, fo)).2) sv (rlD te d L (z, fo)) pa ke ik fa te aw) := by rw [e8]; exact hD
              exact re_v hx hb hr hlocks hS () hP hD trivial dX8_readsLink_166
          · refine lv_iconst (v := (nI 1)) hx hb dX8_readsLink_90 (by decide) ?_
            refine lv_goto (tgt := 95) hx hb dX8_readsLink_91 (by decide) ?_
            refine ti (y := (bI (rlB te d L (z, fo)))) (by unfold rlB; rw [c73, decide_eq_false c78, c87] <;> rfl) ?_
            refine ca_Vv (ci := 7) (q := (RX8, TX8, 17)) (rest := []) (wr := ([] : va_W)) F hX (mX8_takes l G ad ((rl2 te d L (z, fo)).1) ((rl2 te d L (z, fo)).2) sv d pa ke ik fa te aw (rlB te d L (z, fo)) hY2 hf2) (cA_V hts kw_770 kw_8 kw_767 kw_769 kp_24 hdX8_takes ⟨Nat.le_of_ble_eq_true rfl, Nat.le_of_ble_eq_true rfl⟩) rfl rfl rfl hl.1 rfl (Nat.le_of_ble_eq_true rfl) dX8_readsLink_95 ⟨Nat.le_of_ble_eq_true rfl, Nat.le_of_ble_eq_true rfl⟩ hP hD hS hA (pm_nil _) (fun u95 H locs hp95 hP hD hS => ?_)
            have hP : va_P G.1 vwCl (mow G ad ((tkM te (rlB te d L (z, fo)) (rl2 te d L (z, fo))).1) ((tkM te (rlB te d L (z, fo)) (rl2 te d L (z, fo))).2) sv d pa ke ik fa te aw) H := wp_pm (pm_nil _).symm hP
            have hD : va_D A (mow G ad ((tkM te (rlB te d L (z, fo)) (rl2 te d L (z, fo))).1) ((tkM te (rlB te d L (z, fo)) (rl2 te d L (z, fo))).2) sv d pa ke ik fa te aw) := wd_pm (pm_nil _).symm hD
            have hP : va_P G.1 vwCl (mow G ad ((rl3 te d L (z, fo)).1) ((rl3 te d L (z, fo)).2) sv d pa ke ik fa te aw) H := by rw [show (rl3 te d L (z, fo)) = (tkM te (rlB te d L (z, fo)) (rl2 te d L (z, fo))) from rfl]; exact hP
            have hD : va_D A (mow G ad ((rl3 te d L (z, fo)).1) ((rl3 te d L (z, fo)).2) sv d pa ke ik fa te aw) := by rw [show (rl3 te d L (z, fo)) = (tkM te (rlB te d L (z, fo)) (rl2 te d L (z, fo))) from rfl]; exact hD
            refine lv_aload_n hx hb dX8_readsLink_98 rfl (lv_at hl 2 rfl) ?_
            refine lv_iconst (v := (nI 1)) hx hb dX8_readsLink_99 (by decide) ?_
            refine lv_bipush (v := (nI 9)) hx hb dX8_readsLink_100 (by decide) ?_
            refine ca_Vi (ci := 7) (q := (RX8, TX8, 17)) (rest := []) (wr := ([] : va_W)) F hX (mX8_figure l G ad ((rl3 te d L (z, fo)).1) ((rl3 te d L (z, fo)).2) sv d pa ke ik fa te aw (nI 1) (nI 9) hY3 hf3) (cA_V hts kw_774 kw_8 kw_771 kw_773 kp_25 hdX8_figure ⟨Nat.le_of_ble_eq_true rfl, Nat.le_of_ble_eq_true rfl⟩) rfl rfl rfl hl.1 rfl (Nat.le_of_ble_eq_true rfl) dX8_readsLink_102 ⟨Nat.le_of_ble_eq_true rfl, Nat.le_of_ble_eq_true rfl⟩ hP hD hS hA (pm_nil _) (fun r102 u102 H locs hp102 hP hD hS => ?_)
            have hP : va_P G.1 vwCl (mow G ad ((fgM te (nI 1) (nI 9) (rl3 te d L (z, fo))).1) ((fgM te (nI 1) (nI 9) (rl3 te d L (z, fo))).2) sv d pa ke ik fa te aw) H := wp_pm (pm_nil _).symm hP
            have hD : va_D A (mow G ad ((fgM te (nI 1) (nI 9) (rl3 te d L (z, fo))).1) ((fgM te (nI 1) (nI 9) (rl3 te d L (z, fo))).2) sv d pa ke ik fa te aw) := wd_pm (pm_nil _).symm hD
            subst hp102
            have hP : va_P G.1 vwCl (mow G ad ((rl4 te d L (z, fo)).1) ((rl4 te d L (z, fo)).2) sv d pa ke ik fa te aw) H := by rw [show (rl4 te d L (z, fo)) = (fgM te (nI 1) (nI 9) (rl3 te d L (z, fo))) from rfl]; exact hP
            have hD : va_D A (mow G ad ((rl4 te d L (z, fo)).1) ((rl4 te d L (z, fo)).2) sv d pa ke ik fa te aw) := by rw [show (rl4 te d L (z, fo)) = (fgM te (nI 1) (nI 9) (rl3 te d L (z, fo))) from rfl]; exact hD
            refine lv_istore_n (lv' := [(3, .int (oN (fvM te ((rl3 te d L (z, fo)).1)))), (2, .int (oN (fvM te (rl2 te d L (z, fo)).1))), (1, .int (oN (fvM te ((rl1 te L (z, fo)).1)))), (0, .ref (ad 0))]) hx hb dX8_readsLink_105 rfl hl (by decide) rfl (fun ls hl => ?_)
            refine lv_aload_n hx hb dX8_readsLink_106 rfl (lv_at hl 3 rfl) ?_
            refine va_get (D := G.1) (ci := 7) (v := .int (oN ((rl4 te d L (z, fo)).2))) (C := RX8) (T := TX8) (N := 17) hx hb hts inA8 hown hX.1 hP 0 rfl rfl 14 (by decide) (hts _ kw_694) (fun _ h9 => h9) rfl dX8_readsLink_107 ?_
            rcases opt_c ((rl4 te d L (z, fo)).2) with hq | ⟨q, hq⟩
            · refine ti (y := -9) (by rw [hq]; rfl) ?_
              have h12 : L < 12 := (rl_on (q := (z, fo)) hY hq).2.1
              refine lv_bipush (v := (-9)) hx hb dX8_readsLink_110 (by decide) ?_
              refine lv_icmp_ne (x := (-9)) (y := (-9)) (tgt := 166) hx hb dX8_readsLink_112 (by decide) (fun h9 => absurd rfl h9) (fun _ => ?_)
              refine lv_aload_n hx hb dX8_readsLink_115 rfl (lv_at hl 3 rfl) ?_
              refine va_get (D := G.1) (ci := 7) (v := .ref (ad 2)) (C := RX8) (T := TX8) (N := 17) hx hb hts inA8 hown hX.1 hP 0 rfl rfl 2 (by decide) (hts _ kw_682) (fun _ h9 => h9) rfl dX8_readsLink_116 ?_
              refine lv_iconst (v := (nI 1)) hx hb dX8_readsLink_119 (by decide) ?_
              refine nv_aldI (f := d) (k := 1) hx hb hX hP 2 rfl (by omega) (by decide) dX8_readsLink_120 ?_
              refine ti (y := (nI L)) hd1 ?_
              refine lv_istore (lv' := [(4, .int (nI L)), (3, .int (oN (fvM te ((rl3 te d L (z, fo)).1)))), (2, .int (oN (fvM te (rl2 te d L (z, fo)).1))), (1, .int (oN (fvM te ((rl1 te L (z, fo)).1)))), (0, .ref (ad 0))]) hx hb dX8_readsLink_121 hl (by decide) rfl (fun ls hl => ?_)
              refine lv_aload_n hx hb dX8_readsLink_123 rfl (lv_at hl 4 rfl) ?_
              refine va_get (D := G.1) (ci := 7) (v := .ref (ad 2)) (C := RX8) (T := TX8) (N := 17) hx hb hts inA8 hown hX.1 hP 0 rfl rfl 2 (by decide) (hts _ kw_682) (fun _ h9 => h9) rfl dX8_readsLink_124 ?_
              refine lv_bipush (v := (nI 16)) hx hb dX8_readsLink_127 (by decide) ?_
              refine lv_iload hx hb dX8_readsLink_129 (lv_at hl 0 rfl) ?_
              refine lv_iadd hx hb dX8_readsLink_131 (ti (y := (nI (16 + L))) (nI_add _ _) ?_)
              refine lv_iload_n hx hb dX8_readsLink_132 rfl (lv_at hl 3 rfl) ?_
              refine nv_astI (f := d) (k := 16 + L) (v := (oN (fvM te ((rl1 te L (z, fo)).1)))) hx hb hX hP hD hS 2 rfl (by omega) (by decide) dX8_readsLink_133 (fun H locs hP hD hS => ?_)
              have hP : va_P G.1 vwCl (mow G ad ((rl4 te d L (z, fo)).1) ((rl4 te d L (z, fo)).2) sv (upd d (16 + L) (oN (fvM te ((rl1 te L (z, fo)).1)))) pa ke ik fa te aw) H := hP
              have hD : va_D A (mow G ad ((rl4 te d L (z, fo)).1) ((rl4 te d L (z, fo)).2) sv (upd d (16 + L) (oN (fvM te ((rl1 te L (z, fo)).1)))) pa ke ik fa te aw) := hD
              refine lv_aload_n hx hb dX8_readsLink_134 rfl (lv_at hl 4 rfl) ?_
              refine va_get (D := G.1) (ci := 7) (v := .ref (ad 2)) (C := RX8) (T := TX8) (N := 17) hx hb hts inA8 hown hX.1 hP 0 rfl rfl 2 (by decide) (hts _ kw_682) (fun _ h9 => h9) rfl dX8_readsLink_135 ?_
              refine lv_bipush (v := (nI 28)) hx hb dX8_readsLink_138 (by decide) ?_
              refine lv_iload hx hb dX8_readsLink_140 (lv_at hl 0 rfl) ?_
              refine lv_iadd hx hb dX8_readsLink_142 (ti (y := (nI (28 + L))) (nI_add _ _) ?_)
              refine lv_iload_n hx hb dX8_readsLink_143 rfl (lv_at hl 2 rfl) ?_
              refine nv_astI (f := upd d (16 + L) (oN (fvM te ((rl1 te L (z, fo)).1)))) (k := 28 + L) (v := (oN (fvM te (rl2 te d L (z, fo)).1))) hx hb hX hP hD hS 2 rfl (by omega) (by decide) dX8_readsLink_144 (fun H locs hP hD hS => ?_)
              have hP : va_P G.1 vwCl (mow G ad ((rl4 te d L (z, fo)).1) ((rl4 te d L (z, fo)).2) sv (upd (upd d (16 + L) (oN (fvM te ((rl1 te L (z, fo)).1)))) (28 + L) (oN (fvM te (rl2 te d L (z, fo)).1))) pa ke ik fa te aw) H := hP
              have hD : va_D A (mow G ad ((rl4 te d L (z, fo)).1) ((rl4 te d L (z, fo)).2) sv (upd (upd d (16 + L) (oN (fvM te ((rl1 te L (z, fo)).1)))) (28 + L) (oN (fvM te (rl2 te d L (z, fo)).1))) pa ke ik fa te aw) := hD
              refine lv_aload_n hx hb dX8_readsLink_145 rfl (lv_at hl 4 rfl) ?_
              refine va_get (D := G.1) (ci := 7) (v := .ref (ad 2)) (C := RX8) (T := TX8) (N := 17) hx hb hts inA8 hown hX.1 hP 0 rfl rfl 2 (by decide) (hts _ kw_682) (fun _ h9 => h9) rfl dX8_readsLink_146 ?_
              refine lv_bipush (v := (nI 40)) hx hb dX8_readsLink_149 (by decide) ?_
              refine lv_iload hx hb dX8_readsLink_151 (lv_at hl 0 rfl) ?_
              refine lv_iadd hx hb dX8_readsLink_153 (ti (y := (nI (40 + L))) (nI_add _ _) ?_)
              refine lv_iload_n hx hb dX8_readsLink_154 rfl (lv_at hl 1 rfl) ?_
              refine nv_astI (f := upd (upd d (16 + L) (oN (fvM te ((rl1 te L (z, fo)).1)))) (28 + L) (oN (fvM te (rl2 te d L (z, fo)).1))) (k := 40 + L) (v := (oN (fvM te ((rl3 te d L (z, fo)).1)))) hx hb hX hP hD hS 2 rfl (by omega) (by decide) dX8_readsLink_155 (fun H locs hP hD hS => ?_)
              have hP : va_P G.1 vwCl (mow G ad ((rl4 te d L (z, fo)).1) ((rl4 te d L (z, fo)).2) sv (upd (upd (upd d (16 + L) (oN (fvM te ((rl1 te L (z, fo)).1)))) (28 + L) (oN (fvM te (rl2 te d L (z, fo)).1))) (40 + L) (oN (fvM te ((rl3 te d L (z, fo)).1)))) pa ke ik fa te aw) H := hP
              have hD : va_D A (mow G ad ((rl4 te d L (z, fo)).1) ((rl4 te d L (z, fo)).2) sv (upd (upd (upd d (16 + L) (oN (fvM te ((rl1 te L (z, fo)).1)))) (28 + L) (oN (fvM te (rl2 te d L (z, fo)).1))) (40 + L) (oN (fvM te ((rl3 te d L (z, fo)).1)))) pa ke ik fa te aw) := hD
              refine lv_aload_n hx hb dX8_readsLink_156 rfl (lv_at hl 4 rfl) ?_
              refine va_get (D := G.1) (ci := 7) (v := .ref (ad 2)) (C := RX8) (T := TX8) (N := 17) hx hb hts inA8 hown hX.1 hP 0 rfl rfl 2 (by decide) (hts _ kw_682) (fun _ h9 => h9) rfl dX8_readsLink_157 ?_
              refine lv_iconst (v := (nI 1)) hx hb dX8_readsLink_160 (by decide) ?_
              refine lv_dup2_11 hx hb dX8_readsLink_161 rfl rfl ?_
              refine nv_aldI (f := upd (upd (upd d (16 + L) (oN (fvM te ((rl1 te L (z, fo)).1)))) (28 + L) (oN (fvM te (rl2 te d L (z, fo)).1))) (40 + L) (oN (fvM te ((rl3 te d L (z, fo)).1)))) (k := 1) hx hb hX hP 2 rfl (by omega) (by decide) dX8_readsLink_162 ?_
              refine ti (y := (nI L)) (by unfold upd; rw [if_neg (by omega), if_neg (by omega), if_neg (by omega)]; exact hd1) ?_
              refine lv_iconst (v := (nI 1)) hx hb dX8_readsLink_163 (by decide) ?_
              refine lv_iadd hx hb dX8_readsLink_164 (ti (y := (nI (L + 1))) (nI_add _ _) ?_)
              refine nv_astI (f := upd (upd (upd d (16 + L) (oN (fvM te ((rl1 te L (z, fo)).1)))) (28 + L) (oN (fvM te (rl2 te d L (z, fo)).1))) (40 + L) (oN (fvM te ((rl3 te d L (z, fo)).1)))) (k := 1) (v := (nI (L + 1))) hx hb hX hP hD hS 2 rfl (by omega) (by decide) dX8_readsLink_165 (fun H locs hP hD hS => ?_)
              have hP : va_P G.1 vwCl (mow G ad ((rl4 te d L (z, fo)).1) ((rl4 te d L (z, fo)).2) sv (upd (upd (upd (upd d (16 + L) (oN (fvM te ((rl1 te L (z, fo)).1)))) (28 + L) (oN (fvM te (rl2 te d L (z, fo)).1))) (40 + L) (oN (fvM te ((rl3 te d L (z, fo)).1)))) 1 (nI (L + 1))) pa ke ik fa te aw) H := hP
              have hD : va_D A (mow G ad ((rl4 te d L (z, fo)).1) ((rl4 te d L (z, fo)).2) sv (upd (upd (upd (upd d (16 + L) (oN (fvM te ((rl1 te L (z, fo)).1)))) (28 + L) (oN (fvM te (rl2 te d L (z, fo)).1))) (40 + L) (oN (fvM te ((rl3 te d L (z, fo)).1)))) 1 (nI (L + 1))) pa ke ik fa te aw) := hD
              have e8 : rlD te d L (z, fo) = upd (upd (upd (upd d (16 + L) (oN (fvM te ((rl1 te L (z, fo)).1)))) (28 + L) (oN (fvM te (rl2 te d L (z, fo)).1))) (40 + L) (oN (fvM te ((rl3 te d L (z, fo)).1)))) 1 (nI (L + 1)) := by unfold rlD; rw [if_pos hq]
              have hP : va_P G.1 vwCl (mow G ad ((rl4 te d L (z, fo)).1) ((rl4 te d L (z, fo)).2) sv (rlD te d L (z, fo)) pa ke ik fa te aw) H := by rw [e8]; exact hP
              have hD : va_D A (mow G ad ((rl4 te d L (z, fo)).1) ((rl4 te d L (z, fo)).2) sv (rlD te d L (z, fo)) pa ke ik fa te aw) := by rw [e8]; exact hD
              exact re_v hx hb hr hlocks hS () hP hD trivial dX8_readsLink_166
            · refine ti (y := nI q) (by rw [hq]; rfl) ?_
              have hq31 := hf4 q hq
              refine lv_bipush (v := (-9)) hx hb dX8_readsLink_110 (by decide) ?_
              refine lv_icmp_ne (x := (nI q)) (y := (-9)) (tgt := 166) hx hb dX8_readsLink_112 (by decide) (fun _ => ?_) (fun h9 => absurd h9 (nI_n9 (by omega)))
              have e8 : rlD te d L (z, fo) = d := by unfold rlD; rw [if_neg (by rw [hq]; exact fun h => by cases h)]
              have hP : va_P G.1 vwCl (mow G ad ((rl4 te d L (z, fo)).1) ((rl4 te d L (z, fo)).2) sv (rlD te d L (z, fo)) pa ke ik fa te aw) H := by rw [e8]; exact hP
              have hD : va_D A (mow G ad ((rl4 te d L (z, fo)).1) ((rl4 te d L (z, fo)).2) sv (rlD te d L (z, fo)) pa ke ik fa te aw) := by rw [e8]; exact hD
              exact re_v hx hb hr hlocks hS () hP hD trivial dX8_readsLink_166
  · refine lv_iconst (v := (nI 1)) hx hb dX8_readsLink_12 (by decide) ?_
    refine lv_goto (tgt := 17) hx hb dX8_readsLink_13 (by decide) ?_
    refine ti (y := (bI (decide (L < 12)))) (by rw [decide_eq_true c9]; rfl) ?_
    refine ca_Vv (ci := 7) (q := (RX8, TX8, 17)) (rest := []) (wr := ([] : va_W)) F hX (mX8_takes l G ad z fo sv d pa ke ik fa te aw (decide (L < 12)) hY hf) (cA_V hts kw_770 kw_8 kw_767 kw_769 kp_24 hdX8_takes ⟨Nat.le_of_ble_eq_true rfl, Nat.le_of_ble_eq_true rfl⟩) rfl rfl rfl hl.1 rfl (Nat.le_of_ble_eq_true rfl) dX8_readsLink_17 ⟨Nat.le_of_ble_eq_true rfl, Nat.le_of_ble_eq_true rfl⟩ hP hD hS hA (pm_nil _) (fun u17 H locs hp17 hP hD hS => ?_)
    have hP : va_P G.1 vwCl (mow G ad ((tkM te (decide (L < 12)) (z, fo)).1) ((tkM te (decide (L < 12)) (z, fo)).2) sv d pa ke ik fa te aw) H := wp_pm (pm_nil _).symm hP
    have hD : va_D A (mow G ad ((tkM te (decide (L < 12)) (z, fo)).1) ((tkM te (decide (L < 12)) (z, fo)).2) sv d pa ke ik fa te aw) := wd_pm (pm_nil _).symm hD
    have hP : va_P G.1 vwCl (mow G ad ((rl1 te L (z, fo)).1) ((rl1 te L (z, fo)).2) sv d pa ke ik fa te aw) H := by rw [show (rl1 te L (z, fo)) = (tkM te (decide (L < 12)) (z, fo)) from rfl]; exact hP
    have hD : va_D A (mow G ad ((rl1 te L (z, fo)).1) ((rl1 te L (z, fo)).2) sv d pa ke ik fa te aw) := by rw [show (rl1 te L (z, fo)) = (tkM te (decide (L < 12)) (z, fo)) from rfl]; exact hD
    refine lv_aload_n hx hb dX8_readsLink_20 rfl (lv_at hl 0 rfl) ?_
    refine lv_iconst (v := (nI 0)) hx hb dX8_readsLink_21 (by decide) ?_
    refine lv_aload_n hx hb dX8_readsLink_22 rfl (lv_at hl 0 rfl) ?_
    refine va_get (D := G.1) (ci := 7) (v := .ref (ad 2)) (C := RX8) (T := TX8) (N := 17) hx hb hts inA8 hown hX.1 hP 0 rfl rfl 2 (by decide) (hts _ kw_682) (fun _ h9 => h9) rfl dX8_readsLink_23 ?_
    refine lv_iconst (v := (nI 0)) hx hb dX8_readsLink_26 (by decide) ?_
    refine nv_aldI (f := d) (k := 0) hx hb hX hP 2 rfl (by omega) (by decide) dX8_readsLink_27 ?_
    refine lv_iconst (v := (nI 1)) hx hb dX8_readsLink_28 (by decide) ?_
    refine lv_isub hx hb dX8_readsLink_29 ?_
    refine ca_Vi (ci := 7) (q := (RX8, TX8, 17)) (rest := []) (wr := ([] : va_W)) F hX (mX8_figure l G ad ((rl1 te L (z, fo)).1) ((rl1 te L (z, fo)).2) sv d pa ke ik fa te aw (nI 0) ((d 0) - (nI 1)) hY1 hf1) (cA_V hts kw_774 kw_8 kw_771 kw_773 kp_25 hdX8_figure ⟨Nat.le_of_ble_eq_true rfl, Nat.le_of_ble_eq_true rfl⟩) rfl rfl rfl hl.1 rfl (Nat.le_of_ble_eq_true rfl) dX8_readsLink_30 ⟨Nat.le_of_ble_eq_true rfl, Nat.le_of_ble_eq_true rfl⟩ hP hD hS hA (pm_nil _) (fun r30 u30 H locs hp30 hP hD hS => ?_)
    have hP : va_P G.1 vwCl (mow G ad ((fgM te (nI 0) ((d 0) - (nI 1)) (rl1 te L (z, fo))).1) ((fgM te (nI 0) ((d 0) - (nI 1)) (rl1 te L (z, fo))).2) sv d pa ke ik fa te aw) H := wp_pm (pm_nil _).symm hP
    have hD : va_D A (mow G ad ((fgM te (nI 0) ((d 0) - (nI 1)) (rl1 te L (z, fo))).1) ((fgM te (nI 0) ((d 0) - (nI 1)) (rl1 te L (z, fo))).2) sv d pa ke ik fa te aw) := wd_pm (pm_nil _).symm hD
    subst hp30
    have hP : va_P G.1 vwCl (mow G ad ((rl2 te d L (z, fo)).1) ((rl2 te d L (z, fo)).2) sv d pa ke ik fa te aw) H := by rw [show (rl2 te d L (z, fo)) = (fgM te (nI 0) ((d 0) - (nI 1)) (rl1 te L (z, fo))) from rfl]; exact hP
    have hD : va_D A (mow G ad ((rl2 te d L (z, fo)).1) ((rl2 te d L (z, fo)).2) sv d pa ke ik fa te aw) := by rw [show (rl2 te d L (z, fo)) = (fgM te (nI 0) ((d 0) - (nI 1)) (rl1 te L (z, fo))) from rfl]; exact hD
    refine lv_istore_n (lv' := [(1, .int (oN (fvM te ((rl1 te L (z, fo)).1)))), (0, .ref (ad 0))]) hx hb dX8_readsLink_33 rfl hl (by decide) rfl (fun ls hl => ?_)
    refine lv_aload_n hx hb dX8_readsLink_34 rfl (lv_at hl 1 rfl) ?_
    refine va_get (D := G.1) (ci := 7) (v := .int (nI (((rl2 te d L (z, fo)).1) 13))) (C := RX8) (T := TX8) (N := 17) hx hb hts inA8 hown hX.1 hP 0 rfl rfl 13 (by decide) (hts _ kw_693) (fun _ h9 => h9) rfl dX8_readsLink_35 ?_
    refine lv_iconst (v := (nI 5)) hx hb dX8_readsLink_38 (by decide) ?_
    refine nv_ne (x := ((rl2 te d L (z, fo)).1) 13) (y := 5) (tgt := 56) hx hb dX8_readsLink_39 (by decide) (by have := hY2.2.2.2.2.1; omega) (by decide) (fun c39 => ?_) (fun c39 => ?_)
    · refine lv_bipush (v := (-9)) hx hb dX8_readsLink_56 (by decide) ?_
      refine ti (y := (oN (fvM te (rl2 te d L (z, fo)).1))) (by rw [fvM, if_neg c39]; rfl) ?_
      refine lv_istore_n (lv' := [(2, .int (oN (fvM te (rl2 te d L (z, fo)).1))), (1, .int (oN (fvM te ((rl1 te L (z, fo)).1)))), (0, .ref (ad 0))]) hx hb dX8_readsLink_58 rfl hl (by decide) rfl (fun ls hl => ?_)
      refine lv_aload_n hx hb dX8_readsLink_59 rfl (lv_at hl 2 rfl) ?_
      refine lv_iload_n hx hb dX8_readsLink_60 rfl (lv_at hl 0 rfl) ?_
      refine lv_iconst (v := (nI 0)) hx hb dX8_readsLink_61 (by decide) ?_
      refine lv_aload_n hx hb dX8_readsLink_62 rfl (lv_at hl 2 rfl) ?_
      refine va_get (D := G.1) (ci := 7) (v := .ref (ad 2)) (C := RX8) (T := TX8) (N := 17) hx hb hts inA8 hown hX.1 hP 0 rfl rfl 2 (by decide) (hts _ kw_682) (fun _ h9 => h9) rfl dX8_readsLink_63 ?_
      refine lv_iconst (v := (nI 0)) hx hb dX8_readsLink_66 (by decide) ?_
      refine nv_aldI (f := d) (k := 0) hx hb hX hP 2 rfl (by omega) (by decide) dX8_readsLink_67 ?_
      refine lv_iconst (v := (nI 1)) hx hb dX8_readsLink_68 (by decide) ?_
      refine lv_isub hx hb dX8_readsLink_69 ?_
      refine ca_Si (rest := [.ref (ad 0)]) (wr := mow G ad ((rl2 te d L (z, fo)).1) ((rl2 te d L (z, fo)).2) sv d pa ke ik fa te aw) F hX (mX8_in l G (oN (fvM te (rl2 te d L (z, fo)).1)) (nI 0) ((d 0) - (nI 1))) (cA_S hts kw_738 kw_8 kw_736 kw_737 hdX8_in ⟨Nat.le_of_ble_eq_true rfl, Nat.le_of_ble_eq_true rfl⟩) rfl hl.1 rfl (Nat.le_of_ble_eq_true rfl) dX8_readsLink_70 ⟨Nat.le_of_ble_eq_true rfl, Nat.le_of_ble_eq_true rfl⟩ hP hD hS hA (List.Perm.refl _) (fun r70 u70 H locs hp70 hP hD hS => ?_)
      have hP : va_P G.1 vwCl (mow G ad ((rl2 te d L (z, fo)).1) ((rl2 te d L (z, fo)).2) sv d pa ke ik fa te aw) H := hP
      have hD : va_D A (mow G ad ((rl2 te d L (z, fo)).1) ((rl2 te d L (z, fo)).2) sv d pa ke ik fa te aw) := hD
      subst hp70
      refine bv_eq (b := decide ((nI 0) ≤ (oN (fvM te (rl2 te d L (z, fo)).1)) ∧ (oN (fvM te (rl2 te d L (z, fo)).1)) ≤ ((d 0) - (nI 1)))) (tgt := 94) hx hb dX8_readsLink_73 (by decide) (fun c73 => ?_) (fun c73 => ?_)
      · refine lv_iconst (v := (nI 0)) hx hb dX8_readsLink_94 (by decide) ?_
        refine ti (y := (bI (rlB te d L (z, fo)))) (by unfold rlB; rw [c73, Bool.false_and, Bool.false_and] <;> rfl) ?_
        refine ca_Vv (ci := 7) (q := (RX8, TX8, 17)) (rest := []) (wr := ([] : va_W)) F hX (mX8_takes l G ad ((rl2 te d L (z, fo)).1) ((rl2 te d L (z, fo)).2) sv d pa ke ik fa te aw (rlB te d L (z, fo)) hY2 hf2) (cA_V hts kw_770 kw_8 kw_767 kw_769 kp_24 hdX8_takes ⟨Nat.le_of_ble_eq_true rfl, Nat.le_of_ble_eq_true rfl⟩) rfl rfl rfl hl.1 rfl (Nat.le_of_ble_eq_true rfl) dX8_readsLink_95 ⟨Nat.le_of_ble_eq_true rfl, Nat.le_of_ble_eq_true rfl⟩ hP hD hS hA (pm_nil _) (fun u95 H locs hp95 hP hD hS => ?_)
        have hP : va_P G.1 vwCl (mow G ad ((tkM te (rlB te d L (z, fo)) (rl2 te d L (z, fo))).1) ((tkM te (rlB te d L (z, fo)) (rl2 te d L (z, fo))).2) sv d pa ke ik fa te aw) H := wp_pm (pm_nil _).symm hP
        have hD : va_D A (mow G ad ((tkM te (rlB te d L (z, fo)) (rl2 te d L (z, fo))).1) ((tkM te (rlB te d L (z, fo)) (rl2 te d L (z, fo))).2) sv d pa ke ik fa te aw) := wd_pm (pm_nil _).symm hD
        have hP : va_P G.1 vwCl (mow G ad ((rl3 te d L (z, fo)).1) ((rl3 te d L (z, fo)).2) sv d pa ke ik fa te aw) H := by rw [show (rl3 te d L (z, fo)) = (tkM te (rlB te d L (z, fo)) (rl2 te d L (z, fo))) from rfl]; exact hP
        have hD : va_D A (mow G ad ((rl3 te d L (z, fo)).1) ((rl3 te d L (z, fo)).2) sv d pa ke ik fa te aw) := by rw [show (rl3 te d L (z, fo)) = (tkM te (rlB te d L (z, fo)) (rl2 te d L (z, fo))) from rfl]; exact hD
        refine lv_aload_n hx hb dX8_readsLink_98 rfl (lv_at hl 2 rfl) ?_
        refine lv_iconst (v := (nI 1)) hx hb dX8_readsLink_99 (by decide) ?_
        refine lv_bipush (v := (nI 9)) hx hb dX8_readsLink_100 (by decide) ?_
        refine ca_Vi (ci := 7) (q := (RX8, TX8, 17)) (rest := []) (wr := ([] : va_W)) F hX (mX8_figure l G ad ((rl3 te d L (z, fo)).1) ((rl3 te d L (z, fo)).2) sv d pa ke ik fa te aw (nI 1) (nI 9) hY3 hf3) (cA_V hts kw_774 kw_8 kw_771 kw_773 kp_25 hdX8_figure ⟨Nat.le_of_ble_eq_true rfl, Nat.le_of_ble_eq_true rfl⟩) rfl rfl rfl hl.1 rfl (Nat.le_of_ble_eq_true rfl) dX8_readsLink_102 ⟨Nat.le_of_ble_eq_true rfl, Nat.le_of_ble_eq_true rfl⟩ hP hD hS hA (pm_nil _) (fun r102 u102 H locs hp102 hP hD hS => ?_)
        have hP : va_P G.1 vwCl (mow G ad ((fgM te (nI 1) (nI 9) (rl3 te d L (z, fo))).1) ((fgM te (nI 1) (nI 9) (rl3 te d L (z, fo))).2) sv d pa ke ik fa te aw) H := wp_pm (pm_nil _).symm hP
        have hD : va_D A (mow G ad ((fgM te (nI 1) (nI 9) (rl3 te d L (z, fo))).1) ((fgM te (nI 1) (nI 9) (rl3 te d L (z, fo))).2) sv d pa ke ik fa te aw) := wd_pm (pm_nil _).symm hD
        subst hp102
        have hP : va_P G.1 vwCl (mow G ad ((rl4 te d L (z, fo)).1) ((rl4 te d L (z, fo)).2) sv d pa ke ik fa te aw) H := by rw [show (rl4 te d L (z, fo)) = (fgM te (nI 1) (nI 9) (rl3 te d L (z, fo))) from rfl]; exact hP
        have hD : va_D A (mow G ad ((rl4 te d L (z, fo)).1) ((rl4 te d L (z, fo)).2) sv d pa ke ik fa te aw) := by rw [show (rl4 te d L (z, fo)) = (fgM te (nI 1) (nI 9) (rl3 te d L (z, fo))) from rfl]; exact hD
        refine lv_istore_n (lv' := [(3, .int (oN (fvM te ((rl3 te d L (z, fo)).1)))), (2, .int (oN (fvM te (rl2 te d L (z, fo)).1))), (1, .int (oN (fvM te ((rl1 te L (z, fo)).1)))), (0, .ref (ad 0))]) hx hb dX8_readsLink_105 rfl hl (by decide) rfl (fun ls hl => ?_)
        refine lv_aload_n hx hb dX8_readsLink_106 rfl (lv_at hl 3 rfl) ?_
        refine va_get (D := G.1) (ci := 7) (v := .int (oN ((rl4 te d L (z, fo)).2))) (C := RX8) (T := TX8) (N := 17) hx hb hts inA8 hown hX.1 hP 0 rfl rfl 14 (by decide) (hts _ kw_694) (fun _ h9 => h9) rfl dX8_readsLink_107 ?_
        rcases opt_c ((rl4 te d L (z, fo)).2) with hq | ⟨q, hq⟩
        · refine ti (y := -9) (by rw [hq]; rfl) ?_
          have h12 : L < 12 := (rl_on (q := (z, fo)) hY hq).2.1
          refine lv_bipush (v := (-9)) hx hb dX8_readsLink_110 (by decide) ?_
          refine lv_icmp_ne (x := (-9)) (y := (-9)) (tgt := 166) hx hb dX8_readsLink_112 (by decide) (fun h9 => absurd rfl h9) (fun _ => ?_)
          refine lv_aload_n hx hb dX8_readsLink_115 rfl (lv_at hl 3 rfl) ?_
          refine va_get (D := G.1) (ci := 7) (v := .ref (ad 2)) (C := RX8) (T := TX8) (N := 17) hx hb hts inA8 hown hX.1 hP 0 rfl rfl 2 (by decide) (hts _ kw_682) (fun _ h9 => h9) rfl dX8_readsLink_116 ?_
          refine lv_iconst (v := (nI 1)) hx hb dX8_readsLink_119 (by decide) ?_
          refine nv_aldI (f := d) (k := 1) hx hb hX hP 2 rfl (by omega) (by decide) dX8_readsLink_120 ?_
          refine ti (y := (nI L)) hd1 ?_
          refine lv_istore (lv' := [(4, .int (nI L)), (3, .int (oN (fvM te ((rl3 te d L (z, fo)).1)))), (2, .int (oN (fvM te (rl2 te d L (z, fo)).1))), (1, .int (oN (fvM te ((rl1 te L (z, fo)).1)))), (0, .ref (ad 0))]) hx hb dX8_readsLink_121 hl (by decide) rfl (fun ls hl => ?_)
          refine lv_aload_n hx hb dX8_readsLink_123 rfl (lv_at hl 4 rfl) ?_
          refine va_get (D := G.1) (ci := 7) (v := .ref (ad 2)) (C := RX8) (T := TX8) (N := 17) hx hb hts inA8 hown hX.1 hP 0 rfl rfl 2 (by decide) (hts _ kw_682) (fun _ h9 => h9) rfl dX8_readsLink_124 ?_
          refine lv_bipush (v := (nI 16)) hx hb dX8_readsLink_127 (by decide) ?_
          refine lv_iload hx hb dX8_readsLink_129 (lv_at hl 0 rfl) ?_
          refine lv_iadd hx hb dX8_readsLink_131 (ti (y := (nI (16 + L))) (nI_add _ _) ?_)
          refine lv_iload_n hx hb dX8_readsLink_132 rfl (lv_at hl 3 rfl) ?_
          refine nv_astI (f := d) (k := 16 + L) (v := (oN (fvM te ((rl1 te L (z, fo)).1)))) hx hb hX hP hD hS 2 rfl (by omega) (by decide) dX8_readsLink_133 (fun H locs hP hD hS => ?_)
          have hP : va_P G.1 vwCl (mow G ad ((rl4 te d L (z, fo)).1) ((rl4 te d L (z, fo)).2) sv (upd d (16 + L) (oN (fvM te ((rl1 te L (z, fo)).1)))) pa ke ik fa te aw) H := hP
          have hD : va_D A (mow G ad ((rl4 te d L (z, fo)).1) ((rl4 te d L (z, fo)).2) sv (upd d (16 + L) (oN (fvM te ((rl1 te L (z, fo)).1)))) pa ke ik fa te aw) := hD
          refine lv_aload_n hx hb dX8_readsLink_134 rfl (lv_at hl 4 rfl) ?_
          refine va_get (D := G.1) (ci := 7) (v := .ref (ad 2)) (C := RX8) (T := TX8) (N := 17) hx hb hts inA8 hown hX.1 hP 0 rfl rfl 2 (by decide) (hts _ kw_682) (fun _ h9 => h9) rfl dX8_readsLink_135 ?_
          refine lv_bipush (v := (nI 28)) hx hb dX8_readsLink_138 (by decide) ?_
          refine lv_iload hx hb dX8_readsLink_140 (lv_at hl 0 rfl) ?_
          refine lv_iadd hx hb dX8_readsLink_142 (ti (y := (nI (28 + L))) (nI_add _ _) ?_)
          refine lv_iload_n hx hb dX8_readsLink_143 rfl (lv_at hl 2 rfl) ?_
          refine nv_astI (f := upd d (16 + L) (oN (fvM te ((rl1 te L (z, fo)).1)))) (k := 28 + L) (v := (oN (fvM te (rl2 te d L (z, fo)).1))) hx hb hX hP hD hS 2 rfl (by omega) (by decide) dX8_readsLink_144 (fun H locs hP hD hS => ?_)
          have hP : va_P G.1 vwCl (mow G ad ((rl4 te d L (z, fo)).1) ((rl4 te d L (z, fo)).2) sv (upd (upd d (16 + L) (oN (fvM te ((rl1 te L (z, fo)).1)))) (28 + L) (oN (fvM te (rl2 te d L (z, fo)).1))) pa ke ik fa te aw) H := hP
          have hD : va_D A (mow G ad ((rl4 te d L (z, fo)).1) ((rl4 te d L (z, fo)).2) sv (upd (upd d (16 + L) (oN (fvM te ((rl1 te L (z, fo)).1)))) (28 + L) (oN (fvM te (rl2 te d L (z, fo)).1))) pa ke ik fa te aw) := hD
          refine lv_aload_n hx hb dX8_readsLink_145 rfl (lv_at hl 4 rfl) ?_
          refine va_get (D := G.1) (ci := 7) (v := .ref (ad 2)) (C := RX8) (T := TX8) (N := 17) hx hb hts inA8 hown hX.1 hP 0 rfl rfl 2 (by decide) (hts _ kw_682) (fun _ h9 => h9) rfl dX8_readsLink_146 ?_
          refine lv_bipush (v := (nI 40)) hx hb dX8_readsLink_149 (by decide) ?_
          refine lv_iload hx hb dX8_readsLink_151 (lv_at hl 0 rfl) ?_
          refine lv_iadd hx hb dX8_readsLink_153 (ti (y := (nI (40 + L))) (nI_add _ _) ?_)
          refine lv_iload_n hx hb dX8_readsLink_154 rfl (lv_at hl 1 rfl) ?_
          refine nv_astI (f := upd (upd d (16 + L) (oN (fvM te ((rl1 te L (z, fo)).1)))) (28 + L) (oN (fvM te (rl2 te d L (z, fo)).1))) (k := 40 + L) (v := (oN (fvM te ((rl3 te d L (z, fo)).1)))) hx hb hX hP hD hS 2 rfl (by omega) (by decide) dX8_readsLink_155 (fun H locs hP hD hS => ?_)
          have hP : va_P G.1 vwCl (mow G ad ((rl4 te d L (z, fo)).1) ((rl4 te d L (z, fo)).2) sv (upd (upd (upd d (16 + L) (oN (fvM te ((rl1 te L (z, fo)).1)))) (28 + L) (oN (fvM te (rl2 te d L (z, fo)).1))) (40 + L) (oN (fvM te ((rl3 te d L (z, fo)).1)))) pa ke ik fa te aw) H := hP
          have hD : va_D A (mow G ad ((rl4 te d L (z, fo)).1) ((rl4 te d L (z, fo)).2) sv (upd (upd (upd d (16 + L) (oN (fvM te ((rl1 te L (z, fo)).1)))) (28 + L) (oN (fvM te (rl2 te d L (z, fo)).1))) (40 + L) (oN (fvM te ((rl3 te d L (z, fo)).1)))) pa ke ik fa te aw) := hD
          refine lv_aload_n hx hb dX8_readsLink_156 rfl (lv_at hl 4 rfl) ?_
          refine va_get (D := G.1) (ci := 7) (v := .ref (ad 2)) (C := RX8) (T := TX8) (N := 17) hx hb hts inA8 hown hX.1 hP 0 rfl rfl 2 (by decide) (hts _ kw_682) (fun _ h9 => h9) rfl dX8_readsLink_157 ?_
          refine lv_iconst (v := (nI 1)) hx hb dX8_readsLink_160 (by decide) ?_
          refine lv_dup2_11 hx hb dX8_readsLink_161 rfl rfl ?_
          refine nv_aldI (f := upd (upd (upd d (16 + L) (oN (fvM te ((rl1 te L (z, fo)).1)))) (28 + L) (oN (fvM te (rl2 te d L (z, fo)).1))) (40 + L) (oN (fvM te ((rl3 te d L (z, fo)).1)))) (k := 1) hx hb hX hP 2 rfl (by omega) (by decide) dX8_readsLink_162 ?_
          refine ti (y := (nI L)) (by unfold upd; rw [if_neg (by omega), if_neg (by omega), if_neg (by omega)]; exact hd1) ?_
          refine lv_iconst (v := (nI 1)) hx hb dX8_readsLink_163 (by decide) ?_
          refine lv_iadd hx hb dX8_readsLink_164 (ti (y := (nI (L + 1))) (nI_add _ _) ?_)
          refine nv_astI (f := upd (upd (upd d (16 + L) (oN (fvM te ((rl1 te L (z, fo)).1)))) (28 + L) (oN (fvM te (rl2 te d L (z, fo)).1))) (40 + L) (oN (fvM te ((rl3 te d L (z, fo)).1)))) (k := 1) (v := (nI (L + 1))) hx hb hX hP hD hS 2 rfl (by omega) (by decide) dX8_readsLink_165 (fun H locs hP hD hS => ?_)
          have hP : va_P G.1 vwCl (mow G ad ((rl4 te d L (z, fo)).1) ((rl4 te d L (z, fo)).2) sv (upd (upd (upd (upd d (16 + L) (oN (fvM te ((rl1 te L (z, fo)).1)))) (28 + L) (oN (fvM te (rl2 te d L (z, fo)).1))) (40 + L) (oN (fvM te ((rl3 te d L (z, fo)).1)))) 1 (nI (L + 1))) pa ke ik fa te aw) H := hP
          have hD : va_D A (mow G ad ((rl4 te d L (z, fo)).1) ((rl4 te d L (z, fo)).2) sv (upd (upd (upd (upd d (16 + L) (oN (fvM te ((rl1 te L (z, fo)).1)))) (28 + L) (oN (fvM te (rl2 te d L (z, fo)).1))) (40 + L) (oN (fvM te ((rl3 te d L (z, fo)).1)))) 1 (nI (L + 1))) pa ke ik fa te aw) := hD
          have e8 : rlD te d L (z, fo) = upd (upd (upd (upd d (16 + L) (oN (fvM te ((rl1 te L (z, fo)).1)))) (28 + L) (oN (fvM te (rl2 te d L (z, fo)).1))) (40 + L) (oN (fvM te ((rl3 te d L (z, fo)).1)))) 1 (nI (L + 1)) := by unfold rlD; rw [if_pos hq]
          have hP : va_P G.1 vwCl (mow G ad ((rl4 te d L (z, fo)).1) ((rl4 te d L (z, fo)).2) sv (rlD te d L (z, fo)) pa ke ik fa te aw) H := by rw [e8]; exact hP
          have hD : va_D A (mow G ad ((rl4 te d L (z, fo)).1) ((rl4 te d L (z, fo)).2) sv (rlD te d L (z, fo)) pa ke ik fa te aw) := by rw [e8]; exact hD
          exact re_v hx hb hr hlocks hS () hP hD trivial dX8_readsLink_166
        · refine ti (y := nI q) (by rw [hq]; rfl) ?_
          have hq31 := hf4 q hq
          refine lv_bipush (v := (-9)) hx hb dX8_readsLink_110 (by decide) ?_
          refine lv_icmp_ne (x := (nI q)) (y := (-9)) (tgt := 166) hx hb dX8_readsLink_112 (by decide) (fun _ => ?_) (fun h9 => absurd h9 (nI_n9 (by omega)))
          have e8 : rlD te d L (z, fo) = d := by unfold rlD; rw [if_neg (by rw [hq]; exact fun h => by cases h)]
          have hP : va_P G.1 vwCl (mow G ad ((rl4 te d L (z, fo)).1) ((rl4 te d L (z, fo)).2) sv (rlD te d L (z, fo)) pa ke ik fa te aw) H := by rw [e8]; exact hP
          have hD : va_D A (mow G ad ((rl4 te d L (z, fo)).1) ((rl4 te d L (z, fo)).2) sv (rlD te d L (z, fo)) pa ke ik fa te aw) := by rw [e8]; exact hD
          exact re_v hx hb hr hlocks hS () hP hD trivial dX8_readsLink_166
      · refine lv_iload_n hx hb dX8_readsLink_76 rfl (lv_at hl 0 rfl) ?_
        refine lv_iload_n hx hb dX8_readsLink_77 rfl (lv_at hl 1 rfl) ?_
        refine lv_icmp_eq (x := (oN (fvM te (rl2 te d L (z, fo)).1))) (y := (oN (fvM te ((rl1 te L (z, fo)).1)))) (tgt := 94) hx hb dX8_readsLink_78 (by decide) (fun c78 => ?_) (fun c78 => ?_)
        · refine lv_iconst (v := (nI 0)) hx hb dX8_readsLink_94 (by decide) ?_
          refine ti (y := (bI (rlB te d L (z, fo)))) (by unfold rlB; rw [c73, decide_eq_true c78, Bool.not_true, Bool.and_false, Bool.false_and] <;> rfl) ?_
          refine ca_Vv (ci := 7) (q := (RX8, TX8, 17)) (rest := []) (wr := ([] : va_W)) F hX (mX8_takes l G ad ((rl2 te d L (z, fo)).1) ((rl2 te d L (z, fo)).2) sv d pa ke ik fa te aw (rlB te d L (z, fo)) hY2 hf2) (cA_V hts kw_770 kw_8 kw_767 kw_769 kp_24 hdX8_takes ⟨Nat.le_of_ble_eq_true rfl, Nat.le_of_ble_eq_true rfl⟩) rfl rfl rfl hl.1 rfl (Nat.le_of_ble_eq_true rfl) dX8_readsLink_95 ⟨Nat.le_of_ble_eq_true rfl, Nat.le_of_ble_eq_true rfl⟩ hP hD hS hA (pm_nil _) (fun u95 H locs hp95 hP hD hS => ?_)
          have hP : va_P G.1 vwCl (mow G ad ((tkM te (rlB te d L (z, fo)) (rl2 te d L (z, fo))).1) ((tkM te (rlB te d L (z, fo)) (rl2 te d L (z, fo))).2) sv d pa ke ik fa te aw) H := wp_pm (pm_nil _).symm hP
          have hD : va_D A (mow G ad ((tkM te (rlB te d L (z, fo)) (rl2 te d L (z, fo))).1) ((tkM te (rlB te d L (z, fo)) (rl2 te d L (z, fo))).2) sv d pa ke ik fa te aw) := wd_pm (pm_nil _).symm hD
          have hP : va_P G.1 vwCl (mow G ad ((rl3 te d L (z, fo)).1) ((rl3 te d L (z, fo)).2) sv d pa ke ik fa te aw) H := by rw [show (rl3 te d L (z, fo)) = (tkM te (rlB te d L (z, fo)) (rl2 te d L (z, fo))) from rfl]; exact hP
          have hD : va_D A (mow G ad ((rl3 te d L (z, fo)).1) ((rl3 te d L (z, fo)).2) sv d pa ke ik fa te aw) := by rw [show (rl3 te d L (z, fo)) = (tkM te (rlB te d L (z, fo)) (rl2 te d L (z, fo))) from rfl]; exact hD
          refine lv_aload_n hx hb dX8_readsLink_98 rfl (lv_at hl 2 rfl) ?_
          refine lv_iconst (v := (nI 1)) hx hb dX8_readsLink_99 (by decide) ?_
          refine lv_bipush (v := (nI 9)) hx hb dX8_readsLink_100 (by decide) ?_
          refine ca_Vi (ci := 7) (q := (RX8, TX8, 17)) (rest := []) (wr := ([] : va_W)) F hX (mX8_figure l G ad ((rl3 te d L (z, fo)).1) ((rl3 te d L (z, fo)).2) sv d pa ke ik fa te aw (nI 1) (nI 9) hY3 hf3) (cA_V hts kw_774 kw_8 kw_771 kw_773 kp_25 hdX8_figure ⟨Nat.le_of_ble_eq_true rfl, Nat.le_of_ble_eq_true rfl⟩) rfl rfl rfl hl.1 rfl (Nat.le_of_ble_eq_true rfl) dX8_readsLink_102 ⟨Nat.le_of_ble_eq_true rfl, Nat.le_of_ble_eq_true rfl⟩ hP hD hS hA (pm_nil _) (fun r102 u102 H locs hp102 hP hD hS => ?_)
          have hP : va_P G.1 vwCl (mow G ad ((fgM te (nI 1) (nI 9) (rl3 te d L (z, fo))).1) ((fgM te (nI 1) (nI 9) (rl3 te d L (z, fo))).2) sv d pa ke ik fa te aw) H := wp_pm (pm_nil _).symm hP
          have hD : va_D A (mow G ad ((fgM te (nI 1) (nI 9) (rl3 te d L (z, fo))).1) ((fgM te (nI 1) (nI 9) (rl3 te d L (z, fo))).2) sv d pa ke ik fa te aw) := wd_pm (pm_nil _).symm hD
          subst hp102
          have hP : va_P G.1 vwCl (mow G ad ((rl4 te d L (z, fo)).1) ((rl4 te d L (z, fo)).2) sv d pa ke ik fa te aw) H := by rw [show (rl4 te d L (z, fo)) = (fgM te (nI 1) (nI 9) (rl3 te d L (z, fo))) from rfl]; exact hP
          have hD : va_D A (mow G ad ((rl4 te d L (z, fo)).1) ((rl4 te d L (z, fo)).2) sv d pa ke ik fa te aw) := by rw [show (rl4 te d L (z, fo)) = (fgM te (nI 1) (nI 9) (rl3 te d L (z, fo))) from rfl]; exact hD
          refine lv_istore_n (lv' := [(3, .int (oN (fvM te ((rl3 te d L (z, fo)).1)))), (2, .int (oN (fvM te (rl2 te d L (z, fo)).1))), (1, .int (oN (fvM te ((rl1 te L (z, fo)).1)))), (0, .ref (ad 0))]) hx hb dX8_readsLink_105 rfl hl (by decide) rfl (fun ls hl => ?_)
          refine lv_aload_n hx hb dX8_readsLink_106 rfl (lv_at hl 3 rfl) ?_
          refine va_get (D := G.1) (ci := 7) (v := .int (oN ((rl4 te d L (z, fo)).2))) (C := RX8) (T := TX8) (N := 17) hx hb hts inA8 hown hX.1 hP 0 rfl rfl 14 (by decide) (hts _ kw_694) (fun _ h9 => h9) rfl dX8_readsLink_107 ?_
          rcases opt_c ((rl4 te d L (z, fo)).2) with hq | ⟨q, hq⟩
          · refine ti (y := -9) (by rw [hq]; rfl) ?_
            have h12 : L < 12 := (rl_on (q := (z, fo)) hY hq).2.1
            refine lv_bipush (v := (-9)) hx hb dX8_readsLink_110 (by decide) ?_
            refine lv_icmp_ne (x := (-9)) (y := (-9)) (tgt := 166) hx hb dX8_readsLink_112 (by decide) (fun h9 => absurd rfl h9) (fun _ => ?_)
            refine lv_aload_n hx hb dX8_readsLink_115 rfl (lv_at hl 3 rfl) ?_
            refine va_get (D := G.1) (ci := 7) (v := .ref (ad 2)) (C := RX8) (T := TX8) (N := 17) hx hb hts inA8 hown hX.1 hP 0 rfl rfl 2 (by decide) (hts _ kw_682) (fun _ h9 => h9) rfl dX8_readsLink_116 ?_
            refine lv_iconst (v := (nI 1)) hx hb dX8_readsLink_119 (by decide) ?_
            refine nv_aldI (f := d) (k := 1) hx hb hX hP 2 rfl (by omega) (by decide) dX8_readsLink_120 ?_
            refine ti (y := (nI L)) hd1 ?_
            refine lv_istore (lv' := [(4, .int (nI L)), (3, .int (oN (fvM te ((rl3 te d L (z, fo)).1)))), (2, .int (oN (fvM te (rl2 te d L (z, fo)).1))), (1, .int (oN (fvM te ((rl1 te L (z, fo)).1)))), (0, .ref (ad 0))]) hx hb dX8_readsLink_121 hl (by decide) rfl (fun ls hl => ?_)
            refine lv_aload_n hx hb dX8_readsLink_123 rfl (lv_at hl 4 rfl) ?_
            refine va_get (D := G.1) (ci := 7) (v := .ref (ad 2)) (C := RX8) (T := TX8) (N := 17) hx hb hts inA8 hown hX.1 hP 0 rfl rfl 2 (by decide) (hts _ kw_682) (fun _ h9 => h9) rfl dX8_readsLink_124 ?_
            refine lv_bipush (v := (nI 16)) hx hb dX8_readsLink_127 (by decide) ?_
            refine lv_iload hx hb dX8_readsLink_129 (lv_at hl 0 rfl) ?_
            refine lv_iadd hx hb dX8_readsLink_131 (ti (y := (nI (16 + L))) (nI_add _ _) ?_)
            refine lv_iload_n hx hb dX8_readsLink_132 rfl (lv_at hl 3 rfl) ?_
            refine nv_astI (f := d) (k := 16 + L) (v := (oN (fvM te ((rl1 te L (z, fo)).1)))) hx hb hX hP hD hS 2 rfl (by omega) (by decide) dX8_readsLink_133 (fun H locs hP hD hS => ?_)
            have hP : va_P G.1 vwCl (mow G ad ((rl4 te d L (z, fo)).1) ((rl4 te d L (z, fo)).2) sv (upd d (16 + L) (oN (fvM te ((rl1 te L (z, fo)).1)))) pa ke ik fa te aw) H := hP
            have hD : va_D A (mow G ad ((rl4 te d L (z, fo)).1) ((rl4 te d L (z, fo)).2) sv (upd d (16 + L) (oN (fvM te ((rl1 te L (z, fo)).1)))) pa ke ik fa te aw) := hD
            refine lv_aload_n hx hb dX8_readsLink_134 rfl (lv_at hl 4 rfl) ?_
            refine va_get (D := G.1) (ci := 7) (v := .ref (ad 2)) (C := RX8) (T := TX8) (N := 17) hx hb hts inA8 hown hX.1 hP 0 rfl rfl 2 (by decide) (hts _ kw_682) (fun _ h9 => h9) rfl dX8_readsLink_135 ?_
            refine lv_bipush (v := (nI 28)) hx hb dX8_readsLink_138 (by decide) ?_
            refine lv_iload hx hb dX8_readsLink_140 (lv_at hl 0 rfl) ?_
            refine lv_iadd hx hb dX8_readsLink_142 (ti (y := (nI (28 + L))) (nI_add _ _) ?_)
            refine lv_iload_n hx hb dX8_readsLink_143 rfl (lv_at hl 2 rfl) ?_
            refine nv_astI (f := upd d (16 + L) (oN (fvM te ((rl1 te L (z, fo)).1)))) (k := 28 + L) (v := (oN (fvM te (rl2 te d L (z, fo)).1))) hx hb hX hP hD hS 2 rfl (by omega) (by decide) dX8_readsLink_144 (fun H locs hP hD hS => ?_)
            have hP : va_P G.1 vwCl (mow G ad ((rl4 te d L (z, fo)).1) ((rl4 te d L (z, fo)).2) sv (upd (upd d (16 + L) (oN (fvM te ((rl1 te L (z, fo)).1)))) (28 + L) (oN (fvM te (rl2 te d L (z, fo)).1))) pa ke ik fa te aw) H := hP
            have hD : va_D A (mow G ad ((rl4 te d L (z, fo)).1) ((rl4 te d L (z, fo)).2) sv (upd (upd d (16 + L) (oN (fvM te ((rl1 te L (z, fo)).1)))) (28 + L) (oN (fvM te (rl2 te d L (z, fo)).1))) pa ke ik fa te aw) := hD
            refine lv_aload_n hx hb dX8_readsLink_145 rfl (lv_at hl 4 rfl) ?_
            refine va_get (D := G.1) (ci := 7) (v := .ref (ad 2)) (C := RX8) (T := TX8) (N := 17) hx hb hts inA8 hown hX.1 hP 0 rfl rfl 2 (by decide) (hts _ kw_682) (fun _ h9 => h9) rfl dX8_readsLink_146 ?_
            refine lv_bipush (v := (nI 40)) hx hb dX8_readsLink_149 (by decide) ?_
            refine lv_iload hx hb dX8_readsLink_151 (lv_at hl 0 rfl) ?_
            refine lv_iadd hx hb dX8_readsLink_153 (ti (y := (nI (40 + L))) (nI_add _ _) ?_)
            refine lv_iload_n hx hb dX8_readsLink_154 rfl (lv_at hl 1 rfl) ?_
            refine nv_astI (f := upd (upd d (16 + L) (oN (fvM te ((rl1 te L (z, fo)).1)))) (28 + L) (oN (fvM te (rl2 te d L (z, fo)).1))) (k := 40 + L) (v := (oN (fvM te ((rl3 te d L (z, fo)).1)))) hx hb hX hP hD hS 2 rfl (by omega) (by decide) dX8_readsLink_155 (fun H locs hP hD hS => ?_)
            have hP : va_P G.1 vwCl (mow G ad ((rl4 te d L (z, fo)).1) ((rl4 te d L (z, fo)).2) sv (upd (upd (upd d (16 + L) (oN (fvM te ((rl1 te L (z, fo)).1)))) (28 + L) (oN (fvM te (rl2 te d L (z, fo)).1))) (40 + L) (oN (fvM te ((rl3 te d L (z, fo)).1)))) pa ke ik fa te aw) H := hP
            have hD : va_D A (mow G ad ((rl4 te d L (z, fo)).1) ((rl4 te d L (z, fo)).2) sv (upd (upd (upd d (16 + L) (oN (fvM te ((rl1 te L (z, fo)).1)))) (28 + L) (oN (fvM te (rl2 te d L (z, fo)).1))) (40 + L) (oN (fvM te ((rl3 te d L (z, fo)).1)))) pa ke ik fa te aw) := hD
            refine lv_aload_n hx hb dX8_readsLink_156 rfl (lv_at hl 4 rfl) ?_
            refine va_get (D := G.1) (ci := 7) (v := .ref (ad 2)) (C := RX8) (T := TX8) (N := 17) hx hb hts inA8 hown hX.1 hP 0 rfl rfl 2 (by decide) (hts _ kw_682) (fun _ h9 => h9) rfl dX8_readsLink_157 ?_
            refine lv_iconst (v := (nI 1)) hx hb dX8_readsLink_160 (by decide) ?_
            refine lv_dup2_11 hx hb dX8_readsLink_161 rfl rfl ?_
            refine nv_aldI (f := upd (upd (upd d (16 + L) (oN (fvM te ((rl1 te L (z, fo)).1)))) (28 + L) (oN (fvM te (rl2 te d L (z, fo)).1))) (40 + L) (oN (fvM te ((rl3 te d L (z, fo)).1)))) (k := 1) hx hb hX hP 2 rfl (by omega) (by decide) dX8_readsLink_162 ?_
            refine ti (y := (nI L)) (by unfold upd; rw [if_neg (by omega), if_neg (by omega), if_neg (by omega)]; exact hd1) ?_
            refine lv_iconst (v := (nI 1)) hx hb dX8_readsLink_163 (by decide) ?_
            refine lv_iadd hx hb dX8_readsLink_164 (ti (y := (nI (L + 1))) (nI_add _ _) ?_)
            refine nv_astI (f := upd (upd (upd d (16 + L) (oN (fvM te ((rl1 te L (z, fo)).1)))) (28 + L) (oN (fvM te (rl2 te d L (z, fo)).1))) (40 + L) (oN (fvM te ((rl3 te d L (z, fo)).1)))) (k := 1) (v := (nI (L + 1))) hx hb hX hP hD hS 2 rfl (by omega) (by decide) dX8_readsLink_165 (fun H locs hP hD hS => ?_)
            have hP : va_P G.1 vwCl (mow G ad ((rl4 te d L (z, fo)).1) ((rl4 te d L (z, fo)).2) sv (upd (upd (upd (upd d (16 + L) (oN (fvM te ((rl1 te L (z, fo)).1)))) (28 + L) (oN (fvM te (rl2 te d L (z, fo)).1))) (40 + L) (oN (fvM te ((rl3 te d L (z, fo)).1)))) 1 (nI (L + 1))) pa ke ik fa te aw) H := hP
            have hD : va_D A (mow G ad ((rl4 te d L (z, fo)).1) ((rl4 te d L (z, fo)).2) sv (upd (upd (upd (upd d (16 + L) (oN (fvM te ((rl1 te L (z, fo)).1)))) (28 + L) (oN (fvM te (rl2 te d L (z, fo)).1))) (40 + L) (oN (fvM te ((rl3 te d L (z, fo)).1)))) 1 (nI (L + 1))) pa ke ik fa te aw) := hD
            have e8 : rlD te d L (z, fo) = upd (upd (upd (upd d (16 + L) (oN (fvM te ((rl1 te L (z, fo)).1)))) (28 + L) (oN (fvM te (rl2 te d L (z, fo)).1))) (40 + L) (oN (fvM te ((rl3 te d L (z, fo)).1)))) 1 (nI (L + 1)) := by unfold rlD; rw [if_pos hq]
            have hP : va_P G.1 vwCl (mow G ad ((rl4 te d L (z, fo)).1) ((rl4 te d L (z, fo)).2) sv (rlD te d L (z, fo)) pa ke ik fa te aw) H := by rw [e8]; exact hP
            have hD : va_D A (mow G ad ((rl4 te d L (z, fo)).1) ((rl4 te d L (z, fo)).2) sv (rlD te d L (z, fo)) pa ke ik fa te aw) := by rw [e8]; exact hD
            exact re_v hx hb hr hlocks hS () hP hD trivial dX8_readsLink_166
          · refine ti (y := nI q) (by rw [hq]; rfl) ?_
            have hq31 := hf4 q hq
            refine lv_bipush (v := (-9)) hx hb dX8_readsLink_110 (by decide) ?_
            refine lv_icmp_ne (x := (nI q)) (y := (-9)) (tgt := 166) hx hb dX8_readsLink_112 (by decide) (fun _ => ?_) (fun h9 => absurd h9 (nI_n9 (by omega)))
            have e8 : rlD te d L (z, fo) = d := by unfold rlD; rw [if_neg (by rw [hq]; exact fun h => by cases h)]
            have hP : va_P G.1 vwCl (mow G ad ((rl4 te d L (z, fo)).1) ((rl4 te d L (z, fo)).2) sv (rlD te d L (z, fo)) pa ke ik fa te aw) H := by rw [e8]; exact hP
            have hD : va_D A (mow G ad ((rl4 te d L (z, fo)).1) ((rl4 te d L (z, fo)).2) sv (rlD te d L (z, fo)) pa ke ik fa te aw) := by rw [e8]; exact hD
            exact re_v hx hb hr hlocks hS () hP hD trivial dX8_readsLink_166
        · refine lv_aload_n hx hb dX8_readsLink_81 rfl (lv_at hl 2 rfl) ?_
          refine lv_iload_n hx hb dX8_readsLink_82 rfl (lv_at hl 1 rfl) ?_
          refine lv_iload_n hx hb dX8_readsLink_83 rfl (lv_at hl 0 rfl) ?_
          refine ca_Vi (ci := 7) (q := (RX8, TX8, 17)) (rest := [.ref (ad 0)]) (wr := ([] : va_W)) F hX (mX8_areLinked l G ad ((rl2 te d L (z, fo)).1) ((rl2 te d L (z, fo)).2) sv d pa ke ik fa te aw (oN (fvM te ((rl1 te L (z, fo)).1))) (oN (fvM te (rl2 te d L (z, fo)).1)) L hL hd1) (cA_V hts kw_782 kw_8 kw_779 kw_781 kp_27 hdX8_areLinked ⟨Nat.le_of_ble_eq_true rfl, Nat.le_of_ble_eq_true rfl⟩) rfl rfl rfl hl.1 rfl (Nat.le_of_ble_eq_true rfl) dX8_readsLink_84 ⟨Nat.le_of_ble_eq_true rfl, Nat.le_of_ble_eq_true rfl⟩ hP hD hS hA (pm_nil _) (fun r84 u84 H locs hp84 hP hD hS => ?_)
          have hP : va_P G.1 vwCl (mow G ad ((rl2 te d L (z, fo)).1) ((rl2 te d L (z, fo)).2) sv d pa ke ik fa te aw) H := wp_pm (pm_nil _).symm hP
          have hD : va_D A (mow G ad ((rl2 te d L (z, fo)).1) ((rl2 te d L (z, fo)).2) sv d pa ke ik fa te aw) := wd_pm (pm_nil _).symm hD
          subst hp84
          refine bv_ne (b := alB d (oN (fvM te ((rl1 te L (z, fo)).1))) (oN (fvM te (rl2 te d L (z, fo)).1)) L) (tgt := 94) hx hb dX8_readsLink_87 (by decide) (fun c87 => ?_) (fun c87 => ?_)
          · refine lv_iconst (v := (nI 0)) hx hb dX8_readsLink_94 (by decide) ?_
            refine ti (y := (bI (rlB te d L (z, fo)))) (by unfold rlB; rw [c73, decide_eq_false c78, c87] <;> rfl) ?_
            refine ca_Vv (ci := 7) (q := (RX8, TX8, 17)) (rest := []) (wr := ([] : va_W)) F hX (mX8_takes l G ad ((rl2 te d L (z, fo)).1) ((rl2 te d L (z, fo)).2) sv d pa ke ik fa te aw (rlB te d L (z, fo)) hY2 hf2) (cA_V hts kw_770 kw_8 kw_767 kw_769 kp_24 hdX8_takes ⟨Nat.le_of_ble_eq_true rfl, Nat.le_of_ble_eq_true rfl⟩) rfl rfl rfl hl.1 rfl (Nat.le_of_ble_eq_true rfl) dX8_readsLink_95 ⟨Nat.le_of_ble_eq_true rfl, Nat.le_of_ble_eq_true rfl⟩ hP hD hS hA (pm_nil _) (fun u95 H locs hp95 hP hD hS => ?_)
            have hP : va_P G.1 vwCl (mow G ad ((tkM te (rlB te d L (z, fo)) (rl2 te d L (z, fo))).1) ((tkM te (rlB te d L (z, fo)) (rl2 te d L (z, fo))).2) sv d pa ke ik fa te aw) H := wp_pm (pm_nil _).symm hP
            have hD : va_D A (mow G ad ((tkM te (rlB te d L (z, fo)) (rl2 te d L (z, fo))).1) ((tkM te (rlB te d L (z, fo)) (rl2 te d L (z, fo))).2) sv d pa ke ik fa te aw) := wd_pm (pm_nil _).symm hD
            have hP : va_P G.1 vwCl (mow G ad ((rl3 te d L (z, fo)).1) ((rl3 te d L (z, fo)).2) sv d pa ke ik fa te aw) H := by rw [show (rl3 te d L (z, fo)) = (tkM te (rlB te d L (z, fo)) (rl2 te d L (z, fo))) from rfl]; exact hP
            have hD : va_D A (mow G ad ((rl3 te d L (z, fo)).1) ((rl3 te d L (z, fo)).2) sv d pa ke ik fa te aw) := by rw [show (rl3 te d L (z, fo)) = (tkM te (rlB te d L (z, fo)) (rl2 te d L (z, fo))) from rfl]; exact hD
            refine lv_aload_n hx hb dX8_readsLink_98 rfl (lv_at hl 2 rfl) ?_
            refine lv_iconst (v := (nI 1)) hx hb dX8_readsLink_99 (by decide) ?_
            refine lv_bipush (v := (nI 9)) hx hb dX8_readsLink_100 (by decide) ?_
            refine ca_Vi (ci := 7) (q := (RX8, TX8, 17)) (rest := []) (wr := ([] : va_W)) F hX (mX8_figure l G ad ((rl3 te d L (z, fo)).1) ((rl3 te d L (z, fo)).2) sv d pa ke ik fa te aw (nI 1) (nI 9) hY3 hf3) (cA_V hts kw_774 kw_8 kw_771 kw_773 kp_25 hdX8_figure ⟨Nat.le_of_ble_eq_true rfl, Nat.le_of_ble_eq_true rfl⟩) rfl rfl rfl hl.1 rfl (Nat.le_of_ble_eq_true rfl) dX8_readsLink_102 ⟨Nat.le_of_ble_eq_true rfl, Nat.le_of_ble_eq_true rfl⟩ hP hD hS hA (pm_nil _) (fun r102 u102 H locs hp102 hP hD hS => ?_)
            have hP : va_P G.1 vwCl (mow G ad ((fgM te (nI 1) (nI 9) (rl3 te d L (z, fo))).1) ((fgM te (nI 1) (nI 9) (rl3 te d L (z, fo))).2) sv d pa ke ik fa te aw) H := wp_pm (pm_nil _).symm hP
            have hD : va_D A (mow G ad ((fgM te (nI 1) (nI 9) (rl3 te d L (z, fo))).1) ((fgM te (nI 1) (nI 9) (rl3 te d L (z, fo))).2) sv d pa ke ik fa te aw) := wd_pm (pm_nil _).symm hD
            subst hp102
            have hP : va_P G.1 vwCl (mow G ad ((rl4 te d L (z, fo)).1) ((rl4 te d L (z, fo)).2) sv d pa ke ik fa te aw) H := by rw [show (rl4 te d L (z, fo)) = (fgM te (nI 1) (nI 9) (rl3 te d L (z, fo))) from rfl]; exact hP
            have hD : va_D A (mow G ad ((rl4 te d L (z, fo)).1) ((rl4 te d L (z, fo)).2) sv d pa ke ik fa te aw) := by rw [show (rl4 te d L (z, fo)) = (fgM te (nI 1) (nI 9) (rl3 te d L (z, fo))) from rfl]; exact hD
            refine lv_istore_n (lv' := [(3, .int (oN (fvM te ((rl3 te d L (z, fo)).1)))), (2, .int (oN (fvM te (rl2 te d L (z, fo)).1))), (1, .int (oN (fvM te ((rl1 te L (z, fo)).1)))), (0, .ref (ad 0))]) hx hb dX8_readsLink_105 rfl hl (by decide) rfl (fun ls hl => ?_)
            refine lv_aload_n hx hb dX8_readsLink_106 rfl (lv_at hl 3 rfl) ?_
            refine va_get (D := G.1) (ci := 7) (v := .int (oN ((rl4 te d L (z, fo)).2))) (C := RX8) (T := TX8) (N := 17) hx hb hts inA8 hown hX.1 hP 0 rfl rfl 14 (by decide) (hts _ kw_694) (fun _ h9 => h9) rfl dX8_readsLink_107 ?_
            rcases opt_c ((rl4 te d L (z, fo)).2) with hq | ⟨q, hq⟩
            · refine ti (y := -9) (by rw [hq]; rfl) ?_
              have h12 : L < 12 := (rl_on (q := (z, fo)) hY hq).2.1
              refine lv_bipush (v := (-9)) hx hb dX8_readsLink_110 (by decide) ?_
              refine lv_icmp_ne (x := (-9)) (y := (-9)) (tgt := 166) hx hb dX8_readsLink_112 (by decide) (fun h9 => absurd rfl h9) (fun _ => ?_)
              refine lv_aload_n hx hb dX8_readsLink_115 rfl (lv_at hl 3 rfl) ?_
              refine va_get (D := G.1) (ci := 7) (v := .ref (ad 2)) (C := RX8) (T := TX8) (N := 17) hx hb hts inA8 hown hX.1 hP 0 rfl rfl 2 (by decide) (hts _ kw_682) (fun _ h9 => h9) rfl dX8_readsLink_116 ?_
              refine lv_iconst (v := (nI 1)) hx hb dX8_readsLink_119 (by decide) ?_
              refine nv_aldI (f := d) (k := 1) hx hb hX hP 2 rfl (by omega) (by decide) dX8_readsLink_120 ?_
              refine ti (y := (nI L)) hd1 ?_
              refine lv_istore (lv' := [(4, .int (nI L)), (3, .int (oN (fvM te ((rl3 te d L (z, fo)).1)))), (2, .int (oN (fvM te (rl2 te d L (z, fo)).1))), (1, .int (oN (fvM te ((rl1 te L (z, fo)).1)))), (0, .ref (ad 0))]) hx hb dX8_readsLink_121 hl (by decide) rfl (fun ls hl => ?_)
              refine lv_aload_n hx hb dX8_readsLink_123 rfl (lv_at hl 4 rfl) ?_
              refine va_get (D := G.1) (ci := 7) (v := .ref (ad 2)) (C := RX8) (T := TX8) (N := 17) hx hb hts inA8 hown hX.1 hP 0 rfl rfl 2 (by decide) (hts _ kw_682) (fun _ h9 => h9) rfl dX8_readsLink_124 ?_
              refine lv_bipush (v := (nI 16)) hx hb dX8_readsLink_127 (by decide) ?_
              refine lv_iload hx hb dX8_readsLink_129 (lv_at hl 0 rfl) ?_
              refine lv_iadd hx hb dX8_readsLink_131 (ti (y := (nI (16 + L))) (nI_add _ _) ?_)
              refine lv_iload_n hx hb dX8_readsLink_132 rfl (lv_at hl 3 rfl) ?_
              refine nv_astI (f := d) (k := 16 + L) (v := (oN (fvM te ((rl1 te L (z, fo)).1)))) hx hb hX hP hD hS 2 rfl (by omega) (by decide) dX8_readsLink_133 (fun H locs hP hD hS => ?_)
              have hP : va_P G.1 vwCl (mow G ad ((rl4 te d L (z, fo)).1) ((rl4 te d L (z, fo)).2) sv (upd d (16 + L) (oN (fvM te ((rl1 te L (z, fo)).1)))) pa ke ik fa te aw) H := hP
              have hD : va_D A (mow G ad ((rl4 te d L (z, fo)).1) ((rl4 te d L (z, fo)).2) sv (upd d (16 + L) (oN (fvM te ((rl1 te L (z, fo)).1)))) pa ke ik fa te aw) := hD
              refine lv_aload_n hx hb dX8_readsLink_134 rfl (lv_at hl 4 rfl) ?_
              refine va_get (D := G.1) (ci := 7) (v := .ref (ad 2)) (C := RX8) (T := TX8) (N := 17) hx hb hts inA8 hown hX.1 hP 0 rfl rfl 2 (by decide) (hts _ kw_682) (fun _ h9 => h9) rfl dX8_readsLink_135 ?_
              refine lv_bipush (v := (nI 28)) hx hb dX8_readsLink_138 (by decide) ?_
              refine lv_iload hx hb dX8_readsLink_140 (lv_at hl 0 rfl) ?_
              refine lv_iadd hx hb dX8_readsLink_142 (ti (y := (nI (28 + L))) (nI_add _ _) ?_)
              refine lv_iload_n hx hb dX8_readsLink_143 rfl (lv_at hl 2 rfl) ?_
              refine nv_astI (f := upd d (16 + L) (oN (fvM te ((rl1 te L (z, fo)).1)))) (k := 28 + L) (v := (oN (fvM te (rl2 te d L (z, fo)).1))) hx hb hX hP hD hS 2 rfl (by omega) (by decide) dX8_readsLink_144 (fun H locs hP hD hS => ?_)
              have hP : va_P G.1 vwCl (mow G ad ((rl4 te d L (z, fo)).1) ((rl4 te d L (z, fo)).2) sv (upd (upd d (16 + L) (oN (fvM te ((rl1 te L (z, fo)).1)))) (28 + L) (oN (fvM te (rl2 te d L (z, fo)).1))) pa ke ik fa te aw) H := hP
              have hD : va_D A (mow G ad ((rl4 te d L (z, fo)).1) ((rl4 te d L (z, fo)).2) sv (upd (upd d (16 + L) (oN (fvM te ((rl1 te L (z, fo)).1)))) (28 + L) (oN (fvM te (rl2 te d L (z, fo)).1))) pa ke ik fa te aw) := hD
              refine lv_aload_n hx hb dX8_readsLink_145 rfl (lv_at hl 4 rfl) ?_
              refine va_get (D := G.1) (ci := 7) (v := .ref (ad 2)) (C := RX8) (T := TX8) (N := 17) hx hb hts inA8 hown hX.1 hP 0 rfl rfl 2 (by decide) (hts _ kw_682) (fun _ h9 => h9) rfl dX8_readsLink_146 ?_
              refine lv_bipush (v := (nI 40)) hx hb dX8_readsLink_149 (by decide) ?_
              refine lv_iload hx hb dX8_readsLink_151 (lv_at hl 0 rfl) ?_
              refine lv_iadd hx hb dX8_readsLink_153 (ti (y := (nI (40 + L))) (nI_add _ _) ?_)
              refine lv_iload_n hx hb dX8_readsLink_154 rfl (lv_at hl 1 rfl) ?_
              refine nv_astI (f := upd (upd d (16 + L) (oN (fvM te ((rl1 te L (z, fo)).1)))) (28 + L) (oN (fvM te (rl2 te d L (z, fo)).1))) (k := 40 + L) (v := (oN (fvM te ((rl3 te d L (z, fo)).1)))) hx hb hX hP hD hS 2 rfl (by omega) (by decide) dX8_readsLink_155 (fun H locs hP hD hS => ?_)
              have hP : va_P G.1 vwCl (mow G ad ((rl4 te d L (z, fo)).1) ((rl4 te d L (z, fo)).2) sv (upd (upd (upd d (16 + L) (oN (fvM te ((rl1 te L (z, fo)).1)))) (28 + L) (oN (fvM te (rl2 te d L (z, fo)).1))) (40 + L) (oN (fvM te ((rl3 te d L (z, fo)).1)))) pa ke ik fa te aw) H := hP
              have hD : va_D A (mow G ad ((rl4 te d L (z, fo)).1) ((rl4 te d L (z, fo)).2) sv (upd (upd (upd d (16 + L) (oN (fvM te ((rl1 te L (z, fo)).1)))) (28 + L) (oN (fvM te (rl2 te d L (z, fo)).1))) (40 + L) (oN (fvM te ((rl3 te d L (z, fo)).1)))) pa ke ik fa te aw) := hD
              refine lv_aload_n hx hb dX8_readsLink_156 rfl (lv_at hl 4 rfl) ?_
              refine va_get (D := G.1) (ci := 7) (v := .ref (ad 2)) (C := RX8) (T := TX8) (N := 17) hx hb hts inA8 hown hX.1 hP 0 rfl rfl 2 (by decide) (hts _ kw_682) (fun _ h9 => h9) rfl dX8_readsLink_157 ?_
              refine lv_iconst (v := (nI 1)) hx hb dX8_readsLink_160 (by decide) ?_
              refine lv_dup2_11 hx hb dX8_readsLink_161 rfl rfl ?_
              refine nv_aldI (f := upd (upd (upd d (16 + L) (oN (fvM te ((rl1 te L (z, fo)).1)))) (28 + L) (oN (fvM te (rl2 te d L (z, fo)).1))) (40 + L) (oN (fvM te ((rl3 te d L (z, fo)).1)))) (k := 1) hx hb hX hP 2 rfl (by omega) (by decide) dX8_readsLink_162 ?_
              refine ti (y := (nI L)) (by unfold upd; rw [if_neg (by omega), if_neg (by omega), if_neg (by omega)]; exact hd1) ?_
              refine lv_iconst (v := (nI 1)) hx hb dX8_readsLink_163 (by decide) ?_
              refine lv_iadd hx hb dX8_readsLink_164 (ti (y := (nI (L + 1))) (nI_add _ _) ?_)
              refine nv_astI (f := upd (upd (upd d (16 + L) (oN (fvM te ((rl1 te L (z, fo)).1)))) (28 + L) (oN (fvM te (rl2 te d L (z, fo)).1))) (40 + L) (oN (fvM te ((rl3 te d L (z, fo)).1)))) (k := 1) (v := (nI (L + 1))) hx hb hX hP hD hS 2 rfl (by omega) (by decide) dX8_readsLink_165 (fun H locs hP hD hS => ?_)
              have hP : va_P G.1 vwCl (mow G ad ((rl4 te d L (z, fo)).1) ((rl4 te d L (z, fo)).2) sv (upd (upd (upd (upd d (16 + L) (oN (fvM te ((rl1 te L (z, fo)).1)))) (28 + L) (oN (fvM te (rl2 te d L (z, fo)).1))) (40 + L) (oN (fvM te ((rl3 te d L (z, fo)).1)))) 1 (nI (L + 1))) pa ke ik fa te aw) H := hP
              have hD : va_D A (mow G ad ((rl4 te d L (z, fo)).1) ((rl4 te d L (z, fo)).2) sv (upd (upd (upd (upd d (16 + L) (oN (fvM te ((rl1 te L (z, fo)).1)))) (28 + L) (oN (fvM te (rl2 te d L (z, fo)).1))) (40 + L) (oN (fvM te ((rl3 te d L (z, fo)).1)))) 1 (nI (L + 1))) pa ke ik fa te aw) := hD
              have e8 : rlD te d L (z, fo) = upd (upd (upd (upd d (16 + L) (oN (fvM te ((rl1 te L (z, fo)).1)))) (28 + L) (oN (fvM te (rl2 te d L (z, fo)).1))) (40 + L) (oN (fvM te ((rl3 te d L (z, fo)).1)))) 1 (nI (L + 1)) := by unfold rlD; rw [if_pos hq]
              have hP : va_P G.1 vwCl (mow G ad ((rl4 te d L (z, fo)).1) ((rl4 te d L (z, fo)).2) sv (rlD te d L (z, fo)) pa ke ik fa te aw) H := by rw [e8]; exact hP
              have hD : va_D A (mow G ad ((rl4 te d L (z, fo)).1) ((rl4 te d L (z, fo)).2) sv (rlD te d L (z, fo)) pa ke ik fa te aw) := by rw [e8]; exact hD
              exact re_v hx hb hr hlocks hS () hP hD trivial dX8_readsLink_166
            · refine ti (y := nI q) (by rw [hq]; rfl) ?_
              have hq31 := hf4 q hq
              refine lv_bipush (v := (-9)) hx hb dX8_readsLink_110 (by decide) ?_
              refine lv_icmp_ne (x := (nI q)) (y := (-9)) (tgt := 166) hx hb dX8_readsLink_112 (by decide) (fun _ => ?_) (fun h9 => absurd h9 (nI_n9 (by omega)))
              have e8 : rlD te d L (z, fo) = d := by unfold rlD; rw [if_neg (by rw [hq]; exact fun h => by cases h)]
              have hP : va_P G.1 vwCl (mow G ad ((rl4 te d L (z, fo)).1) ((rl4 te d L (z, fo)).2) sv (rlD te d L (z, fo)) pa ke ik fa te aw) H := by rw [e8]; exact hP
              have hD : va_D A (mow G ad ((rl4 te d L (z, fo)).1) ((rl4 te d L (z, fo)).2) sv (rlD te d L (z, fo)) pa ke ik fa te aw) := by rw [e8]; exact hD
              exact re_v hx hb hr hlocks hS () hP hD trivial dX8_readsLink_166
          · refine lv_iconst (v := (nI 1)) hx hb dX8_readsLink_90 (by decide) ?_
            refine lv_goto (tgt := 95) hx hb dX8_readsLink_91 (by decide) ?_
            refine ti (y := (bI (rlB te d L (z, fo)))) (by unfold rlB; rw [c73, decide_eq_false c78, c87] <;> rfl) ?_
            refine ca_Vv (ci := 7) (q := (RX8, TX8, 17)) (rest := []) (wr := ([] : va_W)) F hX (mX8_takes l G ad ((rl2 te d L (z, fo)).1) ((rl2 te d L (z, fo)).2) sv d pa ke ik fa te aw (rlB te d L (z, fo)) hY2 hf2) (cA_V hts kw_770 kw_8 kw_767 kw_769 kp_24 hdX8_takes ⟨Nat.le_of_ble_eq_true rfl, Nat.le_of_ble_eq_true rfl⟩) rfl rfl rfl hl.1 rfl (Nat.le_of_ble_eq_true rfl) dX8_readsLink_95 ⟨Nat.le_of_ble_eq_true rfl, Nat.le_of_ble_eq_true rfl⟩ hP hD hS hA (pm_nil _) (fun u95 H locs hp95 hP hD hS => ?_)
            have hP : va_P G.1 vwCl (mow G ad ((tkM te (rlB te d L (z, fo)) (rl2 te d L (z, fo))).1) ((tkM te (rlB te d L (z, fo)) (rl2 te d L (z, fo))).2) sv d pa ke ik fa te aw) H := wp_pm (pm_nil _).symm hP
            have hD : va_D A (mow G ad ((tkM te (rlB te d L (z, fo)) (rl2 te d L (z, fo))).1) ((tkM te (rlB te d L (z, fo)) (rl2 te d L (z, fo))).2) sv d pa ke ik fa te aw) := wd_pm (pm_nil _).symm hD
            have hP : va_P G.1 vwCl (mow G ad ((rl3 te d L (z, fo)).1) ((rl3 te d L (z, fo)).2) sv d pa ke ik fa te aw) H := by rw [show (rl3 te d L (z, fo)) = (tkM te (rlB te d L (z, fo)) (rl2 te d L (z, fo))) from rfl]; exact hP
            have hD : va_D A (mow G ad ((rl3 te d L (z, fo)).1) ((rl3 te d L (z, fo)).2) sv d pa ke ik fa te aw) := by rw [show (rl3 te d L (z, fo)) = (tkM te (rlB te d L (z, fo)) (rl2 te d L (z, fo))) from rfl]; exact hD
            refine lv_aload_n hx hb dX8_readsLink_98 rfl (lv_at hl 2 rfl) ?_
            refine lv_iconst (v := (nI 1)) hx hb dX8_readsLink_99 (by decide) ?_
            refine lv_bipush (v := (nI 9)) hx hb dX8_readsLink_100 (by decide) ?_
            refine ca_Vi (ci := 7) (q := (RX8, TX8, 17)) (rest := []) (wr := ([] : va_W)) F hX (mX8_figure l G ad ((rl3 te d L (z, fo)).1) ((rl3 te d L (z, fo)).2) sv d pa ke ik fa te aw (nI 1) (nI 9) hY3 hf3) (cA_V hts kw_774 kw_8 kw_771 kw_773 kp_25 hdX8_figure ⟨Nat.le_of_ble_eq_true rfl, Nat.le_of_ble_eq_true rfl⟩) rfl rfl rfl hl.1 rfl (Nat.le_of_ble_eq_true rfl) dX8_readsLink_102 ⟨Nat.le_of_ble_eq_true rfl, Nat.le_of_ble_eq_true rfl⟩ hP hD hS hA (pm_nil _) (fun r102 u102 H locs hp102 hP hD hS => ?_)
            have hP : va_P G.1 vwCl (mow G ad ((fgM te (nI 1) (nI 9) (rl3 te d L (z, fo))).1) ((fgM te (nI 1) (nI 9) (rl3 te d L (z, fo))).2) sv d pa ke ik fa te aw) H := wp_pm (pm_nil _).symm hP
            have hD : va_D A (mow G ad ((fgM te (nI 1) (nI 9) (rl3 te d L (z, fo))).1) ((fgM te (nI 1) (nI 9) (rl3 te d L (z, fo))).2) sv d pa ke ik fa te aw) := wd_pm (pm_nil _).symm hD
            subst hp102
            have hP : va_P G.1 vwCl (mow G ad ((rl4 te d L (z, fo)).1) ((rl4 te d L (z, fo)).2) sv d pa ke ik fa te aw) H := by rw [show (rl4 te d L (z, fo)) = (fgM te (nI 1) (nI 9) (rl3 te d L (z, fo))) from rfl]; exact hP
            have hD : va_D A (mow G ad ((rl4 te d L (z, fo)).1) ((rl4 te d L (z, fo)).2) sv d pa ke ik fa te aw) := by rw [show (rl4 te d L (z, fo)) = (fgM te (nI 1) (nI 9) (rl3 te d L (z, fo))) from rfl]; exact hD
            refine lv_istore_n (lv' := [(3, .int (oN (fvM te ((rl3 te d L (z, fo)).1)))), (2, .int (oN (fvM te (rl2 te d L (z, fo)).1))), (1, .int (oN (fvM te ((rl1 te L (z, fo)).1)))), (0, .ref (ad 0))]) hx hb dX8_readsLink_105 rfl hl (by decide) rfl (fun ls hl => ?_)
            refine lv_aload_n hx hb dX8_readsLink_106 rfl (lv_at hl 3 rfl) ?_
            refine va_get (D := G.1) (ci := 7) (v := .int (oN ((rl4 te d L (z, fo)).2))) (C := RX8) (T := TX8) (N := 17) hx hb hts inA8 hown hX.1 hP 0 rfl rfl 14 (by decide) (hts _ kw_694) (fun _ h9 => h9) rfl dX8_readsLink_107 ?_
            rcases opt_c ((rl4 te d L (z, fo)).2) with hq | ⟨q, hq⟩
            · refine ti (y := -9) (by rw [hq]; rfl) ?_
              have h12 : L < 12 := (rl_on (q := (z, fo)) hY hq).2.1
              refine lv_bipush (v := (-9)) hx hb dX8_readsLink_110 (by decide) ?_
              refine lv_icmp_ne (x := (-9)) (y := (-9)) (tgt := 166) hx hb dX8_readsLink_112 (by decide) (fun h9 => absurd rfl h9) (fun _ => ?_)
              refine lv_aload_n hx hb dX8_readsLink_115 rfl (lv_at hl 3 rfl) ?_
              refine va_get (D := G.1) (ci := 7) (v := .ref (ad 2)) (C := RX8) (T := TX8) (N := 17) hx hb hts inA8 hown hX.1 hP 0 rfl rfl 2 (by decide) (hts _ kw_682) (fun _ h9 => h9) rfl dX8_readsLink_116 ?_
              refine lv_iconst (v := (nI 1)) hx hb dX8_readsLink_119 (by decide) ?_
              refine nv_aldI (f := d) (k := 1) hx hb hX hP 2 rfl (by omega) (by decide) dX8_readsLink_120 ?_
              refine ti (y := (nI L)) hd1 ?_
              refine lv_istore (lv' := [(4, .int (nI L)), (3, .int (oN (fvM te ((rl3 te d L (z, fo)).1)))), (2, .int (oN (fvM te (rl2 te d L (z, fo)).1))), (1, .int (oN (fvM te ((rl1 te L (z, fo)).1)))), (0, .ref (ad 0))]) hx hb dX8_readsLink_121 hl (by decide) rfl (fun ls hl => ?_)
              refine lv_aload_n hx hb dX8_readsLink_123 rfl (lv_at hl 4 rfl) ?_
              refine va_get (D := G.1) (ci := 7) (v := .ref (ad 2)) (C := RX8) (T := TX8) (N := 17) hx hb hts inA8 hown hX.1 hP 0 rfl rfl 2 (by decide) (hts _ kw_682) (fun _ h9 => h9) rfl dX8_readsLink_124 ?_
              refine lv_bipush (v := (nI 16)) hx hb dX8_readsLink_127 (by decide) ?_
              refine lv_iload hx hb dX8_readsLink_129 (lv_at hl 0 rfl) ?_
              refine lv_iadd hx hb dX8_readsLink_131 (ti (y := (nI (16 + L))) (nI_add _ _) ?_)
              refine lv_iload_n hx hb dX8_readsLink_132 rfl (lv_at hl 3 rfl) ?_
              refine nv_astI (f := d) (k := 16 + L) (v := (oN (fvM te ((rl1 te L (z, fo)).1)))) hx hb hX hP hD hS 2 rfl (by omega) (by decide) dX8_readsLink_133 (fun H locs hP hD hS => ?_)
              have hP : va_P G.1 vwCl (mow G ad ((rl4 te d L (z, fo)).1) ((rl4 te d L (z, fo)).2) sv (upd d (16 + L) (oN (fvM te ((rl1 te L (z, fo)).1)))) pa ke ik fa te aw) H := hP
              have hD : va_D A (mow G ad ((rl4 te d L (z, fo)).1) ((rl4 te d L (z, fo)).2) sv (upd d (16 + L) (oN (fvM te ((rl1 te L (z, fo)).1)))) pa ke ik fa te aw) := hD
              refine lv_aload_n hx hb dX8_readsLink_134 rfl (lv_at hl 4 rfl) ?_
              refine va_get (D := G.1) (ci := 7) (v := .ref (ad 2)) (C := RX8) (T := TX8) (N := 17) hx hb hts inA8 hown hX.1 hP 0 rfl rfl 2 (by decide) (hts _ kw_682) (fun _ h9 => h9) rfl dX8_readsLink_135 ?_
              refine lv_bipush (v := (nI 28)) hx hb dX8_readsLink_138 (by decide) ?_
              refine lv_iload hx hb dX8_readsLink_140 (lv_at hl 0 rfl) ?_
              refine lv_iadd hx hb dX8_readsLink_142 (ti (y := (nI (28 + L))) (nI_add _ _) ?_)
              refine lv_iload_n hx hb dX8_readsLink_143 rfl (lv_at hl 2 rfl) ?_
              refine nv_astI (f := upd d (16 + L) (oN (fvM te ((rl1 te L (z, fo)).1)))) (k := 28 + L) (v := (oN (fvM te (rl2 te d L (z, fo)).1))) hx hb hX hP hD hS 2 rfl (by omega) (by decide) dX8_readsLink_144 (fun H locs hP hD hS => ?_)
              have hP : va_P G.1 vwCl (mow G ad ((rl4 te d L (z, fo)).1) ((rl4 te d L (z, fo)).2) sv (upd (upd d (16 + L) (oN (fvM te ((rl1 te L (z, fo)).1)))) (28 + L) (oN (fvM te (rl2 te d L (z, fo)).1))) pa ke ik fa te aw) H := hP
              have hD : va_D A (mow G ad ((rl4 te d L (z, fo)).1) ((rl4 te d L (z, fo)).2) sv (upd (upd d (16 + L) (oN (fvM te ((rl1 te L (z, fo)).1)))) (28 + L) (oN (fvM te (rl2 te d L (z, fo)).1))) pa ke ik fa te aw) := hD
              refine lv_aload_n hx hb dX8_readsLink_145 rfl (lv_at hl 4 rfl) ?_
              refine va_get (D := G.1) (ci := 7) (v := .ref (ad 2)) (C := RX8) (T := TX8) (N := 17) hx hb hts inA8 hown hX.1 hP 0 rfl rfl 2 (by decide) (hts _ kw_682) (fun _ h9 => h9) rfl dX8_readsLink_146 ?_
              refine lv_bipush (v := (nI 40)) hx hb dX8_readsLink_149 (by decide) ?_
              refine lv_iload hx hb dX8_readsLink_151 (lv_at hl 0 rfl) ?_
              refine lv_iadd hx hb dX8_readsLink_153 (ti (y := (nI (40 + L))) (nI_add _ _) ?_)
              refine lv_iload_n hx hb dX8_readsLink_154 rfl (lv_at hl 1 rfl) ?_
              refine nv_astI (f := upd (upd d (16 + L) (oN (fvM te ((rl1 te L (z, fo)).1)))) (28 + L) (oN (fvM te (rl2 te d L (z, fo)).1))) (k := 40 + L) (v := (oN (fvM te ((rl3 te d L (z, fo)).1)))) hx hb hX hP hD hS 2 rfl (by omega) (by decide) dX8_readsLink_155 (fun H locs hP hD hS => ?_)
              have hP : va_P G.1 vwCl (mow G ad ((rl4 te d L (z, fo)).1) ((rl4 te d L (z, fo)).2) sv (upd (upd (upd d (16 + L) (oN (fvM te ((rl1 te L (z, fo)).1)))) (28 + L) (oN (fvM te (rl2 te d L (z, fo)).1))) (40 + L) (oN (fvM te ((rl3 te d L (z, fo)).1)))) pa ke ik fa te aw) H := hP
              have hD : va_D A (mow G ad ((rl4 te d L (z, fo)).1) ((rl4 te d L (z, fo)).2) sv (upd (upd (upd d (16 + L) (oN (fvM te ((rl1 te L (z, fo)).1)))) (28 + L) (oN (fvM te (rl2 te d L (z, fo)).1))) (40 + L) (oN (fvM te ((rl3 te d L (z, fo)).1)))) pa ke ik fa te aw) := hD
              refine lv_aload_n hx hb dX8_readsLink_156 rfl (lv_at hl 4 rfl) ?_
              refine va_get (D := G.1) (ci := 7) (v := .ref (ad 2)) (C := RX8) (T := TX8) (N := 17) hx hb hts inA8 hown hX.1 hP 0 rfl rfl 2 (by decide) (hts _ kw_682) (fun _ h9 => h9) rfl dX8_readsLink_157 ?_
              refine lv_iconst (v := (nI 1)) hx hb dX8_readsLink_160 (by decide) ?_
              refine lv_dup2_11 hx hb dX8_readsLink_161 rfl rfl ?_
              refine nv_aldI (f := upd (upd (upd d (16 + L) (oN (fvM te ((rl1 te L (z, fo)).1)))) (28 + L) (oN (fvM te (rl2 te d L (z, fo)).1))) (40 + L) (oN (fvM te ((rl3 te d L (z, fo)).1)))) (k := 1) hx hb hX hP 2 rfl (by omega) (by decide) dX8_readsLink_162 ?_
              refine ti (y := (nI L)) (by unfold upd; rw [if_neg (by omega), if_neg (by omega), if_neg (by omega)]; exact hd1) ?_
              refine lv_iconst (v := (nI 1)) hx hb dX8_readsLink_163 (by decide) ?_
              refine lv_iadd hx hb dX8_readsLink_164 (ti (y := (nI (L + 1))) (nI_add _ _) ?_)
              refine nv_astI (f := upd (upd (upd d (16 + L) (oN (fvM te ((rl1 te L (z, fo)).1)))) (28 + L) (oN (fvM te (rl2 te d L (z, fo)).1))) (40 + L) (oN (fvM te ((rl3 te d L (z, fo)).1)))) (k := 1) (v := (nI (L + 1))) hx hb hX hP hD hS 2 rfl (by omega) (by decide) dX8_readsLink_165 (fun H locs hP hD hS => ?_)
              have hP : va_P G.1 vwCl (mow G ad ((rl4 te d L (z, fo)).1) ((rl4 te d L (z, fo)).2) sv (upd (upd (upd (upd d (16 + L) (oN (fvM te ((rl1 te L (z, fo)).1)))) (28 + L) (oN (fvM te (rl2 te d L (z, fo)).1))) (40 + L) (oN (fvM te ((rl3 te d L (z, fo)).1)))) 1 (nI (L + 1))) pa ke ik fa te aw) H := hP
              have hD : va_D A (mow G ad ((rl4 te d L (z, fo)).1) ((rl4 te d L (z, fo)).2) sv (upd (upd (upd (upd d (16 + L) (oN (fvM te ((rl1 te L (z, fo)).1)))) (28 + L) (oN (fvM te (rl2 te d L (z, fo)).1))) (40 + L) (oN (fvM te ((rl3 te d L (z, fo)).1)))) 1 (nI (L + 1))) pa ke ik fa te aw) := hD
              have e8 : rlD te d L (z, fo) = upd (upd (upd (upd d (16 + L) (oN (fvM te ((rl1 te L (z, fo)).1)))) (28 + L) (oN (fvM te (rl2 te d L (z, fo)).1))) (40 + L) (oN (fvM te ((rl3 te d L (z, fo)).1)))) 1 (nI (L + 1)) := by unfold rlD; rw [if_pos hq]
              have hP : va_P G.1 vwCl (mow G ad ((rl4 te d L (z, fo)).1) ((rl4 te d L (z, fo)).2) sv (rlD te d L (z, fo)) pa ke ik fa te aw) H := by rw [e8]; exact hP
              have hD : va_D A (mow G ad ((rl4 te d L (z, fo)).1) ((rl4 te d L (z, fo)).2) sv (rlD te d L (z, fo)) pa ke ik fa te aw) := by rw [e8]; exact hD
              exact re_v hx hb hr hlocks hS () hP hD trivial dX8_readsLink_166
            · refine ti (y := nI q) (by rw [hq]; rfl) ?_
              have hq31 := hf4 q hq
              refine lv_bipush (v := (-9)) hx hb dX8_readsLink_110 (by decide) ?_
              refine lv_icmp_ne (x := (nI q)) (y := (-9)) (tgt := 166) hx hb dX8_readsLink_112 (by decide) (fun _ => ?_) (fun h9 => absurd h9 (nI_n9 (by omega)))
              have e8 : rlD te d L (z, fo) = d := by unfold rlD; rw [if_neg (by rw [hq]; exact fun h => by cases h)]
              have hP : va_P G.1 vwCl (mow G ad ((rl4 te d L (z, fo)).1) ((rl4 te d L (z, fo)).2) sv (rlD te d L (z, fo)) pa ke ik fa te aw) H := by rw [e8]; exact hP
              have hD : va_D A (mow G ad ((rl4 te d L (z, fo)).1) ((rl4 te d L (z, fo)).2) sv (rlD te d L (z, fo)) pa ke ik fa te aw) := by rw [e8]; exact hD
              exact re_v hx hb hr hlocks hS () hP hD trivial dX8_readsLink_166
    · refine lv_aload_n hx hb dX8_readsLink_42 rfl (lv_at hl 1 rfl) ?_
      refine lv_aload_n hx hb dX8_readsLink_43 rfl (lv_at hl 1 rfl) ?_
      refine va_get (D := G.1) (ci := 7) (v := .int (nI (((rl2 te d L (z, fo)).1) 11))) (C := RX8) (T := TX8) (N := 17) hx hb hts inA8 hown hX.1 hP 0 rfl rfl 11 (by decide) (hts _ kw_691) (fun _ h9 => h9) rfl dX8_readsLink_44 ?_
      refine ca_Vi (ci := 7) (q := (RX8, TX8, 17)) (rest := []) (wr := ([] : va_W)) F hX (mX8_at l G ad ((rl2 te d L (z, fo)).1) ((rl2 te d L (z, fo)).2) sv d pa ke ik fa te aw (((rl2 te d L (z, fo)).1) 11) ht9 (by have := hY2.2.1; omega) (by have h1 := hY2.2.1; have h2 := (hY2.2.2.2.2.2.1 c39).1; omega)) (cA_V hts kw_758 kw_8 kw_755 kw_757 kp_21 hdX8_at ⟨Nat.le_of_ble_eq_true rfl, Nat.le_of_ble_eq_true rfl⟩) rfl rfl rfl hl.1 rfl (Nat.le_of_ble_eq_true rfl) dX8_readsLink_47 ⟨Nat.le_of_ble_eq_true rfl, Nat.le_of_ble_eq_true rfl⟩ hP hD hS hA (pm_nil _) (fun r47 u47 H locs hp47 hP hD hS => ?_)
      have hP : va_P G.1 vwCl (mow G ad ((rl2 te d L (z, fo)).1) ((rl2 te d L (z, fo)).2) sv d pa ke ik fa te aw) H := wp_pm (pm_nil _).symm hP
      have hD : va_D A (mow G ad ((rl2 te d L (z, fo)).1) ((rl2 te d L (z, fo)).2) sv d pa ke ik fa te aw) := wd_pm (pm_nil _).symm hD
      subst hp47
      refine ti (y := (nI (te ((rl2 te d L (z, fo)).1 11)))) (if_pos (hY2.2.2.2.2.2.1 c39).1) ?_
      refine lv_bipush (v := (nI 48)) hx hb dX8_readsLink_50 (by decide) ?_
      refine lv_isub hx hb dX8_readsLink_52 (ti (y := (nI ((te ((rl2 te d L (z, fo)).1 11)) - 48))) (pk_sub (by have h9 : 48 ≤ te ((rl2 te d L (z, fo)).1 11) ∧ te ((rl2 te d L (z, fo)).1 11) ≤ 57 := of_decide_eq_true (hY2.2.2.2.2.2.1 c39).2; omega)) ?_)
      refine lv_goto (tgt := 58) hx hb dX8_readsLink_53 (by decide) ?_
      refine ti (y := (oN (fvM te (rl2 te d L (z, fo)).1))) (by rw [fvM, if_pos c39]; rfl) ?_
      refine lv_istore_n (lv' := [(2, .int (oN (fvM te (rl2 te d L (z, fo)).1))), (1, .int (oN (fvM te ((rl1 te L (z, fo)).1)))), (0, .ref (ad 0))]) hx hb dX8_readsLink_58 rfl hl (by decide) rfl (fun ls hl => ?_)
      refine lv_aload_n hx hb dX8_readsLink_59 rfl (lv_at hl 2 rfl) ?_
      refine lv_iload_n hx hb dX8_readsLink_60 rfl (lv_at hl 0 rfl) ?_
      refine lv_iconst (v := (nI 0)) hx hb dX8_readsLink_61 (by decide) ?_
      refine lv_aload_n hx hb dX8_readsLink_62 rfl (lv_at hl 2 rfl) ?_
      refine va_get (D := G.1) (ci := 7) (v := .ref (ad 2)) (C := RX8) (T := TX8) (N := 17) hx hb hts inA8 hown hX.1 hP 0 rfl rfl 2 (by decide) (hts _ kw_682) (fun _ h9 => h9) rfl dX8_readsLink_63 ?_
      refine lv_iconst (v := (nI 0)) hx hb dX8_readsLink_66 (by decide) ?_
      refine nv_aldI (f := d) (k := 0) hx hb hX hP 2 rfl (by omega) (by decide) dX8_readsLink_67 ?_
      refine lv_iconst (v := (nI 1)) hx hb dX8_readsLink_68 (by decide) ?_
      refine lv_isub hx hb dX8_readsLink_69 ?_
      refine ca_Si (rest := [.ref (ad 0)]) (wr := mow G ad ((rl2 te d L (z, fo)).1) ((rl2 te d L (z, fo)).2) sv d pa ke ik fa te aw) F hX (mX8_in l G (oN (fvM te (rl2 te d L (z, fo)).1)) (nI 0) ((d 0) - (nI 1))) (cA_S hts kw_738 kw_8 kw_736 kw_737 hdX8_in ⟨Nat.le_of_ble_eq_true rfl, Nat.le_of_ble_eq_true rfl⟩) rfl hl.1 rfl (Nat.le_of_ble_eq_true rfl) dX8_readsLink_70 ⟨Nat.le_of_ble_eq_true rfl, Nat.le_of_ble_eq_true rfl⟩ hP hD hS hA (List.Perm.refl _) (fun r70 u70 H locs hp70 hP hD hS => ?_)
      have hP : va_P G.1 vwCl (mow G ad ((rl2 te d L (z, fo)).1) ((rl2 te d L (z, fo)).2) sv d pa ke ik fa te aw) H := hP
      have hD : va_D A (mow G ad ((rl2 te d L (z, fo)).1) ((rl2 te d L (z, fo)).2) sv d pa ke ik fa te aw) := hD
      subst hp70
      refine bv_eq (b := decide ((nI 0) ≤ (oN (fvM te (rl2 te d L (z, fo)).1)) ∧ (oN (fvM te (rl2 te d L (z, fo)).1)) ≤ ((d 0) - (nI 1)))) (tgt := 94) hx hb dX8_readsLink_73 (by decide) (fun c73 => ?_) (fun c73 => ?_)
      · refine lv_iconst (v := (nI 0)) hx hb dX8_readsLink_94 (by decide) ?_
        refine ti (y := (bI (rlB te d L (z, fo)))) (by unfold rlB; rw [c73, Bool.false_and, Bool.false_and] <;> rfl) ?_
        refine ca_Vv (ci := 7) (q := (RX8, TX8, 17)) (rest := []) (wr := ([] : va_W)) F hX (mX8_takes l G ad ((rl2 te d L (z, fo)).1) ((rl2 te d L (z, fo)).2) sv d pa ke ik fa te aw (rlB te d L (z, fo)) hY2 hf2) (cA_V hts kw_770 kw_8 kw_767 kw_769 kp_24 hdX8_takes ⟨Nat.le_of_ble_eq_true rfl, Nat.le_of_ble_eq_true rfl⟩) rfl rfl rfl hl.1 rfl (Nat.le_of_ble_eq_true rfl) dX8_readsLink_95 ⟨Nat.le_of_ble_eq_true rfl, Nat.le_of_ble_eq_true rfl⟩ hP hD hS hA (pm_nil _) (fun u95 H locs hp95 hP hD hS => ?_)
        have hP : va_P G.1 vwCl (mow G ad ((tkM te (rlB te d L (z, fo)) (rl2 te d L (z, fo))).1) ((tkM te (rlB te d L (z, fo)) (rl2 te d L (z, fo))).2) sv d pa ke ik fa te aw) H := wp_pm (pm_nil _).symm hP
        have hD : va_D A (mow G ad ((tkM te (rlB te d L (z, fo)) (rl2 te d L (z, fo))).1) ((tkM te (rlB te d L (z, fo)) (rl2 te d L (z, fo))).2) sv d pa ke ik fa te aw) := wd_pm (pm_nil _).symm hD
        have hP : va_P G.1 vwCl (mow G ad ((rl3 te d L (z, fo)).1) ((rl3 te d L (z, fo)).2) sv d pa ke ik fa te aw) H := by rw [show (rl3 te d L (z, fo)) = (tkM te (rlB te d L (z, fo)) (rl2 te d L (z, fo))) from rfl]; exact hP
        have hD : va_D A (mow G ad ((rl3 te d L (z, fo)).1) ((rl3 te d L (z, fo)).2) sv d pa ke ik fa te aw) := by rw [show (rl3 te d L (z, fo)) = (tkM te (rlB te d L (z, fo)) (rl2 te d L (z, fo))) from rfl]; exact hD
        refine lv_aload_n hx hb dX8_readsLink_98 rfl (lv_at hl 2 rfl) ?_
        refine lv_iconst (v := (nI 1)) hx hb dX8_readsLink_99 (by decide) ?_
        refine lv_bipush (v := (nI 9)) hx hb dX8_readsLink_100 (by decide) ?_
        refine ca_Vi (ci := 7) (q := (RX8, TX8, 17)) (rest := []) (wr := ([] : va_W)) F hX (mX8_figure l G ad ((rl3 te d L (z, fo)).1) ((rl3 te d L (z, fo)).2) sv d pa ke ik fa te aw (nI 1) (nI 9) hY3 hf3) (cA_V hts kw_774 kw_8 kw_771 kw_773 kp_25 hdX8_figure ⟨Nat.le_of_ble_eq_true rfl, Nat.le_of_ble_eq_true rfl⟩) rfl rfl rfl hl.1 rfl (Nat.le_of_ble_eq_true rfl) dX8_readsLink_102 ⟨Nat.le_of_ble_eq_true rfl, Nat.le_of_ble_eq_true rfl⟩ hP hD hS hA (pm_nil _) (fun r102 u102 H locs hp102 hP hD hS => ?_)
        have hP : va_P G.1 vwCl (mow G ad ((fgM te (nI 1) (nI 9) (rl3 te d L (z, fo))).1) ((fgM te (nI 1) (nI 9) (rl3 te d L (z, fo))).2) sv d pa ke ik fa te aw) H := wp_pm (pm_nil _).symm hP
        have hD : va_D A (mow G ad ((fgM te (nI 1) (nI 9) (rl3 te d L (z, fo))).1) ((fgM te (nI 1) (nI 9) (rl3 te d L (z, fo))).2) sv d pa ke ik fa te aw) := wd_pm (pm_nil _).symm hD
        subst hp102
        have hP : va_P G.1 vwCl (mow G ad ((rl4 te d L (z, fo)).1) ((rl4 te d L (z, fo)).2) sv d pa ke ik fa te aw) H := by rw [show (rl4 te d L (z, fo)) = (fgM te (nI 1) (nI 9) (rl3 te d L (z, fo))) from rfl]; exact hP
        have hD : va_D A (mow G ad ((rl4 te d L (z, fo)).1) ((rl4 te d L (z, fo)).2) sv d pa ke ik fa te aw) := by rw [show (rl4 te d L (z, fo)) = (fgM te (nI 1) (nI 9) (rl3 te d L (z, fo))) from rfl]; exact hD
        refine lv_istore_n (lv' := [(3, .int (oN (fvM te ((rl3 te d L (z, fo)).1)))), (2, .int (oN (fvM te (rl2 te d L (z, fo)).1))), (1, .int (oN (fvM te ((rl1 te L (z, fo)).1)))), (0, .ref (ad 0))]) hx hb dX8_readsLink_105 rfl hl (by decide) rfl (fun ls hl => ?_)
        refine lv_aload_n hx hb dX8_readsLink_106 rfl (lv_at hl 3 rfl) ?_
        refine va_get (D := G.1) (ci := 7) (v := .int (oN ((rl4 te d L (z, fo)).2))) (C := RX8) (T := TX8) (N := 17) hx hb hts inA8 hown hX.1 hP 0 rfl rfl 14 (by decide) (hts _ kw_694) (fun _ h9 => h9) rfl dX8_readsLink_107 ?_
        rcases opt_c ((rl4 te d L (z, fo)).2) with hq | ⟨q, hq⟩
        · refine ti (y := -9) (by rw [hq]; rfl) ?_
          have h12 : L < 12 := (rl_on (q := (z, fo)) hY hq).2.1
          refine lv_bipush (v := (-9)) hx hb dX8_readsLink_110 (by decide) ?_
          refine lv_icmp_ne (x := (-9)) (y := (-9)) (tgt := 166) hx hb dX8_readsLink_112 (by decide) (fun h9 => absurd rfl h9) (fun _ => ?_)
          refine lv_aload_n hx hb dX8_readsLink_115 rfl (lv_at hl 3 rfl) ?_
          refine va_get (D := G.1) (ci := 7) (v := .ref (ad 2)) (C := RX8) (T := TX8) (N := 17) hx hb hts inA8 hown hX.1 hP 0 rfl rfl 2 (by decide) (hts _ kw_682) (fun _ h9 => h9) rfl dX8_readsLink_116 ?_
          refine lv_iconst (v := (nI 1)) hx hb dX8_readsLink_119 (by decide) ?_
          refine nv_aldI (f := d) (k := 1) hx hb hX hP 2 rfl (by omega) (by decide) dX8_readsLink_120 ?_
          refine ti (y := (nI L)) hd1 ?_
          refine lv_istore (lv' := [(4, .int (nI L)), (3, .int (oN (fvM te ((rl3 te d L (z, fo)).1)))), (2, .int (oN (fvM te (rl2 te d L (z, fo)).1))), (1, .int (oN (fvM te ((rl1 te L (z, fo)).1)))), (0, .ref (ad 0))]) hx hb dX8_readsLink_121 hl (by decide) rfl (fun ls hl => ?_)
          refine lv_aload_n hx hb dX8_readsLink_123 rfl (lv_at hl 4 rfl) ?_
          refine va_get (D := G.1) (ci := 7) (v := .ref (ad 2)) (C := RX8) (T := TX8) (N := 17) hx hb hts inA8 hown hX.1 hP 0 rfl rfl 2 (by decide) (hts _ kw_682) (fun _ h9 => h9) rfl dX8_readsLink_124 ?_
          refine lv_bipush (v := (nI 16)) hx hb dX8_readsLink_127 (by decide) ?_
          refine lv_iload hx hb dX8_readsLink_129 (lv_at hl 0 rfl) ?_
          refine lv_iadd hx hb dX8_readsLink_131 (ti (y := (nI (16 + L))) (nI_add _ _) ?_)
          refine lv_iload_n hx hb dX8_readsLink_132 rfl (lv_at hl 3 rfl) ?_
          refine nv_astI (f := d) (k := 16 + L) (v := (oN (fvM te ((rl1 te L (z, fo)).1)))) hx hb hX hP hD hS 2 rfl (by omega) (by decide) dX8_readsLink_133 (fun H locs hP hD hS => ?_)
          have hP : va_P G.1 vwCl (mow G ad ((rl4 te d L (z, fo)).1) ((rl4 te d L (z, fo)).2) sv (upd d (16 + L) (oN (fvM te ((rl1 te L (z, fo)).1)))) pa ke ik fa te aw) H := hP
          have hD : va_D A (mow G ad ((rl4 te d L (z, fo)).1) ((rl4 te d L (z, fo)).2) sv (upd d (16 + L) (oN (fvM te ((rl1 te L (z, fo)).1)))) pa ke ik fa te aw) := hD
          refine lv_aload_n hx hb dX8_readsLink_134 rfl (lv_at hl 4 rfl) ?_
          refine va_get (D := G.1) (ci := 7) (v := .ref (ad 2)) (C := RX8) (T := TX8) (N := 17) hx hb hts inA8 hown hX.1 hP 0 rfl rfl 2 (by decide) (hts _ kw_682) (fun _ h9 => h9) rfl dX8_readsLink_135 ?_
          refine lv_bipush (v := (nI 28)) hx hb dX8_readsLink_138 (by decide) ?_
          refine lv_iload hx hb dX8_readsLink_140 (lv_at hl 0 rfl) ?_
          refine lv_iadd hx hb dX8_readsLink_142 (ti (y := (nI (28 + L))) (nI_add _ _) ?_)
          refine lv_iload_n hx hb dX8_readsLink_143 rfl (lv_at hl 2 rfl) ?_
          refine nv_astI (f := upd d (16 + L) (oN (fvM te ((rl1 te L (z, fo)).1)))) (k := 28 + L) (v := (oN (fvM te (rl2 te d L (z, fo)).1))) hx hb hX hP hD hS 2 rfl (by omega) (by decide) dX8_readsLink_144 (fun H locs hP hD hS => ?_)
          have hP : va_P G.1 vwCl (mow G ad ((rl4 te d L (z, fo)).1) ((rl4 te d L (z, fo)).2) sv (upd (upd d (16 + L) (oN (fvM te ((rl1 te L (z, fo)).1)))) (28 + L) (oN (fvM te (rl2 te d L (z, fo)).1))) pa ke ik fa te aw) H := hP
          have hD : va_D A (mow G ad ((rl4 te d L (z, fo)).1) ((rl4 te d L (z, fo)).2) sv (upd (upd d (16 + L) (oN (fvM te ((rl1 te L (z, fo)).1)))) (28 + L) (oN (fvM te (rl2 te d L (z, fo)).1))) pa ke ik fa te aw) := hD
          refine lv_aload_n hx hb dX8_readsLink_145 rfl (lv_at hl 4 rfl) ?_
          refine va_get (D := G.1) (ci := 7) (v := .ref (ad 2)) (C := RX8) (T := TX8) (N := 17) hx hb hts inA8 hown hX.1 hP 0 rfl rfl 2 (by decide) (hts _ kw_682) (fun _ h9 => h9) rfl dX8_readsLink_146 ?_
          refine lv_bipush (v := (nI 40)) hx hb dX8_readsLink_149 (by decide) ?_
          refine lv_iload hx hb dX8_readsLink_151 (lv_at hl 0 rfl) ?_
          refine lv_iadd hx hb dX8_readsLink_153 (ti (y := (nI (40 + L))) (nI_add _ _) ?_)
          refine lv_iload_n hx hb dX8_readsLink_154 rfl (lv_at hl 1 rfl) ?_
          refine nv_astI (f := upd (upd d (16 + L) (oN (fvM te ((rl1 te L (z, fo)).1)))) (28 + L) (oN (fvM te (rl2 te d L (z, fo)).1))) (k := 40 + L) (v := (oN (fvM te ((rl3 te d L (z, fo)).1)))) hx hb hX hP hD hS 2 rfl (by omega) (by decide) dX8_readsLink_155 (fun H locs hP hD hS => ?_)
          have hP : va_P G.1 vwCl (mow G ad ((rl4 te d L (z, fo)).1) ((rl4 te d L (z, fo)).2) sv (upd (upd (upd d (16 + L) (oN (fvM te ((rl1 te L (z, fo)).1)))) (28 + L) (oN (fvM te (rl2 te d L (z, fo)).1))) (40 + L) (oN (fvM te ((rl3 te d L (z, fo)).1)))) pa ke ik fa te aw) H := hP
          have hD : va_D A (mow G ad ((rl4 te d L (z, fo)).1) ((rl4 te d L (z, fo)).2) sv (upd (upd (upd d (16 + L) (oN (fvM te ((rl1 te L (z, fo)).1)))) (28 + L) (oN (fvM te (rl2 te d L (z, fo)).1))) (40 + L) (oN (fvM te ((rl3 te d L (z, fo)).1)))) pa ke ik fa te aw) := hD
          refine lv_aload_n hx hb dX8_readsLink_156 rfl (lv_at hl 4 rfl) ?_
          refine va_get (D := G.1) (ci := 7) (v := .ref (ad 2)) (C := RX8) (T := TX8) (N := 17) hx hb hts inA8 hown hX.1 hP 0 rfl rfl 2 (by decide) (hts _ kw_682) (fun _ h9 => h9) rfl dX8_readsLink_157 ?_
          refine lv_iconst (v := (nI 1)) hx hb dX8_readsLink_160 (by decide) ?_
          refine lv_dup2_11 hx hb dX8_readsLink_161 rfl rfl ?_
          refine nv_aldI (f := upd (upd (upd d (16 + L) (oN (fvM te ((rl1 te L (z, fo)).1)))) (28 + L) (oN (fvM te (rl2 te d L (z, fo)).1))) (40 + L) (oN (fvM te ((rl3 te d L (z, fo)).1)))) (k := 1) hx hb hX hP 2 rfl (by omega) (by decide) dX8_readsLink_162 ?_
          refine ti (y := (nI L)) (by unfold upd; rw [if_neg (by omega), if_neg (by omega), if_neg (by omega)]; exact hd1) ?_
          refine lv_iconst (v := (nI 1)) hx hb dX8_readsLink_163 (by decide) ?_
          refine lv_iadd hx hb dX8_readsLink_164 (ti (y := (nI (L + 1))) (nI_add _ _) ?_)
          refine nv_astI (f := upd (upd (upd d (16 + L) (oN (fvM te ((rl1 te L (z, fo)).1)))) (28 + L) (oN (fvM te (rl2 te d L (z, fo)).1))) (40 + L) (oN (fvM te ((rl3 te d L (z, fo)).1)))) (k := 1) (v := (nI (L + 1))) hx hb hX hP hD hS 2 rfl (by omega) (by decide) dX8_readsLink_165 (fun H locs hP hD hS => ?_)
          have hP : va_P G.1 vwCl (mow G ad ((rl4 te d L (z, fo)).1) ((rl4 te d L (z, fo)).2) sv (upd (upd (upd (upd d (16 + L) (oN (fvM te ((rl1 te L (z, fo)).1)))) (28 + L) (oN (fvM te (rl2 te d L (z, fo)).1))) (40 + L) (oN (fvM te ((rl3 te d L (z, fo)).1)))) 1 (nI (L + 1))) pa ke ik fa te aw) H := hP
          have hD : va_D A (mow G ad ((rl4 te d L (z, fo)).1) ((rl4 te d L (z, fo)).2) sv (upd (upd (upd (upd d (16 + L) (oN (fvM te ((rl1 te L (z, fo)).1)))) (28 + L) (oN (fvM te (rl2 te d L (z, fo)).1))) (40 + L) (oN (fvM te ((rl3 te d L (z, fo)).1)))) 1 (nI (L + 1))) pa ke ik fa te aw) := hD
          have e8 : rlD te d L (z, fo) = upd (upd (upd (upd d (16 + L) (oN (fvM te ((rl1 te L (z, fo)).1)))) (28 + L) (oN (fvM te (rl2 te d L (z, fo)).1))) (40 + L) (oN (fvM te ((rl3 te d L (z, fo)).1)))) 1 (nI (L + 1)) := by unfold rlD; rw [if_pos hq]
          have hP : va_P G.1 vwCl (mow G ad ((rl4 te d L (z, fo)).1) ((rl4 te d L (z, fo)).2) sv (rlD te d L (z, fo)) pa ke ik fa te aw) H := by rw [e8]; exact hP
          have hD : va_D A (mow G ad ((rl4 te d L (z, fo)).1) ((rl4 te d L (z, fo)).2) sv (rlD te d L (z, fo)) pa ke ik fa te aw) := by rw [e8]; exact hD
          exact re_v hx hb hr hlocks hS () hP hD trivial dX8_readsLink_166
        · refine ti (y := nI q) (by rw [hq]; rfl) ?_
          have hq31 := hf4 q hq
          refine lv_bipush (v := (-9)) hx hb dX8_readsLink_110 (by decide) ?_
          refine lv_icmp_ne (x := (nI q)) (y := (-9)) (tgt := 166) hx hb dX8_readsLink_112 (by decide) (fun _ => ?_) (fun h9 => absurd h9 (nI_n9 (by omega)))
          have e8 : rlD te d L (z, fo) = d := by unfold rlD; rw [if_neg (by rw [hq]; exact fun h => by cases h)]
          have hP : va_P G.1 vwCl (mow G ad ((rl4 te d L (z, fo)).1) ((rl4 te d L (z, fo)).2) sv (rlD te d L (z, fo)) pa ke ik fa te aw) H := by rw [e8]; exact hP
          have hD : va_D A (mow G ad ((rl4 te d L (z, fo)).1) ((rl4 te d L (z, fo)).2) sv (rlD te d L (z, fo)) pa ke ik fa te aw) := by rw [e8]; exact hD
          exact re_v hx hb hr hlocks hS () hP hD trivial dX8_readsLink_166
      · refine lv_iload_n hx hb dX8_readsLink_76 rfl (lv_at hl 0 rfl) ?_
        refine lv_iload_n hx hb dX8_readsLink_77 rfl (lv_at hl 1 rfl) ?_
        refine lv_icmp_eq (x := (oN (fvM te (rl2 te d L (z, fo)).1))) (y := (oN (fvM te ((rl1 te L (z, fo)).1)))) (tgt := 94) hx hb dX8_readsLink_78 (by decide) (fun c78 => ?_) (fun c78 => ?_)
        · refine lv_iconst (v := (nI 0)) hx hb dX8_readsLink_94 (by decide) ?_
          refine ti (y := (bI (rlB te d L (z, fo)))) (by unfold rlB; rw [c73, decide_eq_true c78, Bool.not_true, Bool.and_false, Bool.false_and] <;> rfl) ?_
          refine ca_Vv (ci := 7) (q := (RX8, TX8, 17)) (rest := []) (wr := ([] : va_W)) F hX (mX8_takes l G ad ((rl2 te d L (z, fo)).1) ((rl2 te d L (z, fo)).2) sv d pa ke ik fa te aw (rlB te d L (z, fo)) hY2 hf2) (cA_V hts kw_770 kw_8 kw_767 kw_769 kp_24 hdX8_takes ⟨Nat.le_of_ble_eq_true rfl, Nat.le_of_ble_eq_true rfl⟩) rfl rfl rfl hl.1 rfl (Nat.le_of_ble_eq_true rfl) dX8_readsLink_95 ⟨Nat.le_of_ble_eq_true rfl, Nat.le_of_ble_eq_true rfl⟩ hP hD hS hA (pm_nil _) (fun u95 H locs hp95 hP hD hS => ?_)
          have hP : va_P G.1 vwCl (mow G ad ((tkM te (rlB te d L (z, fo)) (rl2 te d L (z, fo))).1) ((tkM te (rlB te d L (z, fo)) (rl2 te d L (z, fo))).2) sv d pa ke ik fa te aw) H := wp_pm (pm_nil _).symm hP
          have hD : va_D A (mow G ad ((tkM te (rlB te d L (z, fo)) (rl2 te d L (z, fo))).1) ((tkM te (rlB te d L (z, fo)) (rl2 te d L (z, fo))).2) sv d pa ke ik fa te aw) := wd_pm (pm_nil _).symm hD
          have hP : va_P G.1 vwCl (mow G ad ((rl3 te d L (z, fo)).1) ((rl3 te d L (z, fo)).2) sv d pa ke ik fa te aw) H := by rw [show (rl3 te d L (z, fo)) = (tkM te (rlB te d L (z, fo)) (rl2 te d L (z, fo))) from rfl]; exact hP
          have hD : va_D A (mow G ad ((rl3 te d L (z, fo)).1) ((rl3 te d L (z, fo)).2) sv d pa ke ik fa te aw) := by rw [show (rl3 te d L (z, fo)) = (tkM te (rlB te d L (z, fo)) (rl2 te d L (z, fo))) from rfl]; exact hD
          refine lv_aload_n hx hb dX8_readsLink_98 rfl (lv_at hl 2 rfl) ?_
          refine lv_iconst (v := (nI 1)) hx hb dX8_readsLink_99 (by decide) ?_
          refine lv_bipush (v := (nI 9)) hx hb dX8_readsLink_100 (by decide) ?_
          refine ca_Vi (ci := 7) (q := (RX8, TX8, 17)) (rest := []) (wr := ([] : va_W)) F hX (mX8_figure l G ad ((rl3 te d L (z, fo)).1) ((rl3 te d L (z, fo)).2) sv d pa ke ik fa te aw (nI 1) (nI 9) hY3 hf3) (cA_V hts kw_774 kw_8 kw_771 kw_773 kp_25 hdX8_figure ⟨Nat.le_of_ble_eq_true rfl, Nat.le_of_ble_eq_true rfl⟩) rfl rfl rfl hl.1 rfl (Nat.le_of_ble_eq_true rfl) dX8_readsLink_102 ⟨Nat.le_of_ble_eq_true rfl, Nat.le_of_ble_eq_true rfl⟩ hP hD hS hA (pm_nil _) (fun r102 u102 H locs hp102 hP hD hS => ?_)
          have hP : va_P G.1 vwCl (mow G ad ((fgM te (nI 1) (nI 9) (rl3 te d L (z, fo))).1) ((fgM te (nI 1) (nI 9) (rl3 te d L (z, fo))).2) sv d pa ke ik fa te aw) H := wp_pm (pm_nil _).symm hP
          have hD : va_D A (mow G ad ((fgM te (nI 1) (nI 9) (rl3 te d L (z, fo))).1) ((fgM te (nI 1) (nI 9) (rl3 te d L (z, fo))).2) sv d pa ke ik fa te aw) := wd_pm (pm_nil _).symm hD
          subst hp102
          have hP : va_P G.1 vwCl (mow G ad ((rl4 te d L (z, fo)).1) ((rl4 te d L (z, fo)).2) sv d pa ke ik fa te aw) H := by rw [show (rl4 te d L (z, fo)) = (fgM te (nI 1) (nI 9) (rl3 te d L (z, fo))) from rfl]; exact hP
          have hD : va_D A (mow G ad ((rl4 te d L (z, fo)).1) ((rl4 te d L (z, fo)).2) sv d pa ke ik fa te aw) := by rw [show (rl4 te d L (z, fo)) = (fgM te (nI 1) (nI 9) (rl3 te d L (z, fo))) from rfl]; exact hD
          refine lv_istore_n (lv' := [(3, .int (oN (fvM te ((rl3 te d L (z, fo)).1)))), (2, .int (oN (fvM te (rl2 te d L (z, fo)).1))), (1, .int (oN (fvM te ((rl1 te L (z, fo)).1)))), (0, .ref (ad 0))]) hx hb dX8_readsLink_105 rfl hl (by decide) rfl (fun ls hl => ?_)
          refine lv_aload_n hx hb dX8_readsLink_106 rfl (lv_at hl 3 rfl) ?_
          refine va_get (D := G.1) (ci := 7) (v := .int (oN ((rl4 te d L (z, fo)).2))) (C := RX8) (T := TX8) (N := 17) hx hb hts inA8 hown hX.1 hP 0 rfl rfl 14 (by decide) (hts _ kw_694) (fun _ h9 => h9) rfl dX8_readsLink_107 ?_
          rcases opt_c ((rl4 te d L (z, fo)).2) with hq | ⟨q, hq⟩
          · refine ti (y := -9) (by rw [hq]; rfl) ?_
            have h12 : L < 12 := (rl_on (q := (z, fo)) hY hq).2.1
            refine lv_bipush (v := (-9)) hx hb dX8_readsLink_110 (by decide) ?_
            refine lv_icmp_ne (x := (-9)) (y := (-9)) (tgt := 166) hx hb dX8_readsLink_112 (by decide) (fun h9 => absurd rfl h9) (fun _ => ?_)
            refine lv_aload_n hx hb dX8_readsLink_115 rfl (lv_at hl 3 rfl) ?_
            refine va_get (D := G.1) (ci := 7) (v := .ref (ad 2)) (C := RX8) (T := TX8) (N := 17) hx hb hts inA8 hown hX.1 hP 0 rfl rfl 2 (by decide) (hts _ kw_682) (fun _ h9 => h9) rfl dX8_readsLink_116 ?_
            refine lv_iconst (v := (nI 1)) hx hb dX8_readsLink_119 (by decide) ?_
            refine nv_aldI (f := d) (k := 1) hx hb hX hP 2 rfl (by omega) (by decide) dX8_readsLink_120 ?_
            refine ti (y := (nI L)) hd1 ?_
            refine lv_istore (lv' := [(4, .int (nI L)), (3, .int (oN (fvM te ((rl3 te d L (z, fo)).1)))), (2, .int (oN (fvM te (rl2 te d L (z, fo)).1))), (1, .int (oN (fvM te ((rl1 te L (z, fo)).1)))), (0, .ref (ad 0))]) hx hb dX8_readsLink_121 hl (by decide) rfl (fun ls hl => ?_)
            refine lv_aload_n hx hb dX8_readsLink_123 rfl (lv_at hl 4 rfl) ?_
            refine va_get (D := G.1) (ci := 7) (v := .ref (ad 2)) (C := RX8) (T := TX8) (N := 17) hx hb hts inA8 hown hX.1 hP 0 rfl rfl 2 (by decide) (hts _ kw_682) (fun _ h9 => h9) rfl dX8_readsLink_124 ?_
            refine lv_bipush (v := (nI 16)) hx hb dX8_readsLink_127 (by decide) ?_
            refine lv_iload hx hb dX8_readsLink_129 (lv_at hl 0 rfl) ?_
            refine lv_iadd hx hb dX8_readsLink_131 (ti (y := (nI (16 + L))) (nI_add _ _) ?_)
            refine lv_iload_n hx hb dX8_readsLink_132 rfl (lv_at hl 3 rfl) ?_
            refine nv_astI (f := d) (k := 16 + L) (v := (oN (fvM te ((rl1 te L (z, fo)).1)))) hx hb hX hP hD hS 2 rfl (by omega) (by decide) dX8_readsLink_133 (fun H locs hP hD hS => ?_)
            have hP : va_P G.1 vwCl (mow G ad ((rl4 te d L (z, fo)).1) ((rl4 te d L (z, fo)).2) sv (upd d (16 + L) (oN (fvM te ((rl1 te L (z, fo)).1)))) pa ke ik fa te aw) H := hP
            have hD : va_D A (mow G ad ((rl4 te d L (z, fo)).1) ((rl4 te d L (z, fo)).2) sv (upd d (16 + L) (oN (fvM te ((rl1 te L (z, fo)).1)))) pa ke ik fa te aw) := hD
            refine lv_aload_n hx hb dX8_readsLink_134 rfl (lv_at hl 4 rfl) ?_
            refine va_get (D := G.1) (ci := 7) (v := .ref (ad 2)) (C := RX8) (T := TX8) (N := 17) hx hb hts inA8 hown hX.1 hP 0 rfl rfl 2 (by decide) (hts _ kw_682) (fun _ h9 => h9) rfl dX8_readsLink_135 ?_
            refine lv_bipush (v := (nI 28)) hx hb dX8_readsLink_138 (by decide) ?_
            refine lv_iload hx hb dX8_readsLink_140 (lv_at hl 0 rfl) ?_
            refine lv_iadd hx hb dX8_readsLink_142 (ti (y := (nI (28 + L))) (nI_add _ _) ?_)
            refine lv_iload_n hx hb dX8_readsLink_143 rfl (lv_at hl 2 rfl) ?_
            refine nv_astI (f := upd d (16 + L) (oN (fvM te ((rl1 te L (z, fo)).1)))) (k := 28 + L) (v := (oN (fvM te (rl2 te d L (z, fo)).1))) hx hb hX hP hD hS 2 rfl (by omega) (by decide) dX8_readsLink_144 (fun H locs hP hD hS => ?_)
            have hP : va_P G.1 vwCl (mow G ad ((rl4 te d L (z, fo)).1) ((rl4 te d L (z, fo)).2) sv (upd (upd d (16 + L) (oN (fvM te ((rl1 te L (z, fo)).1)))) (28 + L) (oN (fvM te (rl2 te d L (z, fo)).1))) pa ke ik fa te aw) H := hP
            have hD : va_D A (mow G ad ((rl4 te d L (z, fo)).1) ((rl4 te d L (z, fo)).2) sv (upd (upd d (16 + L) (oN (fvM te ((rl1 te L (z, fo)).1)))) (28 + L) (oN (fvM te (rl2 te d L (z, fo)).1))) pa ke ik fa te aw) := hD
            refine lv_aload_n hx hb dX8_readsLink_145 rfl (lv_at hl 4 rfl) ?_
            refine va_get (D := G.1) (ci := 7) (v := .ref (ad 2)) (C := RX8) (T := TX8) (N := 17) hx hb hts inA8 hown hX.1 hP 0 rfl rfl 2 (by decide) (hts _ kw_682) (fun _ h9 => h9) rfl dX8_readsLink_146 ?_
            refine lv_bipush (v := (nI 40)) hx hb dX8_readsLink_149 (by decide) ?_
            refine lv_iload hx hb dX8_readsLink_151 (lv_at hl 0 rfl) ?_
            refine lv_iadd hx hb dX8_readsLink_153 (ti (y := (nI (40 + L))) (nI_add _ _) ?_)
            refine lv_iload_n hx hb dX8_readsLink_154 rfl (lv_at hl 1 rfl) ?_
            refine nv_astI (f := upd (upd d (16 + L) (oN (fvM te ((rl1 te L (z, fo)).1)))) (28 + L) (oN (fvM te (rl2 te d L (z, fo)).1))) (k := 40 + L) (v := (oN (fvM te ((rl3 te d L (z, fo)).1)))) hx hb hX hP hD hS 2 rfl (by omega) (by decide) dX8_readsLink_155 (fun H locs hP hD hS => ?_)
            have hP : va_P G.1 vwCl (mow G ad ((rl4 te d L (z, fo)).1) ((rl4 te d L (z, fo)).2) sv (upd (upd (upd d (16 + L) (oN (fvM te ((rl1 te L (z, fo)).1)))) (28 + L) (oN (fvM te (rl2 te d L (z, fo)).1))) (40 + L) (oN (fvM te ((rl3 te d L (z, fo)).1)))) pa ke ik fa te aw) H := hP
            have hD : va_D A (mow G ad ((rl4 te d L (z, fo)).1) ((rl4 te d L (z, fo)).2) sv (upd (upd (upd d (16 + L) (oN (fvM te ((rl1 te L (z, fo)).1)))) (28 + L) (oN (fvM te (rl2 te d L (z, fo)).1))) (40 + L) (oN (fvM te ((rl3 te d L (z, fo)).1)))) pa ke ik fa te aw) := hD
            refine lv_aload_n hx hb dX8_readsLink_156 rfl (lv_at hl 4 rfl) ?_
            refine va_get (D := G.1) (ci := 7) (v := .ref (ad 2)) (C := RX8) (T := TX8) (N := 17) hx hb hts inA8 hown hX.1 hP 0 rfl rfl 2 (by decide) (hts _ kw_682) (fun _ h9 => h9) rfl dX8_readsLink_157 ?_
            refine lv_iconst (v := (nI 1)) hx hb dX8_readsLink_160 (by decide) ?_
            refine lv_dup2_11 hx hb dX8_readsLink_161 rfl rfl ?_
            refine nv_aldI (f := upd (upd (upd d (16 + L) (oN (fvM te ((rl1 te L (z, fo)).1)))) (28 + L) (oN (fvM te (rl2 te d L (z, fo)).1))) (40 + L) (oN (fvM te ((rl3 te d L (z, fo)).1)))) (k := 1) hx hb hX hP 2 rfl (by omega) (by decide) dX8_readsLink_162 ?_
            refine ti (y := (nI L)) (by unfold upd; rw [if_neg (by omega), if_neg (by omega), if_neg (by omega)]; exact hd1) ?_
            refine lv_iconst (v := (nI 1)) hx hb dX8_readsLink_163 (by decide) ?_
            refine lv_iadd hx hb dX8_readsLink_164 (ti (y := (nI (L + 1))) (nI_add _ _) ?_)
            refine nv_astI (f := upd (upd (upd d (16 + L) (oN (fvM te ((rl1 te L (z, fo)).1)))) (28 + L) (oN (fvM te (rl2 te d L (z, fo)).1))) (40 + L) (oN (fvM te ((rl3 te d L (z, fo)).1)))) (k := 1) (v := (nI (L + 1))) hx hb hX hP hD hS 2 rfl (by omega) (by decide) dX8_readsLink_165 (fun H locs hP hD hS => ?_)
            have hP : va_P G.1 vwCl (mow G ad ((rl4 te d L (z, fo)).1) ((rl4 te d L (z, fo)).2) sv (upd (upd (upd (upd d (16 + L) (oN (fvM te ((rl1 te L (z, fo)).1)))) (28 + L) (oN (fvM te (rl2 te d L (z, fo)).1))) (40 + L) (oN (fvM te ((rl3 te d L (z, fo)).1)))) 1 (nI (L + 1))) pa ke ik fa te aw) H := hP
            have hD : va_D A (mow G ad ((rl4 te d L (z, fo)).1) ((rl4 te d L (z, fo)).2) sv (upd (upd (upd (upd d (16 + L) (oN (fvM te ((rl1 te L (z, fo)).1)))) (28 + L) (oN (fvM te (rl2 te d L (z, fo)).1))) (40 + L) (oN (fvM te ((rl3 te d L (z, fo)).1)))) 1 (nI (L + 1))) pa ke ik fa te aw) := hD
            have e8 : rlD te d L (z, fo) = upd (upd (upd (upd d (16 + L) (oN (fvM te ((rl1 te L (z, fo)).1)))) (28 + L) (oN (fvM te (rl2 te d L (z, fo)).1))) (40 + L) (oN (fvM te ((rl3 te d L (z, fo)).1)))) 1 (nI (L + 1)) := by unfold rlD; rw [if_pos hq]
            have hP : va_P G.1 vwCl (mow G ad ((rl4 te d L (z, fo)).1) ((rl4 te d L (z, fo)).2) sv (rlD te d L (z, fo)) pa ke ik fa te aw) H := by rw [e8]; exact hP
            have hD : va_D A (mow G ad ((rl4 te d L (z, fo)).1) ((rl4 te d L (z, fo)).2) sv (rlD te d L (z, fo)) pa ke ik fa te aw) := by rw [e8]; exact hD
            exact re_v hx hb hr hlocks hS () hP hD trivial dX8_readsLink_166
          · refine ti (y := nI q) (by rw [hq]; rfl) ?_
            have hq31 := hf4 q hq
            refine lv_bipush (v := (-9)) hx hb dX8_readsLink_110 (by decide) ?_
            refine lv_icmp_ne (x := (nI q)) (y := (-9)) (tgt := 166) hx hb dX8_readsLink_112 (by decide) (fun _ => ?_) (fun h9 => absurd h9 (nI_n9 (by omega)))
            have e8 : rlD te d L (z, fo) = d := by unfold rlD; rw [if_neg (by rw [hq]; exact fun h => by cases h)]
            have hP : va_P G.1 vwCl (mow G ad ((rl4 te d L (z, fo)).1) ((rl4 te d L (z, fo)).2) sv (rlD te d L (z, fo)) pa ke ik fa te aw) H := by rw [e8]; exact hP
            have hD : va_D A (mow G ad ((rl4 te d L (z, fo)).1) ((rl4 te d L (z, fo)).2) sv (rlD te d L (z, fo)) pa ke ik fa te aw) := by rw [e8]; exact hD
            exact re_v hx hb hr hlocks hS () hP hD trivial dX8_readsLink_166
        · refine lv_aload_n hx hb dX8_readsLink_81 rfl (lv_at hl 2 rfl) ?_
          refine lv_iload_n hx hb dX8_readsLink_82 rfl (lv_at hl 1 rfl) ?_
          refine lv_iload_n hx hb dX8_readsLink_83 rfl (lv_at hl 0 rfl) ?_
          refine ca_Vi (ci := 7) (q := (RX8, TX8, 17)) (rest := [.ref (ad 0)]) (wr := ([] : va_W)) F hX (mX8_areLinked l G ad ((rl2 te d L (z, fo)).1) ((rl2 te d L (z, fo)).2) sv d pa ke ik fa te aw (oN (fvM te ((rl1 te L (z, fo)).1))) (oN (fvM te (rl2 te d L (z, fo)).1)) L hL hd1) (cA_V hts kw_782 kw_8 kw_779 kw_781 kp_27 hdX8_areLinked ⟨Nat.le_of_ble_eq_true rfl, Nat.le_of_ble_eq_true rfl⟩) rfl rfl rfl hl.1 rfl (Nat.le_of_ble_eq_true rfl) dX8_readsLink_84 ⟨Nat.le_of_ble_eq_true rfl, Nat.le_of_ble_eq_true rfl⟩ hP hD hS hA (pm_nil _) (fun r84 u84 H locs hp84 hP hD hS => ?_)
          have hP : va_P G.1 vwCl (mow G ad ((rl2 te d L (z, fo)).1) ((rl2 te d L (z, fo)).2) sv d pa ke ik fa te aw) H := wp_pm (pm_nil _).symm hP
          have hD : va_D A (mow G ad ((rl2 te d L (z, fo)).1) ((rl2 te d L (z, fo)).2) sv d pa ke ik fa te aw) := wd_pm (pm_nil _).symm hD
          subst hp84
          refine bv_ne (b := alB d (oN (fvM te ((rl1 te L (z, fo)).1))) (oN (fvM te (rl2 te d L (z, fo)).1)) L) (tgt := 94) hx hb dX8_readsLink_87 (by decide) (fun c87 => ?_) (fun c87 => ?_)
          · refine lv_iconst (v := (nI 0)) hx hb dX8_readsLink_94 (by decide) ?_
            refine ti (y := (bI (rlB te d L (z, fo)))) (by unfold rlB; rw [c73, decide_eq_false c78, c87] <;> rfl) ?_
            refine ca_Vv (ci := 7) (q := (RX8, TX8, 17)) (rest := []) (wr := ([] : va_W)) F hX (mX8_takes l G ad ((rl2 te d L (z, fo)).1) ((rl2 te d L (z, fo)).2) sv d pa ke ik fa te aw (rlB te d L (z, fo)) hY2 hf2) (cA_V hts kw_770 kw_8 kw_767 kw_769 kp_24 hdX8_takes ⟨Nat.le_of_ble_eq_true rfl, Nat.le_of_ble_eq_true rfl⟩) rfl rfl rfl hl.1 rfl (Nat.le_of_ble_eq_true rfl) dX8_readsLink_95 ⟨Nat.le_of_ble_eq_true rfl, Nat.le_of_ble_eq_true rfl⟩ hP hD hS hA (pm_nil _) (fun u95 H locs hp95 hP hD hS => ?_)
            have hP : va_P G.1 vwCl (mow G ad ((tkM te (rlB te d L (z, fo)) (rl2 te d L (z, fo))).1) ((tkM te (rlB te d L (z, fo)) (rl2 te d L (z, fo))).2) sv d pa ke ik fa te aw) H := wp_pm (pm_nil _).symm hP
            have hD : va_D A (mow G ad ((tkM te (rlB te d L (z, fo)) (rl2 te d L (z, fo))).1) ((tkM te (rlB te d L (z, fo)) (rl2 te d L (z, fo))).2) sv d pa ke ik fa te aw) := wd_pm (pm_nil _).symm hD
            have hP : va_P G.1 vwCl (mow G ad ((rl3 te d L (z, fo)).1) ((rl3 te d L (z, fo)).2) sv d pa ke ik fa te aw) H := by rw [show (rl3 te d L (z, fo)) = (tkM te (rlB te d L (z, fo)) (rl2 te d L (z, fo))) from rfl]; exact hP
            have hD : va_D A (mow G ad ((rl3 te d L (z, fo)).1) ((rl3 te d L (z, fo)).2) sv d pa ke ik fa te aw) := by rw [show (rl3 te d L (z, fo)) = (tkM te (rlB te d L (z, fo)) (rl2 te d L (z, fo))) from rfl]; exact hD
            refine lv_aload_n hx hb dX8_readsLink_98 rfl (lv_at hl 2 rfl) ?_
            refine lv_iconst (v := (nI 1)) hx hb dX8_readsLink_99 (by decide) ?_
            refine lv_bipush (v := (nI 9)) hx hb dX8_readsLink_100 (by decide) ?_
            refine ca_Vi (ci := 7) (q := (RX8, TX8, 17)) (rest := []) (wr := ([] : va_W)) F hX (mX8_figure l G ad ((rl3 te d L (z, fo)).1) ((rl3 te d L (z, fo)).2) sv d pa ke ik fa te aw (nI 1) (nI 9) hY3 hf3) (cA_V hts kw_774 kw_8 kw_771 kw_773 kp_25 hdX8_figure ⟨Nat.le_of_ble_eq_true rfl, Nat.le_of_ble_eq_true rfl⟩) rfl rfl rfl hl.1 rfl (Nat.le_of_ble_eq_true rfl) dX8_readsLink_102 ⟨Nat.le_of_ble_eq_true rfl, Nat.le_of_ble_eq_true rfl⟩ hP hD hS hA (pm_nil _) (fun r102 u102 H locs hp102 hP hD hS => ?_)
            have hP : va_P G.1 vwCl (mow G ad ((fgM te (nI 1) (nI 9) (rl3 te d L (z, fo))).1) ((fgM te (nI 1) (nI 9) (rl3 te d L (z, fo))).2) sv d pa ke ik fa te aw) H := wp_pm (pm_nil _).symm hP
            have hD : va_D A (mow G ad ((fgM te (nI 1) (nI 9) (rl3 te d L (z, fo))).1) ((fgM te (nI 1) (nI 9) (rl3 te d L (z, fo))).2) sv d pa ke ik fa te aw) := wd_pm (pm_nil _).symm hD
            subst hp102
            have hP : va_P G.1 vwCl (mow G ad ((rl4 te d L (z, fo)).1) ((rl4 te d L (z, fo)).2) sv d pa ke ik fa te aw) H := by rw [show (rl4 te d L (z, fo)) = (fgM te (nI 1) (nI 9) (rl3 te d L (z, fo))) from rfl]; exact hP
            have hD : va_D A (mow G ad ((rl4 te d L (z, fo)).1) ((rl4 te d L (z, fo)).2) sv d pa ke ik fa te aw) := by rw [show (rl4 te d L (z, fo)) = (fgM te (nI 1) (nI 9) (rl3 te d L (z, fo))) from rfl]; exact hD
            refine lv_istore_n (lv' := [(3, .int (oN (fvM te ((rl3 te d L (z, fo)).1)))), (2, .int (oN (fvM te (rl2 te d L (z, fo)).1))), (1, .int (oN (fvM te ((rl1 te L (z, fo)).1)))), (0, .ref (ad 0))]) hx hb dX8_readsLink_105 rfl hl (by decide) rfl (fun ls hl => ?_)
            refine lv_aload_n hx hb dX8_readsLink_106 rfl (lv_at hl 3 rfl) ?_
            refine va_get (D := G.1) (ci := 7) (v := .int (oN ((rl4 te d L (z, fo)).2))) (C := RX8) (T := TX8) (N := 17) hx hb hts inA8 hown hX.1 hP 0 rfl rfl 14 (by decide) (hts _ kw_694) (fun _ h9 => h9) rfl dX8_readsLink_107 ?_
            rcases opt_c ((rl4 te d L (z, fo)).2) with hq | ⟨q, hq⟩
            · refine ti (y := -9) (by rw [hq]; rfl) ?_
              have h12 : L < 12 := (rl_on (q := (z, fo)) hY hq).2.1
              refine lv_bipush (v := (-9)) hx hb dX8_readsLink_110 (by decide) ?_
              refine lv_icmp_ne (x := (-9)) (y := (-9)) (tgt := 166) hx hb dX8_readsLink_112 (by decide) (fun h9 => absurd rfl h9) (fun _ => ?_)
              refine lv_aload_n hx hb dX8_readsLink_115 rfl (lv_at hl 3 rfl) ?_
              refine va_get (D := G.1) (ci := 7) (v := .ref (ad 2)) (C := RX8) (T := TX8) (N := 17) hx hb hts inA8 hown hX.1 hP 0 rfl rfl 2 (by decide) (hts _ kw_682) (fun _ h9 => h9) rfl dX8_readsLink_116 ?_
              refine lv_iconst (v := (nI 1)) hx hb dX8_readsLink_119 (by decide) ?_
              refine nv_aldI (f := d) (k := 1) hx hb hX hP 2 rfl (by omega) (by decide) dX8_readsLink_120 ?_
              refine ti (y := (nI L)) hd1 ?_
              refine lv_istore (lv' := [(4, .int (nI L)), (3, .int (oN (fvM te ((rl3 te d L (z, fo)).1)))), (2, .int (oN (fvM te (rl2 te d L (z, fo)).1))), (1, .int (oN (fvM te ((rl1 te L (z, fo)).1)))), (0, .ref (ad 0))]) hx hb dX8_readsLink_121 hl (by decide) rfl (fun ls hl => ?_)
              refine lv_aload_n hx hb dX8_readsLink_123 rfl (lv_at hl 4 rfl) ?_
              refine va_get (D := G.1) (ci := 7) (v := .ref (ad 2)) (C := RX8) (T := TX8) (N := 17) hx hb hts inA8 hown hX.1 hP 0 rfl rfl 2 (by decide) (hts _ kw_682) (fun _ h9 => h9) rfl dX8_readsLink_124 ?_
              refine lv_bipush (v := (nI 16)) hx hb dX8_readsLink_127 (by decide) ?_
              refine lv_iload hx hb dX8_readsLink_129 (lv_at hl 0 rfl) ?_
              refine lv_iadd hx hb dX8_readsLink_131 (ti (y := (nI (16 + L))) (nI_add _ _) ?_)
              refine lv_iload_n hx hb dX8_readsLink_132 rfl (lv_at hl 3 rfl) ?_
              refine nv_astI (f := d) (k := 16 + L) (v := (oN (fvM te ((rl1 te L (z, fo)).1)))) hx hb hX hP hD hS 2 rfl (by omega) (by decide) dX8_readsLink_133 (fun H locs hP hD hS => ?_)
              have hP : va_P G.1 vwCl (mow G ad ((rl4 te d L (z, fo)).1) ((rl4 te d L (z, fo)).2) sv (upd d (16 + L) (oN (fvM te ((rl1 te L (z, fo)).1)))) pa ke ik fa te aw) H := hP
              have hD : va_D A (mow G ad ((rl4 te d L (z, fo)).1) ((rl4 te d L (z, fo)).2) sv (upd d (16 + L) (oN (fvM te ((rl1 te L (z, fo)).1)))) pa ke ik fa te aw) := hD
              refine lv_aload_n hx hb dX8_readsLink_134 rfl (lv_at hl 4 rfl) ?_
              refine va_get (D := G.1) (ci := 7) (v := .ref (ad 2)) (C := RX8) (T := TX8) (N := 17) hx hb hts inA8 hown hX.1 hP 0 rfl rfl 2 (by decide) (hts _ kw_682) (fun _ h9 => h9) rfl dX8_readsLink_135 ?_
              refine lv_bipush (v := (nI 28)) hx hb dX8_readsLink_138 (by decide) ?_
              refine lv_iload hx hb dX8_readsLink_140 (lv_at hl 0 rfl) ?_
              refine lv_iadd hx hb dX8_readsLink_142 (ti (y := (nI (28 + L))) (nI_add _ _) ?_)
              refine lv_iload_n hx hb dX8_readsLink_143 rfl (lv_at hl 2 rfl) ?_
              refine nv_astI (f := upd d (16 + L) (oN (fvM te ((rl1 te L (z, fo)).1)))) (k := 28 + L) (v := (oN (fvM te (rl2 te d L (z, fo)).1))) hx hb hX hP hD hS 2 rfl (by omega) (by decide) dX8_readsLink_144 (fun H locs hP hD hS => ?_)
              have hP : va_P G.1 vwCl (mow G ad ((rl4 te d L (z, fo)).1) ((rl4 te d L (z, fo)).2) sv (upd (upd d (16 + L) (oN (fvM te ((rl1 te L (z, fo)).1)))) (28 + L) (oN (fvM te (rl2 te d L (z, fo)).1))) pa ke ik fa te aw) H := hP
              have hD : va_D A (mow G ad ((rl4 te d L (z, fo)).1) ((rl4 te d L (z, fo)).2) sv (upd (upd d (16 + L) (oN (fvM te ((rl1 te L (z, fo)).1)))) (28 + L) (oN (fvM te (rl2 te d L (z, fo)).1))) pa ke ik fa te aw) := hD
              refine lv_aload_n hx hb dX8_readsLink_145 rfl (lv_at hl 4 rfl) ?_
              refine va_get (D := G.1) (ci := 7) (v := .ref (ad 2)) (C := RX8) (T := TX8) (N := 17) hx hb hts inA8 hown hX.1 hP 0 rfl rfl 2 (by decide) (hts _ kw_682) (fun _ h9 => h9) rfl dX8_readsLink_146 ?_
              refine lv_bipush (v := (nI 40)) hx hb dX8_readsLink_149 (by decide) ?_
              refine lv_iload hx hb dX8_readsLink_151 (lv_at hl 0 rfl) ?_
              refine lv_iadd hx hb dX8_readsLink_153 (ti (y := (nI (40 + L))) (nI_add _ _) ?_)
              refine lv_iload_n hx hb dX8_readsLink_154 rfl (lv_at hl 1 rfl) ?_
              refine nv_astI (f := upd (upd d (16 + L) (oN (fvM te ((rl1 te L (z, fo)).1)))) (28 + L) (oN (fvM te (rl2 te d L (z, fo)).1))) (k := 40 + L) (v := (oN (fvM te ((rl3 te d L (z, fo)).1)))) hx hb hX hP hD hS 2 rfl (by omega) (by decide) dX8_readsLink_155 (fun H locs hP hD hS => ?_)
              have hP : va_P G.1 vwCl (mow G ad ((rl4 te d L (z, fo)).1) ((rl4 te d L (z, fo)).2) sv (upd (upd (upd d (16 + L) (oN (fvM te ((rl1 te L (z, fo)).1)))) (28 + L) (oN (fvM te (rl2 te d L (z, fo)).1))) (40 + L) (oN (fvM te ((rl3 te d L (z, fo)).1)))) pa ke ik fa te aw) H := hP
              have hD : va_D A (mow G ad ((rl4 te d L (z, fo)).1) ((rl4 te d L (z, fo)).2) sv (upd (upd (upd d (16 + L) (oN (fvM te ((rl1 te L (z, fo)).1)))) (28 + L) (oN (fvM te (rl2 te d L (z, fo)).1))) (40 + L) (oN (fvM te ((rl3 te d L (z, fo)).1)))) pa ke ik fa te aw) := hD
              refine lv_aload_n hx hb dX8_readsLink_156 rfl (lv_at hl 4 rfl) ?_
              refine va_get (D := G.1) (ci := 7) (v := .ref (ad 2)) (C := RX8) (T := TX8) (N := 17) hx hb hts inA8 hown hX.1 hP 0 rfl rfl 2 (by decide) (hts _ kw_682) (fun _ h9 => h9) rfl dX8_readsLink_157 ?_
              refine lv_iconst (v := (nI 1)) hx hb dX8_readsLink_160 (by decide) ?_
              refine lv_dup2_11 hx hb dX8_readsLink_161 rfl rfl ?_
              refine nv_aldI (f := upd (upd (upd d (16 + L) (oN (fvM te ((rl1 te L (z, fo)).1)))) (28 + L) (oN (fvM te (rl2 te d L (z, fo)).1))) (40 + L) (oN (fvM te ((rl3 te d L (z, fo)).1)))) (k := 1) hx hb hX hP 2 rfl (by omega) (by decide) dX8_readsLink_162 ?_
              refine ti (y := (nI L)) (by unfold upd; rw [if_neg (by omega), if_neg (by omega), if_neg (by omega)]; exact hd1) ?_
              refine lv_iconst (v := (nI 1)) hx hb dX8_readsLink_163 (by decide) ?_
              refine lv_iadd hx hb dX8_readsLink_164 (ti (y := (nI (L + 1))) (nI_add _ _) ?_)
              refine nv_astI (f := upd (upd (upd d (16 + L) (oN (fvM te ((rl1 te L (z, fo)).1)))) (28 + L) (oN (fvM te (rl2 te d L (z, fo)).1))) (40 + L) (oN (fvM te ((rl3 te d L (z, fo)).1)))) (k := 1) (v := (nI (L + 1))) hx hb hX hP hD hS 2 rfl (by omega) (by decide) dX8_readsLink_165 (fun H locs hP hD hS => ?_)
              have hP : va_P G.1 vwCl (mow G ad ((rl4 te d L (z, fo)).1) ((rl4 te d L (z, fo)).2) sv (upd (upd (upd (upd d (16 + L) (oN (fvM te ((rl1 te L (z, fo)).1)))) (28 + L) (oN (fvM te (rl2 te d L (z, fo)).1))) (40 + L) (oN (fvM te ((rl3 te d L (z, fo)).1)))) 1 (nI (L + 1))) pa ke ik fa te aw) H := hP
              have hD : va_D A (mow G ad ((rl4 te d L (z, fo)).1) ((rl4 te d L (z, fo)).2) sv (upd (upd (upd (upd d (16 + L) (oN (fvM te ((rl1 te L (z, fo)).1)))) (28 + L) (oN (fvM te (rl2 te d L (z, fo)).1))) (40 + L) (oN (fvM te ((rl3 te d L (z, fo)).1)))) 1 (nI (L + 1))) pa ke ik fa te aw) := hD
              have e8 : rlD te d L (z, fo) = upd (upd (upd (upd d (16 + L) (oN (fvM te ((rl1 te L (z, fo)).1)))) (28 + L) (oN (fvM te (rl2 te d L (z, fo)).1))) (40 + L) (oN (fvM te ((rl3 te d L (z, fo)).1)))) 1 (nI (L + 1)) := by unfold rlD; rw [if_pos hq]
              have hP : va_P G.1 vwCl (mow G ad ((rl4 te d L (z, fo)).1) ((rl4 te d L (z, fo)).2) sv (rlD te d L (z, fo)) pa ke ik fa te aw) H := by rw [e8]; exact hP
              have hD : va_D A (mow G ad ((rl4 te d L (z, fo)).1) ((rl4 te d L (z, fo)).2) sv (rlD te d L (z, fo)) pa ke ik fa te aw) := by rw [e8]; exact hD
              exact re_v hx hb hr hlocks hS () hP hD trivial dX8_readsLink_166
            · refine ti (y := nI q) (by rw [hq]; rfl) ?_
              have hq31 := hf4 q hq
              refine lv_bipush (v := (-9)) hx hb dX8_readsLink_110 (by decide) ?_
              refine lv_icmp_ne (x := (nI q)) (y := (-9)) (tgt := 166) hx hb dX8_readsLink_112 (by decide) (fun _ => ?_) (fun h9 => absurd h9 (nI_n9 (by omega)))
              have e8 : rlD te d L (z, fo) = d := by unfold rlD; rw [if_neg (by rw [hq]; exact fun h => by cases h)]
              have hP : va_P G.1 vwCl (mow G ad ((rl4 te d L (z, fo)).1) ((rl4 te d L (z, fo)).2) sv (rlD te d L (z, fo)) pa ke ik fa te aw) H := by rw [e8]; exact hP
              have hD : va_D A (mow G ad ((rl4 te d L (z, fo)).1) ((rl4 te d L (z, fo)).2) sv (rlD te d L (z, fo)) pa ke ik fa te aw) := by rw [e8]; exact hD
              exact re_v hx hb hr hlocks hS () hP hD trivial dX8_readsLink_166
          · refine lv_iconst (v := (nI 1)) hx hb dX8_readsLink_90 (by decide) ?_
            refine lv_goto (tgt := 95) hx hb dX8_readsLink_91 (by decide) ?_
            refine ti (y := (bI (rlB te d L (z, fo)))) (by unfold rlB; rw [c73, decide_eq_false c78, c87] <;> rfl) ?_
            refine ca_Vv (ci := 7) (q := (RX8, TX8, 17)) (rest := []) (wr := ([] : va_W)) F hX (mX8_takes l G ad ((rl2 te d L (z, fo)).1) ((rl2 te d L (z, fo)).2) sv d pa ke ik fa te aw (rlB te d L (z, fo)) hY2 hf2) (cA_V hts kw_770 kw_8 kw_767 kw_769 kp_24 hdX8_takes ⟨Nat.le_of_ble_eq_true rfl, Nat.le_of_ble_eq_true rfl⟩) rfl rfl rfl hl.1 rfl (Nat.le_of_ble_eq_true rfl) dX8_readsLink_95 ⟨Nat.le_of_ble_eq_true rfl, Nat.le_of_ble_eq_true rfl⟩ hP hD hS hA (pm_nil _) (fun u95 H locs hp95 hP hD hS => ?_)
            have hP : va_P G.1 vwCl (mow G ad ((tkM te (rlB te d L (z, fo)) (rl2 te d L (z, fo))).1) ((tkM te (rlB te d L (z, fo)) (rl2 te d L (z, fo))).2) sv d pa ke ik fa te aw) H := wp_pm (pm_nil _).symm hP
            have hD : va_D A (mow G ad ((tkM te (rlB te d L (z, fo)) (rl2 te d L (z, fo))).1) ((tkM te (rlB te d L (z, fo)) (rl2 te d L (z, fo))).2) sv d pa ke ik fa te aw) := wd_pm (pm_nil _).symm hD
            have hP : va_P G.1 vwCl (mow G ad ((rl3 te d L (z, fo)).1) ((rl3 te d L (z, fo)).2) sv d pa ke ik fa te aw) H := by rw [show (rl3 te d L (z, fo)) = (tkM te (rlB te d L (z, fo)) (rl2 te d L (z, fo))) from rfl]; exact hP
            have hD : va_D A (mow G ad ((rl3 te d L (z, fo)).1) ((rl3 te d L (z, fo)).2) sv d pa ke ik fa te aw) := by rw [show (rl3 te d L (z, fo)) = (tkM te (rlB te d L (z, fo)) (rl2 te d L (z, fo))) from rfl]; exact hD
            refine lv_aload_n hx hb dX8_readsLink_98 rfl (lv_at hl 2 rfl) ?_
            refine lv_iconst (v := (nI 1)) hx hb dX8_readsLink_99 (by decide) ?_
            refine lv_bipush (v := (nI 9)) hx hb dX8_readsLink_100 (by decide) ?_
            refine ca_Vi (ci := 7) (q := (RX8, TX8, 17)) (rest := []) (wr := ([] : va_W)) F hX (mX8_figure l G ad ((rl3 te d L (z, fo)).1) ((rl3 te d L (z, fo)).2) sv d pa ke ik fa te aw (nI 1) (nI 9) hY3 hf3) (cA_V hts kw_774 kw_8 kw_771 kw_773 kp_25 hdX8_figure ⟨Nat.le_of_ble_eq_true rfl, Nat.le_of_ble_eq_true rfl⟩) rfl rfl rfl hl.1 rfl (Nat.le_of_ble_eq_true rfl) dX8_readsLink_102 ⟨Nat.le_of_ble_eq_true rfl, Nat.le_of_ble_eq_true rfl⟩ hP hD hS hA (pm_nil _) (fun r102 u102 H locs hp102 hP hD hS => ?_)
            have hP : va_P G.1 vwCl (mow G ad ((fgM te (nI 1) (nI 9) (rl3 te d L (z, fo))).1) ((fgM te (nI 1) (nI 9) (rl3 te d L (z, fo))).2) sv d pa ke ik fa te aw) H := wp_pm (pm_nil _).symm hP
            have hD : va_D A (mow G ad ((fgM te (nI 1) (nI 9) (rl3 te d L (z, fo))).1) ((fgM te (nI 1) (nI 9) (rl3 te d L (z, fo))).2) sv d pa ke ik fa te aw) := wd_pm (pm_nil _).symm hD
            subst hp102
            have hP : va_P G.1 vwCl (mow G ad ((rl4 te d L (z, fo)).1) ((rl4 te d L (z, fo)).2) sv d pa ke ik fa te aw) H := by rw [show (rl4 te d L (z, fo)) = (fgM te (nI 1) (nI 9) (rl3 te d L (z, fo))) from rfl]; exact hP
            have hD : va_D A (mow G ad ((rl4 te d L (z, fo)).1) ((rl4 te d L (z, fo)).2) sv d pa ke ik fa te aw) := by rw [show (rl4 te d L (z, fo)) = (fgM te (nI 1) (nI 9) (rl3 te d L (z, fo))) from rfl]; exact hD
            refine lv_istore_n (lv' := [(3, .int (oN (fvM te ((rl3 te d L (z, fo)).1)))), (2, .int (oN (fvM te (rl2 te d L (z, fo)).1))), (1, .int (oN (fvM te ((rl1 te L (z, fo)).1)))), (0, .ref (ad 0))]) hx hb dX8_readsLink_105 rfl hl (by decide) rfl (fun ls hl => ?_)
            refine lv_aload_n hx hb dX8_readsLink_106 rfl (lv_at hl 3 rfl) ?_
            refine va_get (D := G.1) (ci := 7) (v := .int (oN ((rl4 te d L (z, fo)).2))) (C := RX8) (T := TX8) (N := 17) hx hb hts inA8 hown hX.1 hP 0 rfl rfl 14 (by decide) (hts _ kw_694) (fun _ h9 => h9) rfl dX8_readsLink_107 ?_
            rcases opt_c ((rl4 te d L (z, fo)).2) with hq | ⟨q, hq⟩
            · refine ti (y := -9) (by rw [hq]; rfl) ?_
              have h12 : L < 12 := (rl_on (q := (z, fo)) hY hq).2.1
              refine lv_bipush (v := (-9)) hx hb dX8_readsLink_110 (by decide) ?_
              refine lv_icmp_ne (x := (-9)) (y := (-9)) (tgt := 166) hx hb dX8_readsLink_112 (by decide) (fun h9 => absurd rfl h9) (fun _ => ?_)
              refine lv_aload_n hx hb dX8_readsLink_115 rfl (lv_at hl 3 rfl) ?_
              refine va_get (D := G.1) (ci := 7) (v := .ref (ad 2)) (C := RX8) (T := TX8) (N := 17) hx hb hts inA8 hown hX.1 hP 0 rfl rfl 2 (by decide) (hts _ kw_682) (fun _ h9 => h9) rfl dX8_readsLink_116 ?_
              refine lv_iconst (v := (nI 1)) hx hb dX8_readsLink_119 (by decide) ?_
              refine nv_aldI (f := d) (k := 1) hx hb hX hP 2 rfl (by omega) (by decide) dX8_readsLink_120 ?_
              refine ti (y := (nI L)) hd1 ?_
              refine lv_istore (lv' := [(4, .int (nI L)), (3, .int (oN (fvM te ((rl3 te d L (z, fo)).1)))), (2, .int (oN (fvM te (rl2 te d L (z, fo)).1))), (1, .int (oN (fvM te ((rl1 te L (z, fo)).1)))), (0, .ref (ad 0))]) hx hb dX8_readsLink_121 hl (by decide) rfl (fun ls hl => ?_)
              refine lv_aload_n hx hb dX8_readsLink_123 rfl (lv_at hl 4 rfl) ?_
              refine va_get (D := G.1) (ci := 7) (v := .ref (ad 2)) (C := RX8) (T := TX8) (N := 17) hx hb hts inA8 hown hX.1 hP 0 rfl rfl 2 (by decide) (hts _ kw_682) (fun _ h9 => h9) rfl dX8_readsLink_124 ?_
              refine lv_bipush (v := (nI 16)) hx hb dX8_readsLink_127 (by decide) ?_
              refine lv_iload hx hb dX8_readsLink_129 (lv_at hl 0 rfl) ?_
              refine lv_iadd hx hb dX8_readsLink_131 (ti (y := (nI (16 + L))) (nI_add _ _) ?_)
              refine lv_iload_n hx hb dX8_readsLink_132 rfl (lv_at hl 3 rfl) ?_
              refine nv_astI (f := d) (k := 16 + L) (v := (oN (fvM te ((rl1 te L (z, fo)).1)))) hx hb hX hP hD hS 2 rfl (by omega) (by decide) dX8_readsLink_133 (fun H locs hP hD hS => ?_)
              have hP : va_P G.1 vwCl (mow G ad ((rl4 te d L (z, fo)).1) ((rl4 te d L (z, fo)).2) sv (upd d (16 + L) (oN (fvM te ((rl1 te L (z, fo)).1)))) pa ke ik fa te aw) H := hP
              have hD : va_D A (mow G ad ((rl4 te d L (z, fo)).1) ((rl4 te d L (z, fo)).2) sv (upd d (16 + L) (oN (fvM te ((rl1 te L (z, fo)).1)))) pa ke ik fa te aw) := hD
              refine lv_aload_n hx hb dX8_readsLink_134 rfl (lv_at hl 4 rfl) ?_
              refine va_get (D := G.1) (ci := 7) (v := .ref (ad 2)) (C := RX8) (T := TX8) (N := 17) hx hb hts inA8 hown hX.1 hP 0 rfl rfl 2 (by decide) (hts _ kw_682) (fun _ h9 => h9) rfl dX8_readsLink_135 ?_
              refine lv_bipush (v := (nI 28)) hx hb dX8_readsLink_138 (by decide) ?_
              refine lv_iload hx hb dX8_readsLink_140 (lv_at hl 0 rfl) ?_
              refine lv_iadd hx hb dX8_readsLink_142 (ti (y := (nI (28 + L))) (nI_add _ _) ?_)
              refine lv_iload_n hx hb dX8_readsLink_143 rfl (lv_at hl 2 rfl) ?_
              refine nv_astI (f := upd d (16 + L) (oN (fvM te ((rl1 te L (z, fo)).1)))) (k := 28 + L) (v := (oN (fvM te (rl2 te d L (z, fo)).1))) hx hb hX hP hD hS 2 rfl (by omega) (by decide) dX8_readsLink_144 (fun H locs hP hD hS => ?_)
              have hP : va_P G.1 vwCl (mow G ad ((rl4 te d L (z, fo)).1) ((rl4 te d L (z, fo)).2) sv (upd (upd d (16 + L) (oN (fvM te ((rl1 te L (z, fo)).1)))) (28 + L) (oN (fvM te (rl2 te d L (z, fo)).1))) pa ke ik fa te aw) H := hP
              have hD : va_D A (mow G ad ((rl4 te d L (z, fo)).1) ((rl4 te d L (z, fo)).2) sv (upd (upd d (16 + L) (oN (fvM te ((rl1 te L (z, fo)).1)))) (28 + L) (oN (fvM te (rl2 te d L (z, fo)).1))) pa ke ik fa te aw) := hD
              refine lv_aload_n hx hb dX8_readsLink_145 rfl (lv_at hl 4 rfl) ?_
              refine va_get (D := G.1) (ci := 7) (v := .ref (ad 2)) (C := RX8) (T := TX8) (N := 17) hx hb hts inA8 hown hX.1 hP 0 rfl rfl 2 (by decide) (hts _ kw_682) (fun _ h9 => h9) rfl dX8_readsLink_146 ?_
              refine lv_bipush (v := (nI 40)) hx hb dX8_readsLink_149 (by decide) ?_
              refine lv_iload hx hb dX8_readsLink_151 (lv_at hl 0 rfl) ?_
              refine lv_iadd hx hb dX8_readsLink_153 (ti (y := (nI (40 + L))) (nI_add _ _) ?_)
              refine lv_iload_n hx hb dX8_readsLink_154 rfl (lv_at hl 1 rfl) ?_
              refine nv_astI (f := upd (upd d (16 + L) (oN (fvM te ((rl1 te L (z, fo)).1)))) (28 + L) (oN (fvM te (rl2 te d L (z, fo)).1))) (k := 40 + L) (v := (oN (fvM te ((rl3 te d L (z, fo)).1)))) hx hb hX hP hD hS 2 rfl (by omega) (by decide) dX8_readsLink_155 (fun H locs hP hD hS => ?_)
              have hP : va_P G.1 vwCl (mow G ad ((rl4 te d L (z, fo)).1) ((rl4 te d L (z, fo)).2) sv (upd (upd (upd d (16 + L) (oN (fvM te ((rl1 te L (z, fo)).1)))) (28 + L) (oN (fvM te (rl2 te d L (z, fo)).1))) (40 + L) (oN (fvM te ((rl3 te d L (z, fo)).1)))) pa ke ik fa te aw) H := hP
              have hD : va_D A (mow G ad ((rl4 te d L (z, fo)).1) ((rl4 te d L (z, fo)).2) sv (upd (upd (upd d (16 + L) (oN (fvM te ((rl1 te L (z, fo)).1)))) (28 + L) (oN (fvM te (rl2 te d L (z, fo)).1))) (40 + L) (oN (fvM te ((rl3 te d L (z, fo)).1)))) pa ke ik fa te aw) := hD
              refine lv_aload_n hx hb dX8_readsLink_156 rfl (lv_at hl 4 rfl) ?_
              refine va_get (D := G.1) (ci := 7) (v := .ref (ad 2)) (C := RX8) (T := TX8) (N := 17) hx hb hts inA8 hown hX.1 hP 0 rfl rfl 2 (by decide) (hts _ kw_682) (fun _ h9 => h9) rfl dX8_readsLink_157 ?_
              refine lv_iconst (v := (nI 1)) hx hb dX8_readsLink_160 (by decide) ?_
              refine lv_dup2_11 hx hb dX8_readsLink_161 rfl rfl ?_
              refine nv_aldI (f := upd (upd (upd d (16 + L) (oN (fvM te ((rl1 te L (z, fo)).1)))) (28 + L) (oN (fvM te (rl2 te d L (z, fo)).1))) (40 + L) (oN (fvM te ((rl3 te d L (z, fo)).1)))) (k := 1) hx hb hX hP 2 rfl (by omega) (by decide) dX8_readsLink_162 ?_
              refine ti (y := (nI L)) (by unfold upd; rw [if_neg (by omega), if_neg (by omega), if_neg (by omega)]; exact hd1) ?_
              refine lv_iconst (v := (nI 1)) hx hb dX8_readsLink_163 (by decide) ?_
              refine lv_iadd hx hb dX8_readsLink_164 (ti (y := (nI (L + 1))) (nI_add _ _) ?_)
              refine nv_astI (f := upd (upd (upd d (16 + L) (oN (fvM te ((rl1 te L (z, fo)).1)))) (28 + L) (oN (fvM te (rl2 te d L (z, fo)).1))) (40 + L) (oN (fvM te ((rl3 te d L (z, fo)).1)))) (k := 1) (v := (nI (L + 1))) hx hb hX hP hD hS 2 rfl (by omega) (by decide) dX8_readsLink_165 (fun H locs hP hD hS => ?_)
              have hP : va_P G.1 vwCl (mow G ad ((rl4 te d L (z, fo)).1) ((rl4 te d L (z, fo)).2) sv (upd (upd (upd (upd d (16 + L) (oN (fvM te ((rl1 te L (z, fo)).1)))) (28 + L) (oN (fvM te (rl2 te d L (z, fo)).1))) (40 + L) (oN (fvM te ((rl3 te d L (z, fo)).1)))) 1 (nI (L + 1))) pa ke ik fa te aw) H := hP
              have hD : va_D A (mow G ad ((rl4 te d L (z, fo)).1) ((rl4 te d L (z, fo)).2) sv (upd (upd (upd (upd d (16 + L) (oN (fvM te ((rl1 te L (z, fo)).1)))) (28 + L) (oN (fvM te (rl2 te d L (z, fo)).1))) (40 + L) (oN (fvM te ((rl3 te d L (z, fo)).1)))) 1 (nI (L + 1))) pa ke ik fa te aw) := hD
              have e8 : rlD te d L (z, fo) = upd (upd (upd (upd d (16 + L) (oN (fvM te ((rl1 te L (z, fo)).1)))) (28 + L) (oN (fvM te (rl2 te d L (z, fo)).1))) (40 + L) (oN (fvM te ((rl3 te d L (z, fo)).1)))) 1 (nI (L + 1)) := by unfold rlD; rw [if_pos hq]
              have hP : va_P G.1 vwCl (mow G ad ((rl4 te d L (z, fo)).1) ((rl4 te d L (z, fo)).2) sv (rlD te d L (z, fo)) pa ke ik fa te aw) H := by rw [e8]; exact hP
              have hD : va_D A (mow G ad ((rl4 te d L (z, fo)).1) ((rl4 te d L (z, fo)).2) sv (rlD te d L (z, fo)) pa ke ik fa te aw) := by rw [e8]; exact hD
              exact re_v hx hb hr hlocks hS () hP hD trivial dX8_readsLink_166
            · refine ti (y := nI q) (by rw [hq]; rfl) ?_
              have hq31 := hf4 q hq
              refine lv_bipush (v := (-9)) hx hb dX8_readsLink_110 (by decide) ?_
              refine lv_icmp_ne (x := (nI q)) (y := (-9)) (tgt := 166) hx hb dX8_readsLink_112 (by decide) (fun _ => ?_) (fun h9 => absurd h9 (nI_n9 (by omega)))
              have e8 : rlD te d L (z, fo) = d := by unfold rlD; rw [if_neg (by rw [hq]; exact fun h => by cases h)]
              have hP : va_P G.1 vwCl (mow G ad ((rl4 te d L (z, fo)).1) ((rl4 te d L (z, fo)).2) sv (rlD te d L (z, fo)) pa ke ik fa te aw) H := by rw [e8]; exact hP
              have hD : va_D A (mow G ad ((rl4 te d L (z, fo)).1) ((rl4 te d L (z, fo)).2) sv (rlD te d L (z, fo)) pa ke ik fa te aw) := by rw [e8]; exact hD
              exact re_v hx hb hr hlocks hS () hP hD trivial dX8_readsLink_166

theorem fo_fg {te : Nat → Nat} {q : FS} {lo hi : Int32} (h : YB te q.1) (hf : ∀ x, q.2 = some x → x < 2 ^ 31) : ∀ x, (fgM te lo hi q).2 = some x → x < 2 ^ 31 := fo_tk h hf
theorem fo_i1 {te : Nat → Nat} {x : RS} (h : YR te x) (hf : ∀ q, x.2.2.2.2.2 = some q → q < 2 ^ 31) : ∀ q, (it1 te x).2.2.2.2.2 = some q → q < 2 ^ 31 := by
  have h1 := h.1
  unfold it1
  split
  · exact fo_fg (h1.tk _) (fo_tk h1 hf)
  · split
    · exact fo_fg (h1.tk _) (fo_tk h1 hf)
    · split
      · exact fo_fg (h1.tk _) (fo_tk h1 hf)
      · split
        · exact fo_fg (h1.r3 _ _) (fo_tk (h1.r2 _ _) (fo_fg (h1.r1 _) (fo_tk h1 hf)))
        · exact fo_tk h1 hf
theorem rd_mu {te : Nat → Nat} {x : RS} (h : YR te x) (h0 : x.2.2.2.2.1 13 ≠ 0) (hq : x.2.2.2.2.2 = none) : (if (itM te x).2.2.2.2.2 = none then 1 + ((itM te x).2.2.2.2.1 10 - (itM te x).2.2.2.2.1 11) else 0) < (if x.2.2.2.2.2 = none then 1 + (x.2.2.2.2.1 10 - x.2.2.2.2.1 11) else 0) := by
  rw [if_pos hq]
  split
  · rename_i e
    have a := it_on h e h0
    have b := it_10 te x
    have c1 := h.it.1.2.2.1
    have c2 := h.it.1.2.2.2.1
    rw [b]
    rw [b] at c2
    omega
  · omega

theorem hdX8_reads : hdOK yX8_reads 0 := by decide +kernel
set_option maxHeartbeats 4000000 in
set_option maxRecDepth 100000 in
theorem mX8_reads (l : Launch) (G : GG) (ad : Nat → Nat) (z : Nat → Nat) (fo : Option Nat) (sv : Nat → Nat) (d : Nat → Int32) (pa ke : Nat → Nat) (ik fa : Nat → Int32) (te aw : Nat → Nat) (ht9 : ∀ j, te j < 256) (hz : z 10 ≤ 120) : Mi l yX8_reads cX8_reads 3 (some .int) (rmN 7 151) G [.ref (ad 0)] (mow G ad z fo sv d pa ke ik fa te aw) (fun (r9 : Int32) (_ : Unit) => r9 = (nI ((rxA te z d).1))) (fun (_ : Unit) => mow G ad ((rxA te z d).2.2.2.2.1) ((rxA te z d).2.2.2.2.2) sv ((rxA te z d).2.2.1) pa ke ik fa te aw) := by
  refine Mi.of (cc := cX8_reads) (nL := 3) (by decide) (Nat.le_of_ble_eq_true rfl) ?_
  intro p e s m below meth c A ls F hr hlocks hnm hX hA hD hP hS hl
  have F : CallFix p m c cX8_reads 3 s [.ref (ad 0)].toArray wA RX8 := F
  obtain ⟨hx, hb, hml, hown, hts⟩ := id F
  have hl : lv_has ls 3 [(0, .ref (ad 0))] := hl
  refine lv_iconst (v := (nI 0)) hx hb dX8_reads_0 (by decide) ?_
  refine lv_istore_n (lv' := [(1, .int (nI 0)), (0, .ref (ad 0))]) hx hb dX8_reads_1 rfl hl (by decide) rfl (fun ls hl => ?_)
  have lp2 : ∀ (n2 : Nat) (k : Nat) (y : Nat → Int32), (52 - k) < n2 → y = dzP d k → (k ≤ 52) → ∀ (H : Heap) (locs : List Loc), va_P G.1 vwCl (mow G ad z fo sv y pa ke ik fa te aw) H → va_D A (mow G ad z fo sv y pa ke ik fa te aw) → va_S A s.heap H locs → ∀ (ls : Array Slot), lv_has ls 3 [(0, .ref (ad 0)), (1, .int (nI k))] → WI p l e (rmN 7 151) s m [.ref (ad 0)] below meth c H locs G A (fun (r9 : Int32) (_ : Unit) => r9 = (nI ((rxA te z d).1))) (fun (_ : Unit) => mow G ad ((rxA te z d).2.2.2.2.1) ((rxA te z d).2.2.2.2.2) sv ((rxA te z d).2.2.1) pa ke ik fa te aw) (F0 m 2 ls []) := by
    intro n2
    induction n2 with
    | zero => intro k y h9; exact absurd h9 (Nat.not_lt_zero _)
    | succ n2 ih2 =>
      intro k y hm2 e_y hk H locs hP hD hS ls hl
      subst e_y
      refine lv_iload_n hx hb dX8_reads_2 rfl (lv_at hl 1 rfl) ?_
      refine lv_bipush (v := (nI 52)) hx hb dX8_reads_3 (by decide) ?_
      refine nv_ge (x := k) (y := 52) (tgt := 21) hx hb dX8_reads_5 (by decide) (by omega) (by decide) (fun c5 => ?_) (fun c5 => ?_)
      · refine lv_aload_n hx hb dX8_reads_21 rfl (lv_at hl 0 rfl) ?_
        refine va_get (D := G.1) (ci := 7) (v := .ref (ad 2)) (C := RX8) (T := TX8) (N := 17) hx hb hts inA8 hown hX.1 hP 0 rfl rfl 2 (by decide) (hts _ kw_682) (fun _ h9 => h9) rfl dX8_reads_22 ?_
        refine lv_iconst (v := (nI 0)) hx hb dX8_reads_25 (by decide) ?_
        refine lv_iconst (v := (nI 2)) hx hb dX8_reads_26 (by decide) ?_
        refine nv_astI (f := (dzP d k)) (k := 0) (v := (nI 2)) hx hb hX hP hD hS 2 rfl (by omega) (by decide) dX8_reads_27 (fun H locs hP hD hS => ?_)
        have hP : va_P G.1 vwCl (mow G ad z fo sv (upd (dzP d k) 0 (nI 2)) pa ke ik fa te aw) H := hP
        have hD : va_D A (mow G ad z fo sv (upd (dzP d k) 0 (nI 2)) pa ke ik fa te aw) := hD
        refine lv_iconst (v := (nI 0)) hx hb dX8_reads_28 (by decide) ?_
        refine lv_istore_n (lv' := [(1, .int (nI 0)), (0, .ref (ad 0))]) hx hb dX8_reads_29 rfl hl (by decide) rfl (fun ls hl => ?_)
        refine lv_aload_n hx hb dX8_reads_30 rfl (lv_at hl 1 rfl) ?_
        refine lv_bipush (v := (-9)) hx hb dX8_reads_31 (by decide) ?_
        refine va_put (D := G.1) (ci := 7) (v := .int (-9)) (ty := .int) (C := RX8) (T := TX8) (N := 17) hx hb hts inA8 tyX8 tyX8_ok nmX8 hown hX.1 hP hD hS 0 rfl rfl 14 (by decide) (hts _ kw_694) (fun _ h9 => h9) rfl (by decide +kernel) rfl rfl (Nat.le_of_ble_eq_true rfl) dX8_reads_33 (fun H locs hP hD hS => ?_)
        have hP : va_P G.1 vwCl (mow G ad z none sv (upd (dzP d k) 0 (nI 2)) pa ke ik fa te aw) H := hP
        have hD : va_D A (mow G ad z none sv (upd (dzP d k) 0 (nI 2)) pa ke ik fa te aw) := hD
        refine lv_aload_n hx hb dX8_reads_36 rfl (lv_at hl 1 rfl) ?_
        refine lv_iconst (v := (nI 0)) hx hb dX8_reads_37 (by decide) ?_
        refine va_put (D := G.1) (ci := 7) (v := .int (nI 0)) (ty := .int) (C := RX8) (T := TX8) (N := 17) hx hb hts inA8 tyX8 tyX8_ok nmX8 hown hX.1 hP hD hS 0 rfl rfl 12 (by decide) (hts _ kw_692) (fun _ h9 => h9) rfl (by decide +kernel) rfl rfl (Nat.le_of_ble_eq_true rfl) dX8_reads_38 (fun H locs hP hD hS => ?_)
        have hP : va_P G.1 vwCl (mow G ad (va_up z 12 0) none sv (upd (dzP d k) 0 (nI 2)) pa ke ik fa te aw) H := hP
        have hD : va_D A (mow G ad (va_up z 12 0) none sv (upd (dzP d k) 0 (nI 2)) pa ke ik fa te aw) := hD
        refine lv_aload_n hx hb dX8_reads_41 rfl (lv_at hl 1 rfl) ?_
        refine ca_Vv (ci := 7) (q := (RX8, TX8, 17)) (rest := []) (wr := ([] : va_W)) F hX (mX8_steps l G ad (va_up z 12 0) none sv (upd (dzP d k) 0 (nI 2)) pa ke ik fa te aw  ht9 hz (Nat.zero_le _)) (cA_V hts kw_754 kw_8 kw_751 kw_753 kp_20 hdX8_steps ⟨Nat.le_of_ble_eq_true rfl, Nat.le_of_ble_eq_true rfl⟩) rfl rfl rfl hl.1 rfl (Nat.le_of_ble_eq_true rfl) dX8_reads_42 ⟨Nat.le_of_ble_eq_true rfl, Nat.le_of_ble_eq_true rfl⟩ hP hD hS hA (pm_nil _) (fun u42 H locs hp42 hP hD hS => ?_)
        have hP : va_P G.1 vwCl (mow G ad (stZ te (va_up z 12 0)) none sv (upd (dzP d k) 0 (nI 2)) pa ke ik fa te aw) H := wp_pm (pm_nil _).symm hP
        have hD : va_D A (mow G ad (stZ te (va_up z 12 0)) none sv (upd (dzP d k) 0 (nI 2)) pa ke ik fa te aw) := wd_pm (pm_nil _).symm hD
        refine lv_iconst (v := (nI 0)) hx hb dX8_reads_45 (by decide) ?_
        refine lv_istore_n (lv' := [(2, .int (nI 0)), (1, .int (nI 0)), (0, .ref (ad 0))]) hx hb dX8_reads_46 rfl hl (by decide) rfl (fun ls hl => ?_)
        have lp47 : ∀ (n47 : Nat) (m9 : Nat) (it : Nat) (hs : Bool) (y : Nat → Int32) (L : Nat) (zz : Nat → Nat) (ff : Option Nat), (if ff = none then 1 + (zz 10 - zz 11) else 0) < n47 → (YR te (it, hs, y, L, zz, ff)) → (∀ q, ff = some q → q < 2 ^ 31) → (it ≤ 121 ∧ (ff = none → it ≤ zz 11)) → ((if ff = none then 1 + (zz 10 - zz 11) else 0) ≤ m9) → (rdM te m9 (it, hs, y, L, zz, ff) = rxA te z d) → ∀ (H : Heap) (locs : List Loc), va_P G.1 vwCl (mow G ad zz ff sv y pa ke ik fa te aw) H → va_D A (mow G ad zz ff sv y pa ke ik fa te aw) → va_S A s.heap H locs → ∀ (ls : Array Slot), lv_has ls 3 [(0, .ref (ad 0)), (1, .int (bI hs)), (2, .int (nI it))] → WI p l e (rmN 7 151) s m [.ref (ad 0)] below meth c H locs G A (fun (r9 : Int32) (_ : Unit) => r9 = (nI ((rxA te z d).1))) (fun (_ : Unit) => mow G ad ((rxA te z d).2.2.2.2.1) ((rxA te z d).2.2.2.2.2) sv ((rxA te z d).2.2.1) pa ke ik fa te aw) (F0 m 47 ls []) := by
          intro n47
          induction n47 with
          | zero => intro m9 it hs y L zz ff h9; exact absurd h9 (Nat.not_lt_zero _)
          | succ n47 ih47 =>
            intro m9 it hs y L zz ff hm47  hR hff hit hmm hres H locs hP hD hS ls hl
            refine lv_aload_n hx hb dX8_reads_47 rfl (lv_at hl 0 rfl) ?_
            refine va_get (D := G.1) (ci := 7) (v := .int (oN ff)) (C := RX8) (T := TX8) (N := 17) hx hb hts inA8 hown hX.1 hP 0 rfl rfl 14 (by decide) (hts _ kw_694) (fun _ h9 => h9) rfl dX8_reads_48 ?_
            rcases opt_c ff with hq | ⟨q, hq⟩
            · refine ti (y := -9) (by rw [hq]; rfl) ?_
              refine lv_bipush (v := (-9)) hx hb dX8_reads_51 (by decide) ?_
              refine lv_icmp_ne (x := (-9)) (y := (-9)) (tgt := 219) hx hb dX8_reads_53 (by decide) (fun h9 => absurd rfl h9) (fun _ => ?_)
              refine lv_aload_n hx hb dX8_reads_56 rfl (lv_at hl 0 rfl) ?_
              refine va_get (D := G.1) (ci := 7) (v := .int (nI (zz 13))) (C := RX8) (T := TX8) (N := 17) hx hb hts inA8 hown hX.1 hP 0 rfl rfl 13 (by decide) (hts _ kw_693) (fun _ h9 => h9) rfl dX8_reads_57 ?_
              refine nv_zeq (x := zz 13) (tgt := 219) hx hb dX8_reads_60 (by decide) (by have := hR.1.2.2.2.2.1; have h9 : zz 13 ≤ 7 := this; omega) (fun c60 => ?_) (fun c60 => ?_)
              · refine lv_iload_n hx hb dX8_reads_219 rfl (lv_at hl 2 rfl) ?_
                have e7 : rxA te z d = (it, hs, y, L, zz, ff) := by rw [← hres, rdM_end (fun h => h.2 c60)]
                have hP : va_P G.1 vwCl (mow G ad (rxA te z d).2.2.2.2.1 (rxA te z d).2.2.2.2.2 sv (rxA te z d).2.2.1 pa ke ik fa te aw) H := by rw [e7]; exact hP
                have hD : va_D A (mow G ad (rxA te z d).2.2.2.2.1 (rxA te z d).2.2.2.2.2 sv (rxA te z d).2.2.1 pa ke ik fa te aw) := by rw [e7]; exact hD
                exact re_i (v := (nI it)) hx hb hr hlocks hS () hP hD (by rw [e7]) dX8_reads_220
              · have hY : YB te zz := hR.1
                have hL : L ≤ 12 := hR.2.1
                have hd1 : y 1 = nI L := hR.2.2
                refine lv_aload_n hx hb dX8_reads_63 rfl (lv_at hl 0 rfl) ?_
                refine va_get (D := G.1) (ci := 7) (v := .int (nI (zz 13))) (C := RX8) (T := TX8) (N := 17) hx hb hts inA8 hown hX.1 hP 0 rfl rfl 13 (by decide) (hts _ kw_693) (fun _ h9 => h9) rfl dX8_reads_64 ?_
                rcases ty8 (zz 13) with htk | htk | htk | htk | htk
                · refine ti (y := nI 1) (by rw [htk]) ?_
                  refine lv_tableIn (off := 29) (tgt := 96) hx hb dX8_reads_67 (by decide) (by decide) (by decide +kernel) (by decide) ?_
                  refine lv_aload_n hx hb dX8_reads_96 rfl (lv_at hl 0 rfl) ?_
                  refine lv_iload_n hx hb dX8_reads_97 rfl (lv_at hl 2 rfl) ?_
                  refine nv_zne (x := it) (tgt := 105) hx hb dX8_reads_98 (by decide) (by omega) (fun c98 => ?_) (fun c98 => ?_)
                  · refine lv_iconst (v := (nI 0)) hx hb dX8_reads_105 (by decide) ?_
                    refine ti (y := (bI (decide (it = 0)))) (by rw [decide_eq_false c98]; rfl) ?_
                    refine ca_Vv (ci := 7) (q := (RX8, TX8, 17)) (rest := []) (wr := ([] : va_W)) F hX (mX8_takes l G ad zz ff sv y pa ke ik fa te aw (decide (it = 0)) hY hff) (cA_V hts kw_770 kw_8 kw_767 kw_769 kp_24 hdX8_takes ⟨Nat.le_of_ble_eq_true rfl, Nat.le_of_ble_eq_true rfl⟩) rfl rfl rfl hl.1 rfl (Nat.le_of_ble_eq_true rfl) dX8_reads_106 ⟨Nat.le_of_ble_eq_true rfl, Nat.le_of_ble_eq_true rfl⟩ hP hD hS hA (pm_nil _) (fun u106 H locs hp106 hP hD hS => ?_)
                    have hP : va_P G.1 vwCl (mow G ad ((tkM te (decide (it = 0)) (zz, ff)).1) ((tkM te (decide (it = 0)) (zz, ff)).2) sv y pa ke ik fa te aw) H := wp_pm (pm_nil _).symm hP
                    have hD : va_D A (mow G ad ((tkM te (decide (it = 0)) (zz, ff)).1) ((tkM te (decide (it = 0)) (zz, ff)).2) sv y pa ke ik fa te aw) := wd_pm (pm_nil _).symm hD
                    refine lv_aload_n hx hb dX8_reads_109 rfl (lv_at hl 0 rfl) ?_
                    refine va_get (D := G.1) (ci := 7) (v := .ref (ad 2)) (C := RX8) (T := TX8) (N := 17) hx hb hts inA8 hown hX.1 hP 0 rfl rfl 2 (by decide) (hts _ kw_682) (fun _ h9 => h9) rfl dX8_reads_110 ?_
                    refine lv_iconst (v := (nI 0)) hx hb dX8_reads_113 (by decide) ?_
                    refine lv_aload_n hx hb dX8_reads_114 rfl (lv_at hl 0 rfl) ?_
                    refine lv_iconst (v := (nI 2)) hx hb dX8_reads_115 (by decide) ?_
                    refine lv_bipush (v := (nI 7)) hx hb dX8_reads_116 (by decide) ?_
                    refine ca_Vi (ci := 7) (q := (RX8, TX8, 17)) (rest := [.int (nI 0), .ref (ad 2)]) (wr := ([] : va_W)) F hX (mX8_figure l G ad ((tkM te (decide (it = 0)) (zz, ff)).1) ((tkM te (decide (it = 0)) (zz, ff)).2) sv y pa ke ik fa te aw (nI 2) (nI 7) (hY.tk (q := (zz, ff)) _) (fo_tk (q := (zz, ff)) hY hff)) (cA_V hts kw_774 kw_8 kw_771 kw_773 kp_25 hdX8_figure ⟨Nat.le_of_ble_eq_true rfl, Nat.le_of_ble_eq_true rfl⟩) rfl rfl rfl hl.1 rfl (Nat.le_of_ble_eq_true rfl) dX8_reads_118 ⟨Nat.le_of_ble_eq_true rfl, Nat.le_of_ble_eq_true rfl⟩ hP hD hS hA (pm_nil _) (fun r118 u118 H locs hp118 hP hD hS => ?_)
                    have hP : va_P G.1 vwCl (mow G ad ((fgM te (nI 2) (nI 7) (tkM te (decide (it = 0)) (zz, ff))).1) ((fgM te (nI 2) (nI 7) (tkM te (decide (it = 0)) (zz, ff))).2) sv y pa ke ik fa te aw) H := wp_pm (pm_nil _).symm hP
                    have hD : va_D A (mow G ad ((fgM te (nI 2) (nI 7) (tkM te (decide (it = 0)) (zz, ff))).1) ((fgM te (nI 2) (nI 7) (tkM te (decide (it = 0)) (zz, ff))).2) sv y pa ke ik fa te aw) := wd_pm (pm_nil _).symm hD
                    subst hp118
                    refine nv_astI (f := y) (k := 0) (v := (oN (fvM te ((tkM te (decide (it = 0)) (zz, ff)).1)))) hx hb hX hP hD hS 2 rfl (by omega) (by decide) dX8_reads_121 (fun H locs hP hD hS => ?_)
                    have hP : va_P G.1 vwCl (mow G ad ((fgM te (nI 2) (nI 7) (tkM te (decide (it = 0)) (zz, ff))).1) ((fgM te (nI 2) (nI 7) (tkM te (decide (it = 0)) (zz, ff))).2) sv (upd y 0 (oN (fvM te ((tkM te (decide (it = 0)) (zz, ff)).1)))) pa ke ik fa te aw) H := hP
                    have hD : va_D A (mow G ad ((fgM te (nI 2) (nI 7) (tkM te (decide (it = 0)) (zz, ff))).1) ((fgM te (nI 2) (nI 7) (tkM te (decide (it = 0)) (zz, ff))).2) sv (upd y 0 (oN (fvM te ((tkM te (decide (it = 0)) (zz, ff)).1)))) pa ke ik fa te aw) := hD
                    refine lv_goto (tgt := 195) hx hb dX8_reads_122 (by decide) ?_
                    have e8 : (it1 te (it, hs, y, L, zz, ff)) = (it, hs, upd y 0 (oN (fvM te ((tkM te (decide (it = 0)) (zz, ff)).1))), L, (fgM te (nI 2) (nI 7) (tkM te (decide (it = 0)) (zz, ff)))) := by unfold it1; rw [if_pos (show (it, hs, y, L, zz, ff).2.2.2.2.1 13 = 1 from htk)]
                    have hP : va_P G.1 vwCl (mow G ad ((it1 te (it, hs, y, L, zz, ff)).2.2.2.2.1) ((it1 te (it, hs, y, L, zz, ff)).2.2.2.2.2) sv ((it1 te (it, hs, y, L, zz, ff)).2.2.1) pa ke ik fa te aw) H := by rw [e8]; exact hP
                    have hD : va_D A (mow G ad ((it1 te (it, hs, y, L, zz, ff)).2.2.2.2.1) ((it1 te (it, hs, y, L, zz, ff)).2.2.2.2.2) sv ((it1 te (it, hs, y, L, zz, ff)).2.2.1) pa ke ik fa te aw) := by rw [e8]; exact hD
                    refine lv_aload_n hx hb dX8_reads_195 rfl (lv_at hl 0 rfl) ?_
                    refine lv_aload_n hx hb dX8_reads_196 rfl (lv_at hl 0 rfl) ?_
                    refine va_get (D := G.1) (ci := 7) (v := .int (nI (((it1 te (it, hs, y, L, zz, ff)).2.2.2.2.1) 13))) (C := RX8) (T := TX8) (N := 17) hx hb hts inA8 hown hX.1 hP 0 rfl rfl 13 (by decide) (hts _ kw_693) (fun _ h9 => h9) rfl dX8_reads_197 ?_
                    refine lv_bipush (v := (nI 6)) hx hb dX8_reads_200 (by decide) ?_
                    refine nv_ne (x := ((it1 te (it, hs, y, L, zz, ff)).2.2.2.2.1) 13) (y := 6) (tgt := 209) hx hb dX8_reads_202 (by decide) (by have h9 := hR.i1.1.2.2.2.2.1; omega) (by decide) (fun c202 => ?_) (fun c202 => ?_)
                    · refine lv_iconst (v := (nI 0)) hx hb dX8_reads_209 (by decide) ?_
                      refine ti (y := (bI (decide ((it1 te (it, hs, y, L, zz, ff)).2.2.2.2.1 13 = 6)))) (by rw [decide_eq_false c202]; rfl) ?_
                      refine ca_Vv (ci := 7) (q := (RX8, TX8, 17)) (rest := []) (wr := ([] : va_W)) F hX (mX8_takes l G ad ((it1 te (it, hs, y, L, zz, ff)).2.2.2.2.1) ((it1 te (it, hs, y, L, zz, ff)).2.2.2.2.2) sv ((it1 te (it, hs, y, L, zz, ff)).2.2.1) pa ke ik fa te aw (decide ((it1 te (it, hs, y, L, zz, ff)).2.2.2.2.1 13 = 6)) hR.i1.1 (fo_i1 hR hff)) (cA_V hts kw_770 kw_8 kw_767 kw_769 kp_24 hdX8_takes ⟨Nat.le_of_ble_eq_true rfl, Nat.le_of_ble_eq_true rfl⟩) rfl rfl rfl hl.1 rfl (Nat.le_of_ble_eq_true rfl) dX8_reads_210 ⟨Nat.le_of_ble_eq_true rfl, Nat.le_of_ble_eq_true rfl⟩ hP hD hS hA (pm_nil _) (fun u210 H locs hp210 hP hD hS => ?_)
                      have hP : va_P G.1 vwCl (mow G ad ((tkM te (decide ((it1 te (it, hs, y, L, zz, ff)).2.2.2.2.1 13 = 6)) (it1 te (it, hs, y, L, zz, ff)).2.2.2.2).1) ((tkM te (decide ((it1 te (it, hs, y, L, zz, ff)).2.2.2.2.1 13 = 6)) (it1 te (it, hs, y, L, zz, ff)).2.2.2.2).2) sv ((it1 te (it, hs, y, L, zz, ff)).2.2.1) pa ke ik fa te aw) H := wp_pm (pm_nil _).symm hP
                      have hD : va_D A (mow G ad ((tkM te (decide ((it1 te (it, hs, y, L, zz, ff)).2.2.2.2.1 13 = 6)) (it1 te (it, hs, y, L, zz, ff)).2.2.2.2).1) ((tkM te (decide ((it1 te (it, hs, y, L, zz, ff)).2.2.2.2.1 13 = 6)) (it1 te (it, hs, y, L, zz, ff)).2.2.2.2).2) sv ((it1 te (it, hs, y, L, zz, ff)).2.2.1) pa ke ik fa te aw) := wd_pm (pm_nil _).symm hD
                      refine lv_iinc (v := (nI (it + 1))) (lv' := [(2, .int (nI (it + 1))), (0, .ref (ad 0)), (1, .int (bI hs))]) hx hb dX8_reads_213 hl (k := 2) rfl (qn_inc _) (by decide) rfl (fun ls hl => ?_)
                      have e5 : (it1 te (it, hs, y, L, zz, ff)).1 = it := by rw [e8]
                      have e6 : (it1 te (it, hs, y, L, zz, ff)).2.1 = hs := by rw [e8]
                      have hl : lv_has ls 3 [(2, .int (nI ((it1 te (it, hs, y, L, zz, ff)).1 + 1))), (0, .ref (ad 0)), (1, .int (bI ((it1 te (it, hs, y, L, zz, ff)).2.1)))] := by rw [e5, e6]; exact hl
                      refine lv_goto (tgt := 47) hx hb dX8_reads_216 (by decide) ?_
                      exact ih47 (m9 - 1) ((it1 te (it, hs, y, L, zz, ff)).1 + 1) ((it1 te (it, hs, y, L, zz, ff)).2.1) ((it1 te (it, hs, y, L, zz, ff)).2.2.1) ((it1 te (it, hs, y, L, zz, ff)).2.2.2.1) ((tkM te (decide ((it1 te (it, hs, y, L, zz, ff)).2.2.2.2.1 13 = 6)) (it1 te (it, hs, y, L, zz, ff)).2.2.2.2).1) ((tkM te (decide ((it1 te (it, hs, y, L, zz, ff)).2.2.2.2.1 13 = 6)) (it1 te (it, hs, y, L, zz, ff)).2.2.2.2).2) (by have h1 : (if (itM te (it, hs, y, L, zz, ff)).2.2.2.2.2 = none then 1 + ((itM te (it, hs, y, L, zz, ff)).2.2.2.2.1 10 - (itM te (it, hs, y, L, zz, ff)).2.2.2.2.1 11) else 0) < (if ff = none then 1 + (zz 10 - zz 11) else 0) := rd_mu hR c60 hq; show (if (itM te (it, hs, y, L, zz, ff)).2.2.2.2.2 = none then 1 + ((itM te (it, hs, y, L, zz, ff)).2.2.2.2.1 10 - (itM te (it, hs, y, L, zz, ff)).2.2.2.2.1 11) else 0) < n47; omega) (by exact hR.it) (fo_tk hR.i1.1 (fo_i1 hR hff)) ⟨by have h1 := hit.2 hq; have h2 : zz 10 ≤ 120 := hR.1.2.1; have h3 : zz 11 ≤ zz 12 := hR.1.2.2.1; have h4 : zz 12 ≤ zz 10 := hR.1.2.2.2.1; rw [e5]; omega, fun h => by have h1 := hit.2 hq; have h2 := it_on hR h c60; have h3 : zz 11 < (itM te (it, hs, y, L, zz, ff)).2.2.2.2.1 11 := h2; rw [e5]; show it + 1 ≤ (itM te (it, hs, y, L, zz, ff)).2.2.2.2.1 11; omega⟩ (by have h1 : (if (itM te (it, hs, y, L, zz, ff)).2.2.2.2.2 = none then 1 + ((itM te (it, hs, y, L, zz, ff)).2.2.2.2.1 10 - (itM te (it, hs, y, L, zz, ff)).2.2.2.2.1 11) else 0) < (if ff = none then 1 + (zz 10 - zz 11) else 0) := rd_mu hR c60 hq; show (if (itM te (it, hs, y, L, zz, ff)).2.2.2.2.2 = none then 1 + ((itM te (it, hs, y, L, zz, ff)).2.2.2.2.1 10 - (itM te (it, hs, y, L, zz, ff)).2.2.2.2.1 11) else 0) ≤ m9 - 1; omega) (by have h1 : (if ff = none then 1 + (zz 10 - zz 11) else 0) = 1 + (zz 10 - zz 11) := if_pos hq; have e9 : m9 = (m9 - 1) + 1 := (by omega); rw [e9, rdM_go hq c60] at hres; exact hres) _ _ hP hD hS ls (lv_sub hl [1, 2, 0] rfl)
                    · refine lv_iconst (v := (nI 1)) hx hb dX8_reads_205 (by decide) ?_
                      refine lv_goto (tgt := 210) hx hb dX8_reads_206 (by decide) ?_
                      refine ti (y := (bI (decide ((it1 te (it, hs, y, L, zz, ff)).2.2.2.2.1 13 = 6)))) (by rw [decide_eq_true c202]; rfl) ?_
                      refine ca_Vv (ci := 7) (q := (RX8, TX8, 17)) (rest := []) (wr := ([] : va_W)) F hX (mX8_takes l G ad ((it1 te (it, hs, y, L, zz, ff)).2.2.2.2.1) ((it1 te (it, hs, y, L, zz, ff)).2.2.2.2.2) sv ((it1 te (it, hs, y, L, zz, ff)).2.2.1) pa ke ik fa te aw (decide ((it1 te (it, hs, y, L, zz, ff)).2.2.2.2.1 13 = 6)) hR.i1.1 (fo_i1 hR hff)) (cA_V hts kw_770 kw_8 kw_767 kw_769 kp_24 hdX8_takes ⟨Nat.le_of_ble_eq_true rfl, Nat.le_of_ble_eq_true rfl⟩) rfl rfl rfl hl.1 rfl (Nat.le_of_ble_eq_true rfl) dX8_reads_210 ⟨Nat.le_of_ble_eq_true rfl, Nat.le_of_ble_eq_true rfl⟩ hP hD hS hA (pm_nil _) (fun u210 H locs hp210 hP hD hS => ?_)
                      have hP : va_P G.1 vwCl (mow G ad ((tkM te (decide ((it1 te (it, hs, y, L, zz, ff)).2.2.2.2.1 13 = 6)) (it1 te (it, hs, y, L, zz, ff)).2.2.2.2).1) ((tkM te (decide ((it1 te (it, hs, y, L, zz, ff)).2.2.2.2.1 13 = 6)) (it1 te (it, hs, y, L, zz, ff)).2.2.2.2).2) sv ((it1 te (it, hs, y, L, zz, ff)).2.2.1) pa ke ik fa te aw) H := wp_pm (pm_nil _).symm hP
                      have hD : va_D A (mow G ad ((tkM te (decide ((it1 te (it, hs, y, L, zz, ff)).2.2.2.2.1 13 = 6)) (it1 te (it, hs, y, L, zz, ff)).2.2.2.2).1) ((tkM te (decide ((it1 te (it, hs, y, L, zz, ff)).2.2.2.2.1 13 = 6)) (it1 te (it, hs, y, L, zz, ff)).2.2.2.2).2) sv ((it1 te (it, hs, y, L, zz, ff)).2.2.1) pa ke ik fa te aw) := wd_pm (pm_nil _).symm hD
                      refine lv_iinc (v := (nI (it + 1))) (lv' := [(2, .int (nI (it + 1))), (0, .ref (ad 0)), (1, .int (bI hs))]) hx hb dX8_reads_213 hl (k := 2) rfl (qn_inc _) (by decide) rfl (fun ls hl => ?_)
                      have e5 : (it1 te (it, hs, y, L, zz, ff)).1 = it := by rw [e8]
                      have e6 : (it1 te (it, hs, y, L, zz, ff)).2.1 = hs := by rw [e8]
                      have hl : lv_has ls 3 [(2, .int (nI ((it1 te (it, hs, y, L, zz, ff)).1 + 1))), (0, .ref (ad 0)), (1, .int (bI ((it1 te (it, hs, y, L, zz, ff)).2.1)))] := by rw [e5, e6]; exact hl
                      refine lv_goto (tgt := 47) hx hb dX8_reads_216 (by decide) ?_
                      exact ih47 (m9 - 1) ((it1 te (it, hs, y, L, zz, ff)).1 + 1) ((it1 te (it, hs, y, L, zz, ff)).2.1) ((it1 te (it, hs, y, L, zz, ff)).2.2.1) ((it1 te (it, hs, y, L, zz, ff)).2.2.2.1) ((tkM te (decide ((it1 te (it, hs, y, L, zz, ff)).2.2.2.2.1 13 = 6)) (it1 te (it, hs, y, L, zz, ff)).2.2.2.2).1) ((tkM te (decide ((it1 te (it, hs, y, L, zz, ff)).2.2.2.2.1 13 = 6)) (it1 te (it, hs, y, L, zz, ff)).2.2.2.2).2) (by have h1 : (if (itM te (it, hs, y, L, zz, ff)).2.2.2.2.2 = none then 1 + ((itM te (it, hs, y, L, zz, ff)).2.2.2.2.1 10 - (itM te (it, hs, y, L, zz, ff)).2.2.2.2.1 11) else 0) < (if ff = none then 1 + (zz 10 - zz 11) else 0) := rd_mu hR c60 hq; show (if (itM te (it, hs, y, L, zz, ff)).2.2.2.2.2 = none then 1 + ((itM te (it, hs, y, L, zz, ff)).2.2.2.2.1 10 - (itM te (it, hs, y, L, zz, ff)).2.2.2.2.1 11) else 0) < n47; omega) (by exact hR.it) (fo_tk hR.i1.1 (fo_i1 hR hff)) ⟨by have h1 := hit.2 hq; have h2 : zz 10 ≤ 120 := hR.1.2.1; have h3 : zz 11 ≤ zz 12 := hR.1.2.2.1; have h4 : zz 12 ≤ zz 10 := hR.1.2.2.2.1; rw [e5]; omega, fun h => by have h1 := hit.2 hq; have h2 := it_on hR h c60; have h3 : zz 11 < (itM te (it, hs, y, L, zz, ff)).2.2.2.2.1 11 := h2; rw [e5]; show it + 1 ≤ (itM te (it, hs, y, L, zz, ff)).2.2.2.2.1 11; omega⟩ (by have h1 : (if (itM te (it, hs, y, L, zz, ff)).2.2.2.2.2 = none then 1 + ((itM te (it, hs, y, L, zz, ff)).2.2.2.2.1 10 - (itM te (it, hs, y, L, zz, ff)).2.2.2.2.1 11) else 0) < (if ff = none then 1 + (zz 10 - zz 11) else 0) := rd_mu hR c60 hq; show (if (itM te (it, hs, y, L, zz, ff)).2.2.2.2.2 = none then 1 + ((itM te (it, hs, y, L, zz, ff)).2.2.2.2.1 10 - (itM te (it, hs, y, L, zz, ff)).2.2.2.2.1 11) else 0) ≤ m9 - 1; omega) (by have h1 : (if ff = none then 1 + (zz 10 - zz 11) else 0) = 1 + (zz 10 - zz 11) := if_pos hq; have e9 : m9 = (m9 - 1) + 1 := (by omega); rw [e9, rdM_go hq c60] at hres; exact hres) _ _ hP hD hS ls (lv_sub hl [1, 2, 0] rfl)
                  · refine lv_iconst (v := (nI 1)) hx hb dX8_reads_101 (by decide) ?_
                    refine lv_goto (tgt := 106) hx hb dX8_reads_102 (by decide) ?_
                    refine ti (y := (bI (decide (it = 0)))) (by rw [decide_eq_true c98]; rfl) ?_
                    refine ca_Vv (ci := 7) (q := (RX8, TX8, 17)) (rest := []) (wr := ([] : va_W)) F hX (mX8_takes l G ad zz ff sv y pa ke ik fa te aw (decide (it = 0)) hY hff) (cA_V hts kw_770 kw_8 kw_767 kw_769 kp_24 hdX8_takes ⟨Nat.le_of_ble_eq_true rfl, Nat.le_of_ble_eq_true rfl⟩) rfl rfl rfl hl.1 rfl (Nat.le_of_ble_eq_true rfl) dX8_reads_106 ⟨Nat.le_of_ble_eq_true rfl, Nat.le_of_ble_eq_true rfl⟩ hP hD hS hA (pm_nil _) (fun u106 H locs hp106 hP hD hS => ?_)
                    have hP : va_P G.1 vwCl (mow G ad ((tkM te (decide (it = 0)) (zz, ff)).1) ((tkM te (decide (it = 0)) (zz, ff)).2) sv y pa ke ik fa te aw) H := wp_pm (pm_nil _).symm hP
                    have hD : va_D A (mow G ad ((tkM te (decide (it = 0)) (zz, ff)).1) ((tkM te (decide (it = 0)) (zz, ff)).2) sv y pa ke ik fa te aw) := wd_pm (pm_nil _).symm hD
                    refine lv_aload_n hx hb dX8_reads_109 rfl (lv_at hl 0 rfl) ?_
                    refine va_get (D := G.1) (ci := 7) (v := .ref (ad 2)) (C := RX8) (T := TX8) (N := 17) hx hb hts inA8 hown hX.1 hP 0 rfl rfl 2 (by decide) (hts _ kw_682) (fun _ h9 => h9) rfl dX8_reads_110 ?_
                    refine lv_iconst (v := (nI 0)) hx hb dX8_reads_113 (by decide) ?_
                    refine lv_aload_n hx hb dX8_reads_114 rfl (lv_at hl 0 rfl) ?_
                    refine lv_iconst (v := (nI 2)) hx hb dX8_reads_115 (by decide) ?_
                    refine lv_bipush (v := (nI 7)) hx hb dX8_reads_116 (by decide) ?_
                    refine ca_Vi (ci := 7) (q := (RX8, TX8, 17)) (rest := [.int (nI 0), .ref (ad 2)]) (wr := ([] : va_W)) F hX (mX8_figure l G ad ((tkM te (decide (it = 0)) (zz, ff)).1) ((tkM te (decide (it = 0)) (zz, ff)).2) sv y pa ke ik fa te aw (nI 2) (nI 7) (hY.tk (q := (zz, ff)) _) (fo_tk (q := (zz, ff)) hY hff)) (cA_V hts kw_774 kw_8 kw_771 kw_773 kp_25 hdX8_figure ⟨Nat.le_of_ble_eq_true rfl, Nat.le_of_ble_eq_true rfl⟩) rfl rfl rfl hl.1 rfl (Nat.le_of_ble_eq_true rfl) dX8_reads_118 ⟨Nat.le_of_ble_eq_true rfl, Nat.le_of_ble_eq_true rfl⟩ hP hD hS hA (pm_nil _) (fun r118 u118 H locs hp118 hP hD hS => ?_)
                    have hP : va_P G.1 vwCl (mow G ad ((fgM te (nI 2) (nI 7) (tkM te (decide (it = 0)) (zz, ff))).1) ((fgM te (nI 2) (nI 7) (tkM te (decide (it = 0)) (zz, ff))).2) sv y pa ke ik fa te aw) H := wp_pm (pm_nil _).symm hP
                    have hD : va_D A (mow G ad ((fgM te (nI 2) (nI 7) (tkM te (decide (it = 0)) (zz, ff))).1) ((fgM te (nI 2) (nI 7) (tkM te (decide (it = 0)) (zz, ff))).2) sv y pa ke ik fa te aw) := wd_pm (pm_nil _).symm hD
                    subst hp118
                    refine nv_astI (f := y) (k := 0) (v := (oN (fvM te ((tkM te (decide (it = 0)) (zz, ff)).1)))) hx hb hX hP hD hS 2 rfl (by omega) (by decide) dX8_reads_121 (fun H locs hP hD hS => ?_)
                    have hP : va_P G.1 vwCl (mow G ad ((fgM te (nI 2) (nI 7) (tkM te (decide (it = 0)) (zz, ff))).1) ((fgM te (nI 2) (nI 7) (tkM te (decide (it = 0)) (zz, ff))).2) sv (upd y 0 (oN (fvM te ((tkM te (decide (it = 0)) (zz, ff)).1)))) pa ke ik fa te aw) H := hP
                    have hD : va_D A (mow G ad ((fgM te (nI 2) (nI 7) (tkM te (decide (it = 0)) (zz, ff))).1) ((fgM te (nI 2) (nI 7) (tkM te (decide (it = 0)) (zz, ff))).2) sv (upd y 0 (oN (fvM te ((tkM te (decide (it = 0)) (zz, ff)).1)))) pa ke ik fa te aw) := hD
                    refine lv_goto (tgt := 195) hx hb dX8_reads_122 (by decide) ?_
                    have e8 : (it1 te (it, hs, y, L, zz, ff)) = (it, hs, upd y 0 (oN (fvM te ((tkM te (decide (it = 0)) (zz, ff)).1))), L, (fgM te (nI 2) (nI 7) (tkM te (decide (it = 0)) (zz, ff)))) := by unfold it1; rw [if_pos (show (it, hs, y, L, zz, ff).2.2.2.2.1 13 = 1 from htk)]
                    have hP : va_P G.1 vwCl (mow G ad ((it1 te (it, hs, y, L, zz, ff)).2.2.2.2.1) ((it1 te (it, hs, y, L, zz, ff)).2.2.2.2.2) sv ((it1 te (it, hs, y, L, zz, ff)).2.2.1) pa ke ik fa te aw) H := by rw [e8]; exact hP
                    have hD : va_D A (mow G ad ((it1 te (it, hs, y, L, zz, ff)).2.2.2.2.1) ((it1 te (it, hs, y, L, zz, ff)).2.2.2.2.2) sv ((it1 te (it, hs, y, L, zz, ff)).2.2.1) pa ke ik fa te aw) := by rw [e8]; exact hD
                    refine lv_aload_n hx hb dX8_reads_195 rfl (lv_at hl 0 rfl) ?_
                    refine lv_aload_n hx hb dX8_reads_196 rfl (lv_at hl 0 rfl) ?_
                    refine va_get (D := G.1) (ci := 7) (v := .int (nI (((it1 te (it, hs, y, L, zz, ff)).2.2.2.2.1) 13))) (C := RX8) (T := TX8) (N := 17) hx hb hts inA8 hown hX.1 hP 0 rfl rfl 13 (by decide) (hts _ kw_693) (fun _ h9 => h9) rfl dX8_reads_197 ?_
                    refine lv_bipush (v := (nI 6)) hx hb dX8_reads_200 (by decide) ?_
                    refine nv_ne (x := ((it1 te (it, hs, y, L, zz, ff)).2.2.2.2.1) 13) (y := 6) (tgt := 209) hx hb dX8_reads_202 (by decide) (by have h9 := hR.i1.1.2.2.2.2.1; omega) (by decide) (fun c202 => ?_) (fun c202 => ?_)
                    · refine lv_iconst (v := (nI 0)) hx hb dX8_reads_209 (by decide) ?_
                      refine ti (y := (bI (decide ((it1 te (it, hs, y, L, zz, ff)).2.2.2.2.1 13 = 6)))) (by rw [decide_eq_false c202]; rfl) ?_
                      refine ca_Vv (ci := 7) (q := (RX8, TX8, 17)) (rest := []) (wr := ([] : va_W)) F hX (mX8_takes l G ad ((it1 te (it, hs, y, L, zz, ff)).2.2.2.2.1) ((it1 te (it, hs, y, L, zz, ff)).2.2.2.2.2) sv ((it1 te (it, hs, y, L, zz, ff)).2.2.1) pa ke ik fa te aw (decide ((it1 te (it, hs, y, L, zz, ff)).2.2.2.2.1 13 = 6)) hR.i1.1 (fo_i1 hR hff)) (cA_V hts kw_770 kw_8 kw_767 kw_769 kp_24 hdX8_takes ⟨Nat.le_of_ble_eq_true rfl, Nat.le_of_ble_eq_true rfl⟩) rfl rfl rfl hl.1 rfl (Nat.le_of_ble_eq_true rfl) dX8_reads_210 ⟨Nat.le_of_ble_eq_true rfl, Nat.le_of_ble_eq_true rfl⟩ hP hD hS hA (pm_nil _) (fun u210 H locs hp210 hP hD hS => ?_)
                      have hP : va_P G.1 vwCl (mow G ad ((tkM te (decide ((it1 te (it, hs, y, L, zz, ff)).2.2.2.2.1 13 = 6)) (it1 te (it, hs, y, L, zz, ff)).2.2.2.2).1) ((tkM te (decide ((it1 te (it, hs, y, L, zz, ff)).2.2.2.2.1 13 = 6)) (it1 te (it, hs, y, L, zz, ff)).2.2.2.2).2) sv ((it1 te (it, hs, y, L, zz, ff)).2.2.1) pa ke ik fa te aw) H := wp_pm (pm_nil _).symm hP
                      have hD : va_D A (mow G ad ((tkM te (decide ((it1 te (it, hs, y, L, zz, ff)).2.2.2.2.1 13 = 6)) (it1 te (it, hs, y, L, zz, ff)).2.2.2.2).1) ((tkM te (decide ((it1 te (it, hs, y, L, zz, ff)).2.2.2.2.1 13 = 6)) (it1 te (it, hs, y, L, zz, ff)).2.2.2.2).2) sv ((it1 te (it, hs, y, L, zz, ff)).2.2.1) pa ke ik fa te aw) := wd_pm (pm_nil _).symm hD
                      refine lv_iinc (v := (nI (it + 1))) (lv' := [(2, .int (nI (it + 1))), (0, .ref (ad 0)), (1, .int (bI hs))]) hx hb dX8_reads_213 hl (k := 2) rfl (qn_inc _) (by decide) rfl (fun ls hl => ?_)
                      have e5 : (it1 te (it, hs, y, L, zz, ff)).1 = it := by rw [e8]
                      have e6 : (it1 te (it, hs, y, L, zz, ff)).2.1 = hs := by rw [e8]
                      have hl : lv_has ls 3 [(2, .int (nI ((it1 te (it, hs, y, L, zz, ff)).1 + 1))), (0, .ref (ad 0)), (1, .int (bI ((it1 te (it, hs, y, L, zz, ff)).2.1)))] := by rw [e5, e6]; exact hl
                      refine lv_goto (tgt := 47) hx hb dX8_reads_216 (by decide) ?_
                      exact ih47 (m9 - 1) ((it1 te (it, hs, y, L, zz, ff)).1 + 1) ((it1 te (it, hs, y, L, zz, ff)).2.1) ((it1 te (it, hs, y, L, zz, ff)).2.2.1) ((it1 te (it, hs, y, L, zz, ff)).2.2.2.1) ((tkM te (decide ((it1 te (it, hs, y, L, zz, ff)).2.2.2.2.1 13 = 6)) (it1 te (it, hs, y, L, zz, ff)).2.2.2.2).1) ((tkM te (decide ((it1 te (it, hs, y, L, zz, ff)).2.2.2.2.1 13 = 6)) (it1 te (it, hs, y, L, zz, ff)).2.2.2.2).2) (by have h1 : (if (itM te (it, hs, y, L, zz, ff)).2.2.2.2.2 = none then 1 + ((itM te (it, hs, y, L, zz, ff)).2.2.2.2.1 10 - (itM te (it, hs, y, L, zz, ff)).2.2.2.2.1 11) else 0) < (if ff = none then 1 + (zz 10 - zz 11) else 0) := rd_mu hR c60 hq; show (if (itM te (it, hs, y, L, zz, ff)).2.2.2.2.2 = none then 1 + ((itM te (it, hs, y, L, zz, ff)).2.2.2.2.1 10 - (itM te (it, hs, y, L, zz, ff)).2.2.2.2.1 11) else 0) < n47; omega) (by exact hR.it) (fo_tk hR.i1.1 (fo_i1 hR hff)) ⟨by have h1 := hit.2 hq; have h2 : zz 10 ≤ 120 := hR.1.2.1; have h3 : zz 11 ≤ zz 12 := hR.1.2.2.1; have h4 : zz 12 ≤ zz 10 := hR.1.2.2.2.1; rw [e5]; omega, fun h => by have h1 := hit.2 hq; have h2 := it_on hR h c60; have h3 : zz 11 < (itM te (it, hs, y, L, zz, ff)).2.2.2.2.1 11 := h2; rw [e5]; show it + 1 ≤ (itM te (it, hs, y, L, zz, ff)).2.2.2.2.1 11; omega⟩ (by have h1 : (if (itM te (it, hs, y, L, zz, ff)).2.2.2.2.2 = none then 1 + ((itM te (it, hs, y, L, zz, ff)).2.2.2.2.1 10 - (itM te (it, hs, y, L, zz, ff)).2.2.2.2.1 11) else 0) < (if ff = none then 1 + (zz 10 - zz 11) else 0) := rd_mu hR c60 hq; show (if (itM te (it, hs, y, L, zz, ff)).2.2.2.2.2 = none then 1 + ((itM te (it, hs, y, L, zz, ff)).2.2.2.2.1 10 - (itM te (it, hs, y, L, zz, ff)).2.2.2.2.1 11) else 0) ≤ m9 - 1; omega) (by have h1 : (if ff = none then 1 + (zz 10 - zz 11) else 0) = 1 + (zz 10 - zz 11) := if_pos hq; have e9 : m9 = (m9 - 1) + 1 := (by omega); rw [e9, rdM_go hq c60] at hres; exact hres) _ _ hP hD hS ls (lv_sub hl [1, 2, 0] rfl)
                    · refine lv_iconst (v := (nI 1)) hx hb dX8_reads_205 (by decide) ?_
                      refine lv_goto (tgt := 210) hx hb dX8_reads_206 (by decide) ?_
                      refine ti (y := (bI (decide ((it1 te (it, hs, y, L, zz, ff)).2.2.2.2.1 13 = 6)))) (by rw [decide_eq_true c202]; rfl) ?_
                      refine ca_Vv (ci := 7) (q := (RX8, TX8, 17)) (rest := []) (wr := ([] : va_W)) F hX (mX8_takes l G ad ((it1 te (it, hs, y, L, zz, ff)).2.2.2.2.1) ((it1 te (it, hs, y, L, zz, ff)).2.2.2.2.2) sv ((it1 te (it, hs, y, L, zz, ff)).2.2.1) pa ke ik fa te aw (decide ((it1 te (it, hs, y, L, zz, ff)).2.2.2.2.1 13 = 6)) hR.i1.1 (fo_i1 hR hff)) (cA_V hts kw_770 kw_8 kw_767 kw_769 kp_24 hdX8_takes ⟨Nat.le_of_ble_eq_true rfl, Nat.le_of_ble_eq_true rfl⟩) rfl rfl rfl hl.1 rfl (Nat.le_of_ble_eq_true rfl) dX8_reads_210 ⟨Nat.le_of_ble_eq_true rfl, Nat.le_of_ble_eq_true rfl⟩ hP hD hS hA (pm_nil _) (fun u210 H locs hp210 hP hD hS => ?_)
                      have hP : va_P G.1 vwCl (mow G ad ((tkM te (decide ((it1 te (it, hs, y, L, zz, ff)).2.2.2.2.1 13 = 6)) (it1 te (it, hs, y, L, zz, ff)).2.2.2.2).1) ((tkM te (decide ((it1 te (it, hs, y, L, zz, ff)).2.2.2.2.1 13 = 6)) (it1 te (it, hs, y, L, zz, ff)).2.2.2.2).2) sv ((it1 te (it, hs, y, L, zz, ff)).2.2.1) pa ke ik fa te aw) H := wp_pm (pm_nil _).symm hP
                      have hD : va_D A (mow G ad ((tkM te (decide ((it1 te (it, hs, y, L, zz, ff)).2.2.2.2.1 13 = 6)) (it1 te (it, hs, y, L, zz, ff)).2.2.2.2).1) ((tkM te (decide ((it1 te (it, hs, y, L, zz, ff)).2.2.2.2.1 13 = 6)) (it1 te (it, hs, y, L, zz, ff)).2.2.2.2).2) sv ((it1 te (it, hs, y, L, zz, ff)).2.2.1) pa ke ik fa te aw) := wd_pm (pm_nil _).symm hD
                      refine lv_iinc (v := (nI (it + 1))) (lv' := [(2, .int (nI (it + 1))), (0, .ref (ad 0)), (1, .int (bI hs))]) hx hb dX8_reads_213 hl (k := 2) rfl (qn_inc _) (by decide) rfl (fun ls hl => ?_)
                      have e5 : (it1 te (it, hs, y, L, zz, ff)).1 = it := by rw [e8]
                      have e6 : (it1 te (it, hs, y, L, zz, ff)).2.1 = hs := by rw [e8]
                      have hl : lv_has ls 3 [(2, .int (nI ((it1 te (it, hs, y, L, zz, ff)).1 + 1))), (0, .ref (ad 0)), (1, .int (bI ((it1 te (it, hs, y, L, zz, ff)).2.1)))] := by rw [e5, e6]; exact hl
                      refine lv_goto (tgt := 47) hx hb dX8_reads_216 (by decide) ?_
                      exact ih47 (m9 - 1) ((it1 te (it, hs, y, L, zz, ff)).1 + 1) ((it1 te (it, hs, y, L, zz, ff)).2.1) ((it1 te (it, hs, y, L, zz, ff)).2.2.1) ((it1 te (it, hs, y, L, zz, ff)).2.2.2.1) ((tkM te (decide ((it1 te (it, hs, y, L, zz, ff)).2.2.2.2.1 13 = 6)) (it1 te (it, hs, y, L, zz, ff)).2.2.2.2).1) ((tkM te (decide ((it1 te (it, hs, y, L, zz, ff)).2.2.2.2.1 13 = 6)) (it1 te (it, hs, y, L, zz, ff)).2.2.2.2).2) (by have h1 : (if (itM te (it, hs, y, L, zz, ff)).2.2.2.2.2 = none then 1 + ((itM te (it, hs, y, L, zz, ff)).2.2.2.2.1 10 - (itM te (it, hs, y, L, zz, ff)).2.2.2.2.1 11) else 0) < (if ff = none then 1 + (zz 10 - zz 11) else 0) := rd_mu hR c60 hq; show (if (itM te (it, hs, y, L, zz, ff)).2.2.2.2.2 = none then 1 + ((itM te (it, hs, y, L, zz, ff)).2.2.2.2.1 10 - (itM te (it, hs, y, L, zz, ff)).2.2.2.2.1 11) else 0) < n47; omega) (by exact hR.it) (fo_tk hR.i1.1 (fo_i1 hR hff)) ⟨by have h1 := hit.2 hq; have h2 : zz 10 ≤ 120 := hR.1.2.1; have h3 : zz 11 ≤ zz 12 := hR.1.2.2.1; have h4 : zz 12 ≤ zz 10 := hR.1.2.2.2.1; rw [e5]; omega, fun h => by have h1 := hit.2 hq; have h2 := it_on hR h c60; have h3 : zz 11 < (itM te (it, hs, y, L, zz, ff)).2.2.2.2.1 11 := h2; rw [e5]; show it + 1 ≤ (itM te (it, hs, y, L, zz, ff)).2.2.2.2.1 11; omega⟩ (by have h1 : (if (itM te (it, hs, y, L, zz, ff)).2.2.2.2.2 = none then 1 + ((itM te (it, hs, y, L, zz, ff)).2.2.2.2.1 10 - (itM te (it, hs, y, L, zz, ff)).2.2.2.2.1 11) else 0) < (if ff = none then 1 + (zz 10 - zz 11) else 0) := rd_mu hR c60 hq; show (if (itM te (it, hs, y, L, zz, ff)).2.2.2.2.2 = none then 1 + ((itM te (it, hs, y, L, zz, ff)).2.2.2.2.1 10 - (itM te (it, hs, y, L, zz, ff)).2.2.2.2.1 11) else 0) ≤ m9 - 1; omega) (by have h1 : (if ff = none then 1 + (zz 10 - zz 11) else 0) = 1 + (zz 10 - zz 11) := if_pos hq; have e9 : m9 = (m9 - 1) + 1 := (by omega); rw [e9, rdM_go hq c60] at hres; exact hres) _ _ hP hD hS ls (lv_sub hl [1, 2, 0] rfl)
                · refine ti (y := nI 2) (by rw [htk]) ?_
                  refine lv_tableIn (off := 58) (tgt := 125) hx hb dX8_reads_67 (by decide) (by decide) (by decide +kernel) (by decide) ?_
                  refine lv_aload_n hx hb dX8_reads_125 rfl (lv_at hl 0 rfl) ?_
                  refine lv_iload_n hx hb dX8_reads_126 rfl (lv_at hl 1 rfl) ?_
                  refine bv_ne (b := hs) (tgt := 134) hx hb dX8_reads_127 (by decide) (fun c127 => ?_) (fun c127 => ?_)
                  · refine lv_iconst (v := (nI 0)) hx hb dX8_reads_134 (by decide) ?_
                    refine ti (y := (bI (!hs))) (by rw [c127]; rfl) ?_
                    refine ca_Vv (ci := 7) (q := (RX8, TX8, 17)) (rest := []) (wr := ([] : va_W)) F hX (mX8_takes l G ad zz ff sv y pa ke ik fa te aw (!hs) hY hff) (cA_V hts kw_770 kw_8 kw_767 kw_769 kp_24 hdX8_takes ⟨Nat.le_of_ble_eq_true rfl, Nat.le_of_ble_eq_true rfl⟩) rfl rfl rfl hl.1 rfl (Nat.le_of_ble_eq_true rfl) dX8_reads_135 ⟨Nat.le_of_ble_eq_true rfl, Nat.le_of_ble_eq_true rfl⟩ hP hD hS hA (pm_nil _) (fun u135 H locs hp135 hP hD hS => ?_)
                    have hP : va_P G.1 vwCl (mow G ad ((tkM te (!hs) (zz, ff)).1) ((tkM te (!hs) (zz, ff)).2) sv y pa ke ik fa te aw) H := wp_pm (pm_nil _).symm hP
                    have hD : va_D A (mow G ad ((tkM te (!hs) (zz, ff)).1) ((tkM te (!hs) (zz, ff)).2) sv y pa ke ik fa te aw) := wd_pm (pm_nil _).symm hD
                    refine lv_iconst (v := (nI 1)) hx hb dX8_reads_138 (by decide) ?_
                    refine lv_istore_n (lv' := [(1, .int (nI 1)), (0, .ref (ad 0)), (2, .int (nI it))]) hx hb dX8_reads_139 rfl hl (by decide) rfl (fun ls hl => ?_)
                    refine lv_aload_n hx hb dX8_reads_140 rfl (lv_at hl 1 rfl) ?_
                    refine va_get (D := G.1) (ci := 7) (v := .ref (ad 2)) (C := RX8) (T := TX8) (N := 17) hx hb hts inA8 hown hX.1 hP 0 rfl rfl 2 (by decide) (hts _ kw_682) (fun _ h9 => h9) rfl dX8_reads_141 ?_
                    refine lv_iconst (v := (nI 2)) hx hb dX8_reads_144 (by decide) ?_
                    refine lv_aload_n hx hb dX8_reads_145 rfl (lv_at hl 1 rfl) ?_
                    refine lv_iconst (v := (nI 0)) hx hb dX8_reads_146 (by decide) ?_
                    refine lv_aload_n hx hb dX8_reads_147 rfl (lv_at hl 1 rfl) ?_
                    refine va_get (D := G.1) (ci := 7) (v := .ref (ad 2)) (C := RX8) (T := TX8) (N := 17) hx hb hts inA8 hown hX.1 hP 0 rfl rfl 2 (by decide) (hts _ kw_682) (fun _ h9 => h9) rfl dX8_reads_148 ?_
                    refine lv_iconst (v := (nI 0)) hx hb dX8_reads_151 (by decide) ?_
                    refine nv_aldI (f := y) (k := 0) hx hb hX hP 2 rfl (by omega) (by decide) dX8_reads_152 ?_
                    refine lv_iconst (v := (nI 1)) hx hb dX8_reads_153 (by decide) ?_
                    refine lv_isub hx hb dX8_reads_154 ?_
                    refine ca_Vi (ci := 7) (q := (RX8, TX8, 17)) (rest := [.int (nI 2), .ref (ad 2)]) (wr := ([] : va_W)) F hX (mX8_figure l G ad ((tkM te (!hs) (zz, ff)).1) ((tkM te (!hs) (zz, ff)).2) sv y pa ke ik fa te aw (nI 0) ((y 0) - (nI 1)) (hY.tk (q := (zz, ff)) _) (fo_tk (q := (zz, ff)) hY hff)) (cA_V hts kw_774 kw_8 kw_771 kw_773 kp_25 hdX8_figure ⟨Nat.le_of_ble_eq_true rfl, Nat.le_of_ble_eq_true rfl⟩) rfl rfl rfl hl.1 rfl (Nat.le_of_ble_eq_true rfl) dX8_reads_155 ⟨Nat.le_of_ble_eq_true rfl, Nat.le_of_ble_eq_true rfl⟩ hP hD hS hA (pm_nil _) (fun r155 u155 H locs hp155 hP hD hS => ?_)
                    have hP : va_P G.1 vwCl (mow G ad ((fgM te (nI 0) ((y 0) - (nI 1)) (tkM te (!hs) (zz, ff))).1) ((fgM te (nI 0) ((y 0) - (nI 1)) (tkM te (!hs) (zz, ff))).2) sv y pa ke ik fa te aw) H := wp_pm (pm_nil _).symm hP
                    have hD : va_D A (mow G ad ((fgM te (nI 0) ((y 0) - (nI 1)) (tkM te (!hs) (zz, ff))).1) ((fgM te (nI 0) ((y 0) - (nI 1)) (tkM te (!hs) (zz, ff))).2) sv y pa ke ik fa te aw) := wd_pm (pm_nil _).symm hD
                    subst hp155
                    refine nv_astI (f := y) (k := 2) (v := (oN (fvM te ((tkM te (!hs) (zz, ff)).1)))) hx hb hX hP hD hS 2 rfl (by omega) (by decide) dX8_reads_158 (fun H locs hP hD hS => ?_)
                    have hP : va_P G.1 vwCl (mow G ad ((fgM te (nI 0) ((y 0) - (nI 1)) (tkM te (!hs) (zz, ff))).1) ((fgM te (nI 0) ((y 0) - (nI 1)) (tkM te (!hs) (zz, ff))).2) sv (upd y 2 (oN (fvM te ((tkM te (!hs) (zz, ff)).1)))) pa ke ik fa te aw) H := hP
                    have hD : va_D A (mow G ad ((fgM te (nI 0) ((y 0) - (nI 1)) (tkM te (!hs) (zz, ff))).1) ((fgM te (nI 0) ((y 0) - (nI 1)) (tkM te (!hs) (zz, ff))).2) sv (upd y 2 (oN (fvM te ((tkM te (!hs) (zz, ff)).1)))) pa ke ik fa te aw) := hD
                    refine lv_goto (tgt := 195) hx hb dX8_reads_159 (by decide) ?_
                    have e8 : (it1 te (it, hs, y, L, zz, ff)) = (it, true, upd y 2 (oN (fvM te ((tkM te (!hs) (zz, ff)).1))), L, (fgM te (nI 0) ((y 0) - (nI 1)) (tkM te (!hs) (zz, ff)))) := by unfold it1; rw [if_neg (by rw [show (it, hs, y, L, zz, ff).2.2.2.2.1 13 = zz 13 from rfl, htk]; decide), if_pos (show (it, hs, y, L, zz, ff).2.2.2.2.1 13 = 2 from htk)]
                    have hP : va_P G.1 vwCl (mow G ad ((it1 te (it, hs, y, L, zz, ff)).2.2.2.2.1) ((it1 te (it, hs, y, L, zz, ff)).2.2.2.2.2) sv ((it1 te (it, hs, y, L, zz, ff)).2.2.1) pa ke ik fa te aw) H := by rw [e8]; exact hP
                    have hD : va_D A (mow G ad ((it1 te (it, hs, y, L, zz, ff)).2.2.2.2.1) ((it1 te (it, hs, y, L, zz, ff)).2.2.2.2.2) sv ((it1 te (it, hs, y, L, zz, ff)).2.2.1) pa ke ik fa te aw) := by rw [e8]; exact hD
                    refine lv_aload_n hx hb dX8_reads_195 rfl (lv_at hl 1 rfl) ?_
                    refine lv_aload_n hx hb dX8_reads_196 rfl (lv_at hl 1 rfl) ?_
                    refine va_get (D := G.1) (ci := 7) (v := .int (nI (((it1 te (it, hs, y, L, zz, ff)).2.2.2.2.1) 13))) (C := RX8) (T := TX8) (N := 17) hx hb hts inA8 hown hX.1 hP 0 rfl rfl 13 (by decide) (hts _ kw_693) (fun _ h9 => h9) rfl dX8_reads_197 ?_
                    refine lv_bipush (v := (nI 6)) hx hb dX8_reads_200 (by decide) ?_
                    refine nv_ne (x := ((it1 te (it, hs, y, L, zz, ff)).2.2.2.2.1) 13) (y := 6) (tgt := 209) hx hb dX8_reads_202 (by decide) (by have h9 := hR.i1.1.2.2.2.2.1; omega) (by decide) (fun c202 => ?_) (fun c202 => ?_)
                    · refine lv_iconst (v := (nI 0)) hx hb dX8_reads_209 (by decide) ?_
                      refine ti (y := (bI (decide ((it1 te (it, hs, y, L, zz, ff)).2.2.2.2.1 13 = 6)))) (by rw [decide_eq_false c202]; rfl) ?_
                      refine ca_Vv (ci := 7) (q := (RX8, TX8, 17)) (rest := []) (wr := ([] : va_W)) F hX (mX8_takes l G ad ((it1 te (it, hs, y, L, zz, ff)).2.2.2.2.1) ((it1 te (it, hs, y, L, zz, ff)).2.2.2.2.2) sv ((it1 te (it, hs, y, L, zz, ff)).2.2.1) pa ke ik fa te aw (decide ((it1 te (it, hs, y, L, zz, ff)).2.2.2.2.1 13 = 6)) hR.i1.1 (fo_i1 hR hff)) (cA_V hts kw_770 kw_8 kw_767 kw_769 kp_24 hdX8_takes ⟨Nat.le_of_ble_eq_true rfl, Nat.le_of_ble_eq_true rfl⟩) rfl rfl rfl hl.1 rfl (Nat.le_of_ble_eq_true rfl) dX8_reads_210 ⟨Nat.le_of_ble_eq_true rfl, Nat.le_of_ble_eq_true rfl⟩ hP hD hS hA (pm_nil _) (fun u210 H locs hp210 hP hD hS => ?_)
                      have hP : va_P G.1 vwCl (mow G ad ((tkM te (decide ((it1 te (it, hs, y, L, zz, ff)).2.2.2.2.1 13 = 6)) (it1 te (it, hs, y, L, zz, ff)).2.2.2.2).1) ((tkM te (decide ((it1 te (it, hs, y, L, zz, ff)).2.2.2.2.1 13 = 6)) (it1 te (it, hs, y, L, zz, ff)).2.2.2.2).2) sv ((it1 te (it, hs, y, L, zz, ff)).2.2.1) pa ke ik fa te aw) H := wp_pm (pm_nil _).symm hP
                      have hD : va_D A (mow G ad ((tkM te (decide ((it1 te (it, hs, y, L, zz, ff)).2.2.2.2.1 13 = 6)) (it1 te (it, hs, y, L, zz, ff)).2.2.2.2).1) ((tkM te (decide ((it1 te (it, hs, y, L, zz, ff)).2.2.2.2.1 13 = 6)) (it1 te (it, hs, y, L, zz, ff)).2.2.2.2).2) sv ((it1 te (it, hs, y, L, zz, ff)).2.2.1) pa ke ik fa te aw) := wd_pm (pm_nil _).symm hD
                      refine lv_iinc (v := (nI (it + 1))) (lv' := [(2, .int (nI (it + 1))), (1, .int (nI 1)), (0, .ref (ad 0))]) hx hb dX8_reads_213 hl (k := 2) rfl (qn_inc _) (by decide) rfl (fun ls hl => ?_)
                      have e5 : (it1 te (it, hs, y, L, zz, ff)).1 = it := by rw [e8]
                      have e6 : (it1 te (it, hs, y, L, zz, ff)).2.1 = true := by rw [e8]
                      have hl : lv_has ls 3 [(2, .int (nI ((it1 te (it, hs, y, L, zz, ff)).1 + 1))), (1, .int (bI ((it1 te (it, hs, y, L, zz, ff)).2.1))), (0, .ref (ad 0))] := by rw [e5, e6]; exact hl
                      refine lv_goto (tgt := 47) hx hb dX8_reads_216 (by decide) ?_
                      exact ih47 (m9 - 1) ((it1 te (it, hs, y, L, zz, ff)).1 + 1) ((it1 te (it, hs, y, L, zz, ff)).2.1) ((it1 te (it, hs, y, L, zz, ff)).2.2.1) ((it1 te (it, hs, y, L, zz, ff)).2.2.2.1) ((tkM te (decide ((it1 te (it, hs, y, L, zz, ff)).2.2.2.2.1 13 = 6)) (it1 te (it, hs, y, L, zz, ff)).2.2.2.2).1) ((tkM te (decide ((it1 te (it, hs, y, L, zz, ff)).2.2.2.2.1 13 = 6)) (it1 te (it, hs, y, L, zz, ff)).2.2.2.2).2) (by have h1 : (if (itM te (it, hs, y, L, zz, ff)).2.2.2.2.2 = none then 1 + ((itM te (it, hs, y, L, zz, ff)).2.2.2.2.1 10 - (itM te (it, hs, y, L, zz, ff)).2.2.2.2.1 11) else 0) < (if ff = none then 1 + (zz 10 - zz 11) else 0) := rd_mu hR c60 hq; show (if (itM te (it, hs, y, L, zz, ff)).2.2.2.2.2 = none then 1 + ((itM te (it, hs, y, L, zz, ff)).2.2.2.2.1 10 - (itM te (it, hs, y, L, zz, ff)).2.2.2.2.1 11) else 0) < n47; omega) (by exact hR.it) (fo_tk hR.i1.1 (fo_i1 hR hff)) ⟨by have h1 := hit.2 hq; have h2 : zz 10 ≤ 120 := hR.1.2.1; have h3 : zz 11 ≤ zz 12 := hR.1.2.2.1; have h4 : zz 12 ≤ zz 10 := hR.1.2.2.2.1; rw [e5]; omega, fun h => by have h1 := hit.2 hq; have h2 := it_on hR h c60; have h3 : zz 11 < (itM te (it, hs, y, L, zz, ff)).2.2.2.2.1 11 := h2; rw [e5]; show it + 1 ≤ (itM te (it, hs, y, L, zz, ff)).2.2.2.2.1 11; omega⟩ (by have h1 : (if (itM te (it, hs, y, L, zz, ff)).2.2.2.2.2 = none then 1 + ((itM te (it, hs, y, L, zz, ff)).2.2.2.2.1 10 - (itM te (it, hs, y, L, zz, ff)).2.2.2.2.1 11) else 0) < (if ff = none then 1 + (zz 10 - zz 11) else 0) := rd_mu hR c60 hq; show (if (itM te (it, hs, y, L, zz, ff)).2.2.2.2.2 = none then 1 + ((itM te (it, hs, y, L, zz, ff)).2.2.2.2.1 10 - (itM te (it, hs, y, L, zz, ff)).2.2.2.2.1 11) else 0) ≤ m9 - 1; omega) (by have h1 : (if ff = none then 1 + (zz 10 - zz 11) else 0) = 1 + (zz 10 - zz 11) := if_pos hq; have e9 : m9 = (m9 - 1) + 1 := (by omega); rw [e9, rdM_go hq c60] at hres; exact hres) _ _ hP hD hS ls (lv_sub hl [2, 1, 0] rfl)
                    · refine lv_iconst (v := (nI 1)) hx hb dX8_reads_205 (by decide) ?_
                      refine lv_goto (tgt := 210) hx hb dX8_reads_206 (by decide) ?_
                      refine ti (y := (bI (decide ((it1 te (it, hs, y, L, zz, ff)).2.2.2.2.1 13 = 6)))) (by rw [decide_eq_true c202]; rfl) ?_
                      refine ca_Vv (ci := 7) (q := (RX8, TX8, 17)) (rest := []) (wr := ([] : va_W)) F hX (mX8_takes l G ad ((it1 te (it, hs, y, L, zz, ff)).2.2.2.2.1) ((it1 te (it, hs, y, L, zz, ff)).2.2.2.2.2) sv ((it1 te (it, hs, y, L, zz, ff)).2.2.1) pa ke ik fa te aw (decide ((it1 te (it, hs, y, L, zz, ff)).2.2.2.2.1 13 = 6)) hR.i1.1 (fo_i1 hR hff)) (cA_V hts kw_770 kw_8 kw_767 kw_769 kp_24 hdX8_takes ⟨Nat.le_of_ble_eq_true rfl, Nat.le_of_ble_eq_true rfl⟩) rfl rfl rfl hl.1 rfl (Nat.le_of_ble_eq_true rfl) dX8_reads_210 ⟨Nat.le_of_ble_eq_true rfl, Nat.le_of_ble_eq_true rfl⟩ hP hD hS hA (pm_nil _) (fun u210 H locs hp210 hP hD hS => ?_)
                      have hP : va_P G.1 vwCl (mow G ad ((tkM te (decide ((it1 te (it, hs, y, L, zz, ff)).2.2.2.2.1 13 = 6)) (it1 te (it, hs, y, L, zz, ff)).2.2.2.2).1) ((tkM te (decide ((it1 te (it, hs, y, L, zz, ff)).2.2.2.2.1 13 = 6)) (it1 te (it, hs, y, L, zz, ff)).2.2.2.2).2) sv ((it1 te (it, hs, y, L, zz, ff)).2.2.1) pa ke ik fa te aw) H := wp_pm (pm_nil _).symm hP
                      have hD : va_D A (mow G ad ((tkM te (decide ((it1 te (it, hs, y, L, zz, ff)).2.2.2.2.1 13 = 6)) (it1 te (it, hs, y, L, zz, ff)).2.2.2.2).1) ((tkM te (decide ((it1 te (it, hs, y, L, zz, ff)).2.2.2.2.1 13 = 6)) (it1 te (it, hs, y, L, zz, ff)).2.2.2.2).2) sv ((it1 te (it, hs, y, L, zz, ff)).2.2.1) pa ke ik fa te aw) := wd_pm (pm_nil _).symm hD
                      refine lv_iinc (v := (nI (it + 1))) (lv' := [(2, .int (nI (it + 1))), (1, .int (nI 1)), (0, .ref (ad 0))]) hx hb dX8_reads_213 hl (k := 2) rfl (qn_inc _) (by decide) rfl (fun ls hl => ?_)
                      have e5 : (it1 te (it, hs, y, L, zz, ff)).1 = it := by rw [e8]
                      have e6 : (it1 te (it, hs, y, L, zz, ff)).2.1 = true := by rw [e8]
                      have hl : lv_has ls 3 [(2, .int (nI ((it1 te (it, hs, y, L, zz, ff)).1 + 1))), (1, .int (bI ((it1 te (it, hs, y, L, zz, ff)).2.1))), (0, .ref (ad 0))] := by rw [e5, e6]; exact hl
                      refine lv_goto (tgt := 47) hx hb dX8_reads_216 (by decide) ?_
                      exact ih47 (m9 - 1) ((it1 te (it, hs, y, L, zz, ff)).1 + 1) ((it1 te (it, hs, y, L, zz, ff)).2.1) ((it1 te (it, hs, y, L, zz, ff)).2.2.1) ((it1 te (it, hs, y, L, zz, ff)).2.2.2.1) ((tkM te (decide ((it1 te (it, hs, y, L, zz, ff)).2.2.2.2.1 13 = 6)) (it1 te (it, hs, y, L, zz, ff)).2.2.2.2).1) ((tkM te (decide ((it1 te (it, hs, y, L, zz, ff)).2.2.2.2.1 13 = 6)) (it1 te (it, hs, y, L, zz, ff)).2.2.2.2).2) (by have h1 : (if (itM te (it, hs, y, L, zz, ff)).2.2.2.2.2 = none then 1 + ((itM te (it, hs, y, L, zz, ff)).2.2.2.2.1 10 - (itM te (it, hs, y, L, zz, ff)).2.2.2.2.1 11) else 0) < (if ff = none then 1 + (zz 10 - zz 11) else 0) := rd_mu hR c60 hq; show (if (itM te (it, hs, y, L, zz, ff)).2.2.2.2.2 = none then 1 + ((itM te (it, hs, y, L, zz, ff)).2.2.2.2.1 10 - (itM te (it, hs, y, L, zz, ff)).2.2.2.2.1 11) else 0) < n47; omega) (by exact hR.it) (fo_tk hR.i1.1 (fo_i1 hR hff)) ⟨by have h1 := hit.2 hq; have h2 : zz 10 ≤ 120 := hR.1.2.1; have h3 : zz 11 ≤ zz 12 := hR.1.2.2.1; have h4 : zz 12 ≤ zz 10 := hR.1.2.2.2.1; rw [e5]; omega, fun h => by have h1 := hit.2 hq; have h2 := it_on hR h c60; have h3 : zz 11 < (itM te (it, hs, y, L, zz, ff)).2.2.2.2.1 11 := h2; rw [e5]; show it + 1 ≤ (itM te (it, hs, y, L, zz, ff)).2.2.2.2.1 11; omega⟩ (by have h1 : (if (itM te (it, hs, y, L, zz, ff)).2.2.2.2.2 = none then 1 + ((itM te (it, hs, y, L, zz, ff)).2.2.2.2.1 10 - (itM te (it, hs, y, L, zz, ff)).2.2.2.2.1 11) else 0) < (if ff = none then 1 + (zz 10 - zz 11) else 0) := rd_mu hR c60 hq; show (if (itM te (it, hs, y, L, zz, ff)).2.2.2.2.2 = none then 1 + ((itM te (it, hs, y, L, zz, ff)).2.2.2.2.1 10 - (itM te (it, hs, y, L, zz, ff)).2.2.2.2.1 11) else 0) ≤ m9 - 1; omega) (by have h1 : (if ff = none then 1 + (zz 10 - zz 11) else 0) = 1 + (zz 10 - zz 11) := if_pos hq; have e9 : m9 = (m9 - 1) + 1 := (by omega); rw [e9, rdM_go hq c60] at hres; exact hres) _ _ hP hD hS ls (lv_sub hl [2, 1, 0] rfl)
                  · refine lv_iconst (v := (nI 1)) hx hb dX8_reads_130 (by decide) ?_
                    refine lv_goto (tgt := 135) hx hb dX8_reads_131 (by decide) ?_
                    refine ti (y := (bI (!hs))) (by rw [c127]; rfl) ?_
                    refine ca_Vv (ci := 7) (q := (RX8, TX8, 17)) (rest := []) (wr := ([] : va_W)) F hX (mX8_takes l G ad zz ff sv y pa ke ik fa te aw (!hs) hY hff) (cA_V hts kw_770 kw_8 kw_767 kw_769 kp_24 hdX8_takes ⟨Nat.le_of_ble_eq_true rfl, Nat.le_of_ble_eq_true rfl⟩) rfl rfl rfl hl.1 rfl (Nat.le_of_ble_eq_true rfl) dX8_reads_135 ⟨Nat.le_of_ble_eq_true rfl, Nat.le_of_ble_eq_true rfl⟩ hP hD hS hA (pm_nil _) (fun u135 H locs hp135 hP hD hS => ?_)
                    have hP : va_P G.1 vwCl (mow G ad ((tkM te (!hs) (zz, ff)).1) ((tkM te (!hs) (zz, ff)).2) sv y pa ke ik fa te aw) H := wp_pm (pm_nil _).symm hP
                    have hD : va_D A (mow G ad ((tkM te (!hs) (zz, ff)).1) ((tkM te (!hs) (zz, ff)).2) sv y pa ke ik fa te aw) := wd_pm (pm_nil _).symm hD
                    refine lv_iconst (v := (nI 1)) hx hb dX8_reads_138 (by decide) ?_
                    refine lv_istore_n (lv' := [(1, .int (nI 1)), (0, .ref (ad 0)), (2, .int (nI it))]) hx hb dX8_reads_139 rfl hl (by decide) rfl (fun ls hl => ?_)
                    refine lv_aload_n hx hb dX8_reads_140 rfl (lv_at hl 1 rfl) ?_
                    refine va_get (D := G.1) (ci := 7) (v := .ref (ad 2)) (C := RX8) (T := TX8) (N := 17) hx hb hts inA8 hown hX.1 hP 0 rfl rfl 2 (by decide) (hts _ kw_682) (fun _ h9 => h9) rfl dX8_reads_141 ?_
                    refine lv_iconst (v := (nI 2)) hx hb dX8_reads_144 (by decide) ?_
                    refine lv_aload_n hx hb dX8_reads_145 rfl (lv_at hl 1 rfl) ?_
                    refine lv_iconst (v := (nI 0)) hx hb dX8_reads_146 (by decide) ?_
                    refine lv_aload_n hx hb dX8_reads_147 rfl (lv_at hl 1 rfl) ?_
                    refine va_get (D := G.1) (ci := 7) (v := .ref (ad 2)) (C := RX8) (T := TX8) (N := 17) hx hb hts inA8 hown hX.1 hP 0 rfl rfl 2 (by decide) (hts _ kw_682) (fun _ h9 => h9) rfl dX8_reads_148 ?_
                    refine lv_iconst (v := (nI 0)) hx hb dX8_reads_151 (by decide) ?_
                    refine nv_aldI (f := y) (k := 0) hx hb hX hP 2 rfl (by omega) (by decide) dX8_reads_152 ?_
                    refine lv_iconst (v := (nI 1)) hx hb dX8_reads_153 (by decide) ?_
                    refine lv_isub hx hb dX8_reads_154 ?_
                    refine ca_Vi (ci := 7) (q := (RX8, TX8, 17)) (rest := [.int (nI 2), .ref (ad 2)]) (wr := ([] : va_W)) F hX (mX8_figure l G ad ((tkM te (!hs) (zz, ff)).1) ((tkM te (!hs) (zz, ff)).2) sv y pa ke ik fa te aw (nI 0) ((y 0) - (nI 1)) (hY.tk (q := (zz, ff)) _) (fo_tk (q := (zz, ff)) hY hff)) (cA_V hts kw_774 kw_8 kw_771 kw_773 kp_25 hdX8_figure ⟨Nat.le_of_ble_eq_true rfl, Nat.le_of_ble_eq_true rfl⟩) rfl rfl rfl hl.1 rfl (Nat.le_of_ble_eq_true rfl) dX8_reads_155 ⟨Nat.le_of_ble_eq_true rfl, Nat.le_of_ble_eq_true rfl⟩ hP hD hS hA (pm_nil _) (fun r155 u155 H locs hp155 hP hD hS => ?_)
                    have hP : va_P G.1 vwCl (mow G ad ((fgM te (nI 0) ((y 0) - (nI 1)) (tkM te (!hs) (zz, ff))).1) ((fgM te (nI 0) ((y 0) - (nI 1)) (tkM te (!hs) (zz, ff))).2) sv y pa ke ik fa te aw) H := wp_pm (pm_nil _).symm hP
                    have hD : va_D A (mow G ad ((fgM te (nI 0) ((y 0) - (nI 1)) (tkM te (!hs) (zz, ff))).1) ((fgM te (nI 0) ((y 0) - (nI 1)) (tkM te (!hs) (zz, ff))).2) sv y pa ke ik fa te aw) := wd_pm (pm_nil _).symm hD
                    subst hp155
                    refine nv_astI (f := y) (k := 2) (v := (oN (fvM te ((tkM te (!hs) (zz, ff)).1)))) hx hb hX hP hD hS 2 rfl (by omega) (by decide) dX8_reads_158 (fun H locs hP hD hS => ?_)
                    have hP : va_P G.1 vwCl (mow G ad ((fgM te (nI 0) ((y 0) - (nI 1)) (tkM te (!hs) (zz, ff))).1) ((fgM te (nI 0) ((y 0) - (nI 1)) (tkM te (!hs) (zz, ff))).2) sv (upd y 2 (oN (fvM te ((tkM te (!hs) (zz, ff)).1)))) pa ke ik fa te aw) H := hP
                    have hD : va_D A (mow G ad ((fgM te (nI 0) ((y 0) - (nI 1)) (tkM te (!hs) (zz, ff))).1) ((fgM te (nI 0) ((y 0) - (nI 1)) (tkM te (!hs) (zz, ff))).2) sv (upd y 2 (oN (fvM te ((tkM te (!hs) (zz, ff)).1)))) pa ke ik fa te aw) := hD
                    refine lv_goto (tgt := 195) hx hb dX8_reads_159 (by decide) ?_
                    have e8 : (it1 te (it, hs, y, L, zz, ff)) = (it, true, upd y 2 (oN (fvM te ((tkM te (!hs) (zz, ff)).1))), L, (fgM te (nI 0) ((y 0) - (nI 1)) (tkM te (!hs) (zz, ff)))) := by unfold it1; rw [if_neg (by rw [show (it, hs, y, L, zz, ff).2.2.2.2.1 13 = zz 13 from rfl, htk]; decide), if_pos (show (it, hs, y, L, zz, ff).2.2.2.2.1 13 = 2 from htk)]
                    have hP : va_P G.1 vwCl (mow G ad ((it1 te (it, hs, y, L, zz, ff)).2.2.2.2.1) ((it1 te (it, hs, y, L, zz, ff)).2.2.2.2.2) sv ((it1 te (it, hs, y, L, zz, ff)).2.2.1) pa ke ik fa te aw) H := by rw [e8]; exact hP
                    have hD : va_D A (mow G ad ((it1 te (it, hs, y, L, zz, ff)).2.2.2.2.1) ((it1 te (it, hs, y, L, zz, ff)).2.2.2.2.2) sv ((it1 te (it, hs, y, L, zz, ff)).2.2.1) pa ke ik fa te aw) := by rw [e8]; exact hD
                    refine lv_aload_n hx hb dX8_reads_195 rfl (lv_at hl 1 rfl) ?_
                    refine lv_aload_n hx hb dX8_reads_196 rfl (lv_at hl 1 rfl) ?_
                    refine va_get (D := G.1) (ci := 7) (v := .int (nI (((it1 te (it, hs, y, L, zz, ff)).2.2.2.2.1) 13))) (C := RX8) (T := TX8) (N := 17) hx hb hts inA8 hown hX.1 hP 0 rfl rfl 13 (by decide) (hts _ kw_693) (fun _ h9 => h9) rfl dX8_reads_197 ?_
                    refine lv_bipush (v := (nI 6)) hx hb dX8_reads_200 (by decide) ?_
                    refine nv_ne (x := ((it1 te (it, hs, y, L, zz, ff)).2.2.2.2.1) 13) (y := 6) (tgt := 209) hx hb dX8_reads_202 (by decide) (by have h9 := hR.i1.1.2.2.2.2.1; omega) (by decide) (fun c202 => ?_) (fun c202 => ?_)
                    · refine lv_iconst (v := (nI 0)) hx hb dX8_reads_209 (by decide) ?_
                      refine ti (y := (bI (decide ((it1 te (it, hs, y, L, zz, ff)).2.2.2.2.1 13 = 6)))) (by rw [decide_eq_false c202]; rfl) ?_
                      refine ca_Vv (ci := 7) (q := (RX8, TX8, 17)) (rest := []) (wr := ([] : va_W)) F hX (mX8_takes l G ad ((it1 te (it, hs, y, L, zz, ff)).2.2.2.2.1) ((it1 te (it, hs, y, L, zz, ff)).2.2.2.2.2) sv ((it1 te (it, hs, y, L, zz, ff)).2.2.1) pa ke ik fa te aw (decide ((it1 te (it, hs, y, L, zz, ff)).2.2.2.2.1 13 = 6)) hR.i1.1 (fo_i1 hR hff)) (cA_V hts kw_770 kw_8 kw_767 kw_769 kp_24 hdX8_takes ⟨Nat.le_of_ble_eq_true rfl, Nat.le_of_ble_eq_true rfl⟩) rfl rfl rfl hl.1 rfl (Nat.le_of_ble_eq_true rfl) dX8_reads_210 ⟨Nat.le_of_ble_eq_true rfl, Nat.le_of_ble_eq_true rfl⟩ hP hD hS hA (pm_nil _) (fun u210 H locs hp210 hP hD hS => ?_)
                      have hP : va_P G.1 vwCl (mow G ad ((tkM te (decide ((it1 te (it, hs, y, L, zz, ff)).2.2.2.2.1 13 = 6)) (it1 te (it, hs, y, L, zz, ff)).2.2.2.2).1) ((tkM te (decide ((it1 te (it, hs, y, L, zz, ff)).2.2.2.2.1 13 = 6)) (it1 te (it, hs, y, L, zz, ff)).2.2.2.2).2) sv ((it1 te (it, hs, y, L, zz, ff)).2.2.1) pa ke ik fa te aw) H := wp_pm (pm_nil _).symm hP
                      have hD : va_D A (mow G ad ((tkM te (decide ((it1 te (it, hs, y, L, zz, ff)).2.2.2.2.1 13 = 6)) (it1 te (it, hs, y, L, zz, ff)).2.2.2.2).1) ((tkM te (decide ((it1 te (it, hs, y, L, zz, ff)).2.2.2.2.1 13 = 6)) (it1 te (it, hs, y, L, zz, ff)).2.2.2.2).2) sv ((it1 te (it, hs, y, L, zz, ff)).2.2.1) pa ke ik fa te aw) := wd_pm (pm_nil _).symm hD
                      refine lv_iinc (v := (nI (it + 1))) (lv' := [(2, .int (nI (it + 1))), (1, .int (nI 1)), (0, .ref (ad 0))]) hx hb dX8_reads_213 hl (k := 2) rfl (qn_inc _) (by decide) rfl (fun ls hl => ?_)
                      have e5 : (it1 te (it, hs, y, L, zz, ff)).1 = it := by rw [e8]
                      have e6 : (it1 te (it, hs, y, L, zz, ff)).2.1 = true := by rw [e8]
                      have hl : lv_has ls 3 [(2, .int (nI ((it1 te (it, hs, y, L, zz, ff)).1 + 1))), (1, .int (bI ((it1 te (it, hs, y, L, zz, ff)).2.1))), (0, .ref (ad 0))] := by rw [e5, e6]; exact hl
                      refine lv_goto (tgt := 47) hx hb dX8_reads_216 (by decide) ?_
                      exact ih47 (m9 - 1) ((it1 te (it, hs, y, L, zz, ff)).1 + 1) ((it1 te (it, hs, y, L, zz, ff)).2.1) ((it1 te (it, hs, y, L, zz, ff)).2.2.1) ((it1 te (it, hs, y, L, zz, ff)).2.2.2.1) ((tkM te (decide ((it1 te (it, hs, y, L, zz, ff)).2.2.2.2.1 13 = 6)) (it1 te (it, hs, y, L, zz, ff)).2.2.2.2).1) ((tkM te (decide ((it1 te (it, hs, y, L, zz, ff)).2.2.2.2.1 13 = 6)) (it1 te (it, hs, y, L, zz, ff)).2.2.2.2).2) (by have h1 : (if (itM te (it, hs, y, L, zz, ff)).2.2.2.2.2 = none then 1 + ((itM te (it, hs, y, L, zz, ff)).2.2.2.2.1 10 - (itM te (it, hs, y, L, zz, ff)).2.2.2.2.1 11) else 0) < (if ff = none then 1 + (zz 10 - zz 11) else 0) := rd_mu hR c60 hq; show (if (itM te (it, hs, y, L, zz, ff)).2.2.2.2.2 = none then 1 + ((itM te (it, hs, y, L, zz, ff)).2.2.2.2.1 10 - (itM te (it, hs, y, L, zz, ff)).2.2.2.2.1 11) else 0) < n47; omega) (by exact hR.it) (fo_tk hR.i1.1 (fo_i1 hR hff)) ⟨by have h1 := hit.2 hq; have h2 : zz 10 ≤ 120 := hR.1.2.1; have h3 : zz 11 ≤ zz 12 := hR.1.2.2.1; have h4 : zz 12 ≤ zz 10 := hR.1.2.2.2.1; rw [e5]; omega, fun h => by have h1 := hit.2 hq; have h2 := it_on hR h c60; have h3 : zz 11 < (itM te (it, hs, y, L, zz, ff)).2.2.2.2.1 11 := h2; rw [e5]; show it + 1 ≤ (itM te (it, hs, y, L, zz, ff)).2.2.2.2.1 11; omega⟩ (by have h1 : (if (itM te (it, hs, y, L, zz, ff)).2.2.2.2.2 = none then 1 + ((itM te (it, hs, y, L, zz, ff)).2.2.2.2.1 10 - (itM te (it, hs, y, L, zz, ff)).2.2.2.2.1 11) else 0) < (if ff = none then 1 + (zz 10 - zz 11) else 0) := rd_mu hR c60 hq; show (if (itM te (it, hs, y, L, zz, ff)).2.2.2.2.2 = none then 1 + ((itM te (it, hs, y, L, zz, ff)).2.2.2.2.1 10 - (itM te (it, hs, y, L, zz, ff)).2.2.2.2.1 11) else 0) ≤ m9 - 1; omega) (by have h1 : (if ff = none then 1 + (zz 10 - zz 11) else 0) = 1 + (zz 10 - zz 11) := if_pos hq; have e9 : m9 = (m9 - 1) + 1 := (by omega); rw [e9, rdM_go hq c60] at hres; exact hres) _ _ hP hD hS ls (lv_sub hl [2, 1, 0] rfl)
                    · refine lv_iconst (v := (nI 1)) hx hb dX8_reads_205 (by decide) ?_
                      refine lv_goto (tgt := 210) hx hb dX8_reads_206 (by decide) ?_
                      refine ti (y := (bI (decide ((it1 te (it, hs, y, L, zz, ff)).2.2.2.2.1 13 = 6)))) (by rw [decide_eq_true c202]; rfl) ?_
                      refine ca_Vv (ci := 7) (q := (RX8, TX8, 17)) (rest := []) (wr := ([] : va_W)) F hX (mX8_takes l G ad ((it1 te (it, hs, y, L, zz, ff)).2.2.2.2.1) ((it1 te (it, hs, y, L, zz, ff)).2.2.2.2.2) sv ((it1 te (it, hs, y, L, zz, ff)).2.2.1) pa ke ik fa te aw (decide ((it1 te (it, hs, y, L, zz, ff)).2.2.2.2.1 13 = 6)) hR.i1.1 (fo_i1 hR hff)) (cA_V hts kw_770 kw_8 kw_767 kw_769 kp_24 hdX8_takes ⟨Nat.le_of_ble_eq_true rfl, Nat.le_of_ble_eq_true rfl⟩) rfl rfl rfl hl.1 rfl (Nat.le_of_ble_eq_true rfl) dX8_reads_210 ⟨Nat.le_of_ble_eq_true rfl, Nat.le_of_ble_eq_true rfl⟩ hP hD hS hA (pm_nil _) (fun u210 H locs hp210 hP hD hS => ?_)
                      have hP : va_P G.1 vwCl (mow G ad ((tkM te (decide ((it1 te (it, hs, y, L, zz, ff)).2.2.2.2.1 13 = 6)) (it1 te (it, hs, y, L, zz, ff)).2.2.2.2).1) ((tkM te (decide ((it1 te (it, hs, y, L, zz, ff)).2.2.2.2.1 13 = 6)) (it1 te (it, hs, y, L, zz, ff)).2.2.2.2).2) sv ((it1 te (it, hs, y, L, zz, ff)).2.2.1) pa ke ik fa te aw) H := wp_pm (pm_nil _).symm hP
                      have hD : va_D A (mow G ad ((tkM te (decide ((it1 te (it, hs, y, L, zz, ff)).2.2.2.2.1 13 = 6)) (it1 te (it, hs, y, L, zz, ff)).2.2.2.2).1) ((tkM te (decide ((it1 te (it, hs, y, L, zz, ff)).2.2.2.2.1 13 = 6)) (it1 te (it, hs, y, L, zz, ff)).2.2.2.2).2) sv ((it1 te (it, hs, y, L, zz, ff)).2.2.1) pa ke ik fa te aw) := wd_pm (pm_nil _).symm hD
                      refine lv_iinc (v := (nI (it + 1))) (lv' := [(2, .int (nI (it + 1))), (1, .int (nI 1)), (0, .ref (ad 0))]) hx hb dX8_reads_213 hl (k := 2) rfl (qn_inc _) (by decide) rfl (fun ls hl => ?_)
                      have e5 : (it1 te (it, hs, y, L, zz, ff)).1 = it := by rw [e8]
                      have e6 : (it1 te (it, hs, y, L, zz, ff)).2.1 = true := by rw [e8]
                      have hl : lv_has ls 3 [(2, .int (nI ((it1 te (it, hs, y, L, zz, ff)).1 + 1))), (1, .int (bI ((it1 te (it, hs, y, L, zz, ff)).2.1))), (0, .ref (ad 0))] := by rw [e5, e6]; exact hl
                      refine lv_goto (tgt := 47) hx hb dX8_reads_216 (by decide) ?_
                      exact ih47 (m9 - 1) ((it1 te (it, hs, y, L, zz, ff)).1 + 1) ((it1 te (it, hs, y, L, zz, ff)).2.1) ((it1 te (it, hs, y, L, zz, ff)).2.2.1) ((it1 te (it, hs, y, L, zz, ff)).2.2.2.1) ((tkM te (decide ((it1 te (it, hs, y, L, zz, ff)).2.2.2.2.1 13 = 6)) (it1 te (it, hs, y, L, zz, ff)).2.2.2.2).1) ((tkM te (decide ((it1 te (it, hs, y, L, zz, ff)).2.2.2.2.1 13 = 6)) (it1 te (it, hs, y, L, zz, ff)).2.2.2.2).2) (by have h1 : (if (itM te (it, hs, y, L, zz, ff)).2.2.2.2.2 = none then 1 + ((itM te (it, hs, y, L, zz, ff)).2.2.2.2.1 10 - (itM te (it, hs, y, L, zz, ff)).2.2.2.2.1 11) else 0) < (if ff = none then 1 + (zz 10 - zz 11) else 0) := rd_mu hR c60 hq; show (if (itM te (it, hs, y, L, zz, ff)).2.2.2.2.2 = none then 1 + ((itM te (it, hs, y, L, zz, ff)).2.2.2.2.1 10 - (itM te (it, hs, y, L, zz, ff)).2.2.2.2.1 11) else 0) < n47; omega) (by exact hR.it) (fo_tk hR.i1.1 (fo_i1 hR hff)) ⟨by have h1 := hit.2 hq; have h2 : zz 10 ≤ 120 := hR.1.2.1; have h3 : zz 11 ≤ zz 12 := hR.1.2.2.1; have h4 : zz 12 ≤ zz 10 := hR.1.2.2.2.1; rw [e5]; omega, fun h => by have h1 := hit.2 hq; have h2 := it_on hR h c60; have h3 : zz 11 < (itM te (it, hs, y, L, zz, ff)).2.2.2.2.1 11 := h2; rw [e5]; show it + 1 ≤ (itM te (it, hs, y, L, zz, ff)).2.2.2.2.1 11; omega⟩ (by have h1 : (if (itM te (it, hs, y, L, zz, ff)).2.2.2.2.2 = none then 1 + ((itM te (it, hs, y, L, zz, ff)).2.2.2.2.1 10 - (itM te (it, hs, y, L, zz, ff)).2.2.2.2.1 11) else 0) < (if ff = none then 1 + (zz 10 - zz 11) else 0) := rd_mu hR c60 hq; show (if (itM te (it, hs, y, L, zz, ff)).2.2.2.2.2 = none then 1 + ((itM te (it, hs, y, L, zz, ff)).2.2.2.2.1 10 - (itM te (it, hs, y, L, zz, ff)).2.2.2.2.1 11) else 0) ≤ m9 - 1; omega) (by have h1 : (if ff = none then 1 + (zz 10 - zz 11) else 0) = 1 + (zz 10 - zz 11) := if_pos hq; have e9 : m9 = (m9 - 1) + 1 := (by omega); rw [e9, rdM_go hq c60] at hres; exact hres) _ _ hP hD hS ls (lv_sub hl [2, 1, 0] rfl)
                · refine ti (y := nI 3) (by rw [htk]) ?_
                  refine lv_tableIn (off := 95) (tgt := 162) hx hb dX8_reads_67 (by decide) (by decide) (by decide +kernel) (by decide) ?_
                  refine lv_aload_n hx hb dX8_reads_162 rfl (lv_at hl 0 rfl) ?_
                  refine lv_iconst (v := (nI 1)) hx hb dX8_reads_163 (by decide) ?_
                  refine ca_Vv (ci := 7) (q := (RX8, TX8, 17)) (rest := []) (wr := ([] : va_W)) F hX (mX8_takes l G ad zz ff sv y pa ke ik fa te aw true hY hff) (cA_V hts kw_770 kw_8 kw_767 kw_769 kp_24 hdX8_takes ⟨Nat.le_of_ble_eq_true rfl, Nat.le_of_ble_eq_true rfl⟩) rfl rfl rfl hl.1 rfl (Nat.le_of_ble_eq_true rfl) dX8_reads_164 ⟨Nat.le_of_ble_eq_true rfl, Nat.le_of_ble_eq_true rfl⟩ hP hD hS hA (pm_nil _) (fun u164 H locs hp164 hP hD hS => ?_)
                  have hP : va_P G.1 vwCl (mow G ad ((tkM te true (zz, ff)).1) ((tkM te true (zz, ff)).2) sv y pa ke ik fa te aw) H := wp_pm (pm_nil _).symm hP
                  have hD : va_D A (mow G ad ((tkM te true (zz, ff)).1) ((tkM te true (zz, ff)).2) sv y pa ke ik fa te aw) := wd_pm (pm_nil _).symm hD
                  refine lv_aload_n hx hb dX8_reads_167 rfl (lv_at hl 0 rfl) ?_
                  refine va_get (D := G.1) (ci := 7) (v := .ref (ad 2)) (C := RX8) (T := TX8) (N := 17) hx hb hts inA8 hown hX.1 hP 0 rfl rfl 2 (by decide) (hts _ kw_682) (fun _ h9 => h9) rfl dX8_reads_168 ?_
                  refine lv_iconst (v := (nI 3)) hx hb dX8_reads_171 (by decide) ?_
                  refine lv_aload_n hx hb dX8_reads_172 rfl (lv_at hl 0 rfl) ?_
                  refine lv_iconst (v := (nI 0)) hx hb dX8_reads_173 (by decide) ?_
                  refine lv_bipush (v := (nI 9)) hx hb dX8_reads_174 (by decide) ?_
                  refine ca_Vi (ci := 7) (q := (RX8, TX8, 17)) (rest := [.int (nI 3), .ref (ad 2)]) (wr := ([] : va_W)) F hX (mX8_figure l G ad ((tkM te true (zz, ff)).1) ((tkM te true (zz, ff)).2) sv y pa ke ik fa te aw (nI 0) (nI 9) (hY.tk (q := (zz, ff)) _) (fo_tk (q := (zz, ff)) hY hff)) (cA_V hts kw_774 kw_8 kw_771 kw_773 kp_25 hdX8_figure ⟨Nat.le_of_ble_eq_true rfl, Nat.le_of_ble_eq_true rfl⟩) rfl rfl rfl hl.1 rfl (Nat.le_of_ble_eq_true rfl) dX8_reads_176 ⟨Nat.le_of_ble_eq_true rfl, Nat.le_of_ble_eq_true rfl⟩ hP hD hS hA (pm_nil _) (fun r176 u176 H locs hp176 hP hD hS => ?_)
                  have hP : va_P G.1 vwCl (mow G ad ((fgM te (nI 0) (nI 9) (tkM te true (zz, ff))).1) ((fgM te (nI 0) (nI 9) (tkM te true (zz, ff))).2) sv y pa ke ik fa te aw) H := wp_pm (pm_nil _).symm hP
                  have hD : va_D A (mow G ad ((fgM te (nI 0) (nI 9) (tkM te true (zz, ff))).1) ((fgM te (nI 0) (nI 9) (tkM te true (zz, ff))).2) sv y pa ke ik fa te aw) := wd_pm (pm_nil _).symm hD
                  subst hp176
                  refine nv_astI (f := y) (k := 3) (v := (oN (fvM te ((tkM te true (zz, ff)).1)))) hx hb hX hP hD hS 2 rfl (by omega) (by decide) dX8_reads_179 (fun H locs hP hD hS => ?_)
                  have hP : va_P G.1 vwCl (mow G ad ((fgM te (nI 0) (nI 9) (tkM te true (zz, ff))).1) ((fgM te (nI 0) (nI 9) (tkM te true (zz, ff))).2) sv (upd y 3 (oN (fvM te ((tkM te true (zz, ff)).1)))) pa ke ik fa te aw) H := hP
                  have hD : va_D A (mow G ad ((fgM te (nI 0) (nI 9) (tkM te true (zz, ff))).1) ((fgM te (nI 0) (nI 9) (tkM te true (zz, ff))).2) sv (upd y 3 (oN (fvM te ((tkM te true (zz, ff)).1)))) pa ke ik fa te aw) := hD
                  refine lv_goto (tgt := 195) hx hb dX8_reads_180 (by decide) ?_
                  have e8 : (it1 te (it, hs, y, L, zz, ff)) = (it, hs, upd y 3 (oN (fvM te ((tkM te true (zz, ff)).1))), L, (fgM te (nI 0) (nI 9) (tkM te true (zz, ff)))) := by unfold it1; rw [if_neg (by rw [show (it, hs, y, L, zz, ff).2.2.2.2.1 13 = zz 13 from rfl, htk]; decide), if_neg (by rw [show (it, hs, y, L, zz, ff).2.2.2.2.1 13 = zz 13 from rfl, htk]; decide), if_pos (show (it, hs, y, L, zz, ff).2.2.2.2.1 13 = 3 from htk)]
                  have hP : va_P G.1 vwCl (mow G ad ((it1 te (it, hs, y, L, zz, ff)).2.2.2.2.1) ((it1 te (it, hs, y, L, zz, ff)).2.2.2.2.2) sv ((it1 te (it, hs, y, L, zz, ff)).2.2.1) pa ke ik fa te aw) H := by rw [e8]; exact hP
                  have hD : va_D A (mow G ad ((it1 te (it, hs, y, L, zz, ff)).2.2.2.2.1) ((it1 te (it, hs, y, L, zz, ff)).2.2.2.2.2) sv ((it1 te (it, hs, y, L, zz, ff)).2.2.1) pa ke ik fa te aw) := by rw [e8]; exact hD
                  refine lv_aload_n hx hb dX8_reads_195 rfl (lv_at hl 0 rfl) ?_
                  refine lv_aload_n hx hb dX8_reads_196 rfl (lv_at hl 0 rfl) ?_
                  refine va_get (D := G.1) (ci := 7) (v := .int (nI (((it1 te (it, hs, y, L, zz, ff)).2.2.2.2.1) 13))) (C := RX8) (T := TX8) (N := 17) hx hb hts inA8 hown hX.1 hP 0 rfl rfl 13 (by decide) (hts _ kw_693) (fun _ h9 => h9) rfl dX8_reads_197 ?_
                  refine lv_bipush (v := (nI 6)) hx hb dX8_reads_200 (by decide) ?_
                  refine nv_ne (x := ((it1 te (it, hs, y, L, zz, ff)).2.2.2.2.1) 13) (y := 6) (tgt := 209) hx hb dX8_reads_202 (by decide) (by have h9 := hR.i1.1.2.2.2.2.1; omega) (by decide) (fun c202 => ?_) (fun c202 => ?_)
                  · refine lv_iconst (v := (nI 0)) hx hb dX8_reads_209 (by decide) ?_
                    refine ti (y := (bI (decide ((it1 te (it, hs, y, L, zz, ff)).2.2.2.2.1 13 = 6)))) (by rw [decide_eq_false c202]; rfl) ?_
                    refine ca_Vv (ci := 7) (q := (RX8, TX8, 17)) (rest := []) (wr := ([] : va_W)) F hX (mX8_takes l G ad ((it1 te (it, hs, y, L, zz, ff)).2.2.2.2.1) ((it1 te (it, hs, y, L, zz, ff)).2.2.2.2.2) sv ((it1 te (it, hs, y, L, zz, ff)).2.2.1) pa ke ik fa te aw (decide ((it1 te (it, hs, y, L, zz, ff)).2.2.2.2.1 13 = 6)) hR.i1.1 (fo_i1 hR hff)) (cA_V hts kw_770 kw_8 kw_767 kw_769 kp_24 hdX8_takes ⟨Nat.le_of_ble_eq_true rfl, Nat.le_of_ble_eq_true rfl⟩) rfl rfl rfl hl.1 rfl (Nat.le_of_ble_eq_true rfl) dX8_reads_210 ⟨Nat.le_of_ble_eq_true rfl, Nat.le_of_ble_eq_true rfl⟩ hP hD hS hA (pm_nil _) (fun u210 H locs hp210 hP hD hS => ?_)
                    have hP : va_P G.1 vwCl (mow G ad ((tkM te (decide ((it1 te (it, hs, y, L, zz, ff)).2.2.2.2.1 13 = 6)) (it1 te (it, hs, y, L, zz, ff)).2.2.2.2).1) ((tkM te (decide ((it1 te (it, hs, y, L, zz, ff)).2.2.2.2.1 13 = 6)) (it1 te (it, hs, y, L, zz, ff)).2.2.2.2).2) sv ((it1 te (it, hs, y, L, zz, ff)).2.2.1) pa ke ik fa te aw) H := wp_pm (pm_nil _).symm hP
                    have hD : va_D A (mow G ad ((tkM te (decide ((it1 te (it, hs, y, L, zz, ff)).2.2.2.2.1 13 = 6)) (it1 te (it, hs, y, L, zz, ff)).2.2.2.2).1) ((tkM te (decide ((it1 te (it, hs, y, L, zz, ff)).2.2.2.2.1 13 = 6)) (it1 te (it, hs, y, L, zz, ff)).2.2.2.2).2) sv ((it1 te (it, hs, y, L, zz, ff)).2.2.1) pa ke ik fa te aw) := wd_pm (pm_nil _).symm hD
                    refine lv_iinc (v := (nI (it + 1))) (lv' := [(2, .int (nI (it + 1))), (0, .ref (ad 0)), (1, .int (bI hs))]) hx hb dX8_reads_213 hl (k := 2) rfl (qn_inc _) (by decide) rfl (fun ls hl => ?_)
                    have e5 : (it1 te (it, hs, y, L, zz, ff)).1 = it := by rw [e8]
                    have e6 : (it1 te (it, hs, y, L, zz, ff)).2.1 = hs := by rw [e8]
                    have hl : lv_has ls 3 [(2, .int (nI ((it1 te (it, hs, y, L, zz, ff)).1 + 1))), (0, .ref (ad 0)), (1, .int (bI ((it1 te (it, hs, y, L, zz, ff)).2.1)))] := by rw [e5, e6]; exact hl
                    refine lv_goto (tgt := 47) hx hb dX8_reads_216 (by decide) ?_
                    exact ih47 (m9 - 1) ((it1 te (it, hs, y, L, zz, ff)).1 + 1) ((it1 te (it, hs, y, L, zz, ff)).2.1) ((it1 te (it, hs, y, L, zz, ff)).2.2.1) ((it1 te (it, hs, y, L, zz, ff)).2.2.2.1) ((tkM te (decide ((it1 te (it, hs, y, L, zz, ff)).2.2.2.2.1 13 = 6)) (it1 te (it, hs, y, L, zz, ff)).2.2.2.2).1) ((tkM te (decide ((it1 te (it, hs, y, L, zz, ff)).2.2.2.2.1 13 = 6)) (it1 te (it, hs, y, L, zz, ff)).2.2.2.2).2) (by have h1 : (if (itM te (it, hs, y, L, zz, ff)).2.2.2.2.2 = none then 1 + ((itM te (it, hs, y, L, zz, ff)).2.2.2.2.1 10 - (itM te (it, hs, y, L, zz, ff)).2.2.2.2.1 11) else 0) < (if ff = none then 1 + (zz 10 - zz 11) else 0) := rd_mu hR c60 hq; show (if (itM te (it, hs, y, L, zz, ff)).2.2.2.2.2 = none then 1 + ((itM te (it, hs, y, L, zz, ff)).2.2.2.2.1 10 - (itM te (it, hs, y, L, zz, ff)).2.2.2.2.1 11) else 0) < n47; omega) (by exact hR.it) (fo_tk hR.i1.1 (fo_i1 hR hff)) ⟨by have h1 := hit.2 hq; have h2 : zz 10 ≤ 120 := hR.1.2.1; have h3 : zz 11 ≤ zz 12 := hR.1.2.2.1; have h4 : zz 12 ≤ zz 10 := hR.1.2.2.2.1; rw [e5]; omega, fun h => by have h1 := hit.2 hq; have h2 := it_on hR h c60; have h3 : zz 11 < (itM te (it, hs, y, L, zz, ff)).2.2.2.2.1 11 := h2; rw [e5]; show it + 1 ≤ (itM te (it, hs, y, L, zz, ff)).2.2.2.2.1 11; omega⟩ (by have h1 : (if (itM te (it, hs, y, L, zz, ff)).2.2.2.2.2 = none then 1 + ((itM te (it, hs, y, L, zz, ff)).2.2.2.2.1 10 - (itM te (it, hs, y, L, zz, ff)).2.2.2.2.1 11) else 0) < (if ff = none then 1 + (zz 10 - zz 11) else 0) := rd_mu hR c60 hq; show (if (itM te (it, hs, y, L, zz, ff)).2.2.2.2.2 = none then 1 + ((itM te (it, hs, y, L, zz, ff)).2.2.2.2.1 10 - (itM te (it, hs, y, L, zz, ff)).2.2.2.2.1 11) else 0) ≤ m9 - 1; omega) (by have h1 : (if ff = none then 1 + (zz 10 - zz 11) else 0) = 1 + (zz 10 - zz 11) := if_pos hq; have e9 : m9 = (m9 - 1) + 1 := (by omega); rw [e9, rdM_go hq c60] at hres; exact hres) _ _ hP hD hS ls (lv_sub hl [1, 2, 0] rfl)
                  · refine lv_iconst (v := (nI 1)) hx hb dX8_reads_205 (by decide) ?_
                    refine lv_goto (tgt := 210) hx hb dX8_reads_206 (by decide) ?_
                    refine ti (y := (bI (decide ((it1 te (it, hs, y, L, zz, ff)).2.2.2.2.1 13 = 6)))) (by rw [decide_eq_true c202]; rfl) ?_
                    refine ca_Vv (ci := 7) (q := (RX8, TX8, 17)) (rest := []) (wr := ([] : va_W)) F hX (mX8_takes l G ad ((it1 te (it, hs, y, L, zz, ff)).2.2.2.2.1) ((it1 te (it, hs, y, L, zz, ff)).2.2.2.2.2) sv ((it1 te (it, hs, y, L, zz, ff)).2.2.1) pa ke ik fa te aw (decide ((it1 te (it, hs, y, L, zz, ff)).2.2.2.2.1 13 = 6)) hR.i1.1 (fo_i1 hR hff)) (cA_V hts kw_770 kw_8 kw_767 kw_769 kp_24 hdX8_takes ⟨Nat.le_of_ble_eq_true rfl, Nat.le_of_ble_eq_true rfl⟩) rfl rfl rfl hl.1 rfl (Nat.le_of_ble_eq_true rfl) dX8_reads_210 ⟨Nat.le_of_ble_eq_true rfl, Nat.le_of_ble_eq_true rfl⟩ hP hD hS hA (pm_nil _) (fun u210 H locs hp210 hP hD hS => ?_)
                    have hP : va_P G.1 vwCl (mow G ad ((tkM te (decide ((it1 te (it, hs, y, L, zz, ff)).2.2.2.2.1 13 = 6)) (it1 te (it, hs, y, L, zz, ff)).2.2.2.2).1) ((tkM te (decide ((it1 te (it, hs, y, L, zz, ff)).2.2.2.2.1 13 = 6)) (it1 te (it, hs, y, L, zz, ff)).2.2.2.2).2) sv ((it1 te (it, hs, y, L, zz, ff)).2.2.1) pa ke ik fa te aw) H := wp_pm (pm_nil _).symm hP
                    have hD : va_D A (mow G ad ((tkM te (decide ((it1 te (it, hs, y, L, zz, ff)).2.2.2.2.1 13 = 6)) (it1 te (it, hs, y, L, zz, ff)).2.2.2.2).1) ((tkM te (decide ((it1 te (it, hs, y, L, zz, ff)).2.2.2.2.1 13 = 6)) (it1 te (it, hs, y, L, zz, ff)).2.2.2.2).2) sv ((it1 te (it, hs, y, L, zz, ff)).2.2.1) pa ke ik fa te aw) := wd_pm (pm_nil _).symm hD
                    refine lv_iinc (v := (nI (it + 1))) (lv' := [(2, .int (nI (it + 1))), (0, .ref (ad 0)), (1, .int (bI hs))]) hx hb dX8_reads_213 hl (k := 2) rfl (qn_inc _) (by decide) rfl (fun ls hl => ?_)
                    have e5 : (it1 te (it, hs, y, L, zz, ff)).1 = it := by rw [e8]
                    have e6 : (it1 te (it, hs, y, L, zz, ff)).2.1 = hs := by rw [e8]
                    have hl : lv_has ls 3 [(2, .int (nI ((it1 te (it, hs, y, L, zz, ff)).1 + 1))), (0, .ref (ad 0)), (1, .int (bI ((it1 te (it, hs, y, L, zz, ff)).2.1)))] := by rw [e5, e6]; exact hl
                    refine lv_goto (tgt := 47) hx hb dX8_reads_216 (by decide) ?_
                    exact ih47 (m9 - 1) ((it1 te (it, hs, y, L, zz, ff)).1 + 1) ((it1 te (it, hs, y, L, zz, ff)).2.1) ((it1 te (it, hs, y, L, zz, ff)).2.2.1) ((it1 te (it, hs, y, L, zz, ff)).2.2.2.1) ((tkM te (decide ((it1 te (it, hs, y, L, zz, ff)).2.2.2.2.1 13 = 6)) (it1 te (it, hs, y, L, zz, ff)).2.2.2.2).1) ((tkM te (decide ((it1 te (it, hs, y, L, zz, ff)).2.2.2.2.1 13 = 6)) (it1 te (it, hs, y, L, zz, ff)).2.2.2.2).2) (by have h1 : (if (itM te (it, hs, y, L, zz, ff)).2.2.2.2.2 = none then 1 + ((itM te (it, hs, y, L, zz, ff)).2.2.2.2.1 10 - (itM te (it, hs, y, L, zz, ff)).2.2.2.2.1 11) else 0) < (if ff = none then 1 + (zz 10 - zz 11) else 0) := rd_mu hR c60 hq; show (if (itM te (it, hs, y, L, zz, ff)).2.2.2.2.2 = none then 1 + ((itM te (it, hs, y, L, zz, ff)).2.2.2.2.1 10 - (itM te (it, hs, y, L, zz, ff)).2.2.2.2.1 11) else 0) < n47; omega) (by exact hR.it) (fo_tk hR.i1.1 (fo_i1 hR hff)) ⟨by have h1 := hit.2 hq; have h2 : zz 10 ≤ 120 := hR.1.2.1; have h3 : zz 11 ≤ zz 12 := hR.1.2.2.1; have h4 : zz 12 ≤ zz 10 := hR.1.2.2.2.1; rw [e5]; omega, fun h => by have h1 := hit.2 hq; have h2 := it_on hR h c60; have h3 : zz 11 < (itM te (it, hs, y, L, zz, ff)).2.2.2.2.1 11 := h2; rw [e5]; show it + 1 ≤ (itM te (it, hs, y, L, zz, ff)).2.2.2.2.1 11; omega⟩ (by have h1 : (if (itM te (it, hs, y, L, zz, ff)).2.2.2.2.2 = none then 1 + ((itM te (it, hs, y, L, zz, ff)).2.2.2.2.1 10 - (itM te (it, hs, y, L, zz, ff)).2.2.2.2.1 11) else 0) < (if ff = none then 1 + (zz 10 - zz 11) else 0) := rd_mu hR c60 hq; show (if (itM te (it, hs, y, L, zz, ff)).2.2.2.2.2 = none then 1 + ((itM te (it, hs, y, L, zz, ff)).2.2.2.2.1 10 - (itM te (it, hs, y, L, zz, ff)).2.2.2.2.1 11) else 0) ≤ m9 - 1; omega) (by have h1 : (if ff = none then 1 + (zz 10 - zz 11) else 0) = 1 + (zz 10 - zz 11) := if_pos hq; have e9 : m9 = (m9 - 1) + 1 := (by omega); rw [e9, rdM_go hq c60] at hres; exact hres) _ _ hP hD hS ls (lv_sub hl [1, 2, 0] rfl)
                · refine ti (y := nI 4) (by rw [htk]) ?_
                  refine lv_tableIn (off := 116) (tgt := 183) hx hb dX8_reads_67 (by decide) (by decide) (by decide +kernel) (by decide) ?_
                  refine lv_aload_n hx hb dX8_reads_183 rfl (lv_at hl 0 rfl) ?_
                  refine ca_Vv (ci := 7) (q := (RX8, TX8, 17)) (rest := []) (wr := ([] : va_W)) F hX (mX8_readsLink l G ad zz ff sv y pa ke ik fa te aw L hY hff hL hd1) (cA_V hts kw_778 kw_8 kw_775 kw_777 kp_26 hdX8_readsLink ⟨Nat.le_of_ble_eq_true rfl, Nat.le_of_ble_eq_true rfl⟩) rfl rfl rfl hl.1 rfl (Nat.le_of_ble_eq_true rfl) dX8_reads_184 ⟨Nat.le_of_ble_eq_true rfl, Nat.le_of_ble_eq_true rfl⟩ hP hD hS hA (pm_nil _) (fun u184 H locs hp184 hP hD hS => ?_)
                  have hP : va_P G.1 vwCl (mow G ad ((rl4 te y L (zz, ff)).1) ((rl4 te y L (zz, ff)).2) sv (rlD te y L (zz, ff)) pa ke ik fa te aw) H := wp_pm (pm_nil _).symm hP
                  have hD : va_D A (mow G ad ((rl4 te y L (zz, ff)).1) ((rl4 te y L (zz, ff)).2) sv (rlD te y L (zz, ff)) pa ke ik fa te aw) := wd_pm (pm_nil _).symm hD
                  refine lv_goto (tgt := 195) hx hb dX8_reads_187 (by decide) ?_
                  have e8 : (it1 te (it, hs, y, L, zz, ff)) = (it, hs, rlD te y L (zz, ff), rlL te y L (zz, ff), (rl4 te y L (zz, ff))) := by unfold it1; rw [if_neg (by rw [show (it, hs, y, L, zz, ff).2.2.2.2.1 13 = zz 13 from rfl, htk]; decide), if_neg (by rw [show (it, hs, y, L, zz, ff).2.2.2.2.1 13 = zz 13 from rfl, htk]; decide), if_neg (by rw [show (it, hs, y, L, zz, ff).2.2.2.2.1 13 = zz 13 from rfl, htk]; decide), if_pos (show (it, hs, y, L, zz, ff).2.2.2.2.1 13 = 4 from htk)]
                  have hP : va_P G.1 vwCl (mow G ad ((it1 te (it, hs, y, L, zz, ff)).2.2.2.2.1) ((it1 te (it, hs, y, L, zz, ff)).2.2.2.2.2) sv ((it1 te (it, hs, y, L, zz, ff)).2.2.1) pa ke ik fa te aw) H := by rw [e8]; exact hP
                  have hD : va_D A (mow G ad ((it1 te (it, hs, y, L, zz, ff)).2.2.2.2.1) ((it1 te (it, hs, y, L, zz, ff)).2.2.2.2.2) sv ((it1 te (it, hs, y, L, zz, ff)).2.2.1) pa ke ik fa te aw) := by rw [e8]; exact hD
                  refine lv_aload_n hx hb dX8_reads_195 rfl (lv_at hl 0 rfl) ?_
                  refine lv_aload_n hx hb dX8_reads_196 rfl (lv_at hl 0 rfl) ?_
                  refine va_get (D := G.1) (ci := 7) (v := .int (nI (((it1 te (it, hs, y, L, zz, ff)).2.2.2.2.1) 13))) (C := RX8) (T := TX8) (N := 17) hx hb hts inA8 hown hX.1 hP 0 rfl rfl 13 (by decide) (hts _ kw_693) (fun _ h9 => h9) rfl dX8_reads_197 ?_
                  refine lv_bipush (v := (nI 6)) hx hb dX8_reads_200 (by decide) ?_
                  refine nv_ne (x := ((it1 te (it, hs, y, L, zz, ff)).2.2.2.2.1) 13) (y := 6) (tgt := 209) hx hb dX8_reads_202 (by decide) (by have h9 := hR.i1.1.2.2.2.2.1; omega) (by decide) (fun c202 => ?_) (fun c202 => ?_)
                  · refine lv_iconst (v := (nI 0)) hx hb dX8_reads_209 (by decide) ?_
                    refine ti (y := (bI (decide ((it1 te (it, hs, y, L, zz, ff)).2.2.2.2.1 13 = 6)))) (by rw [decide_eq_false c202]; rfl) ?_
                    refine ca_Vv (ci := 7) (q := (RX8, TX8, 17)) (rest := []) (wr := ([] : va_W)) F hX (mX8_takes l G ad ((it1 te (it, hs, y, L, zz, ff)).2.2.2.2.1) ((it1 te (it, hs, y, L, zz, ff)).2.2.2.2.2) sv ((it1 te (it, hs, y, L, zz, ff)).2.2.1) pa ke ik fa te aw (decide ((it1 te (it, hs, y, L, zz, ff)).2.2.2.2.1 13 = 6)) hR.i1.1 (fo_i1 hR hff)) (cA_V hts kw_770 kw_8 kw_767 kw_769 kp_24 hdX8_takes ⟨Nat.le_of_ble_eq_true rfl, Nat.le_of_ble_eq_true rfl⟩) rfl rfl rfl hl.1 rfl (Nat.le_of_ble_eq_true rfl) dX8_reads_210 ⟨Nat.le_of_ble_eq_true rfl, Nat.le_of_ble_eq_true rfl⟩ hP hD hS hA (pm_nil _) (fun u210 H locs hp210 hP hD hS => ?_)
                    have hP : va_P G.1 vwCl (mow G ad ((tkM te (decide ((it1 te (it, hs, y, L, zz, ff)).2.2.2.2.1 13 = 6)) (it1 te (it, hs, y, L, zz, ff)).2.2.2.2).1) ((tkM te (decide ((it1 te (it, hs, y, L, zz, ff)).2.2.2.2.1 13 = 6)) (it1 te (it, hs, y, L, zz, ff)).2.2.2.2).2) sv ((it1 te (it, hs, y, L, zz, ff)).2.2.1) pa ke ik fa te aw) H := wp_pm (pm_nil _).symm hP
                    have hD : va_D A (mow G ad ((tkM te (decide ((it1 te (it, hs, y, L, zz, ff)).2.2.2.2.1 13 = 6)) (it1 te (it, hs, y, L, zz, ff)).2.2.2.2).1) ((tkM te (decide ((it1 te (it, hs, y, L, zz, ff)).2.2.2.2.1 13 = 6)) (it1 te (it, hs, y, L, zz, ff)).2.2.2.2).2) sv ((it1 te (it, hs, y, L, zz, ff)).2.2.1) pa ke ik fa te aw) := wd_pm (pm_nil _).symm hD
                    refine lv_iinc (v := (nI (it + 1))) (lv' := [(2, .int (nI (it + 1))), (0, .ref (ad 0)), (1, .int (bI hs))]) hx hb dX8_reads_213 hl (k := 2) rfl (qn_inc _) (by decide) rfl (fun ls hl => ?_)
                    have e5 : (it1 te (it, hs, y, L, zz, ff)).1 = it := by rw [e8]
                    have e6 : (it1 te (it, hs, y, L, zz, ff)).2.1 = hs := by rw [e8]
                    have hl : lv_has ls 3 [(2, .int (nI ((it1 te (it, hs, y, L, zz, ff)).1 + 1))), (0, .ref (ad 0)), (1, .int (bI ((it1 te (it, hs, y, L, zz, ff)).2.1)))] := by rw [e5, e6]; exact hl
                    refine lv_goto (tgt := 47) hx hb dX8_reads_216 (by decide) ?_
                    exact ih47 (m9 - 1) ((it1 te (it, hs, y, L, zz, ff)).1 + 1) ((it1 te (it, hs, y, L, zz, ff)).2.1) ((it1 te (it, hs, y, L, zz, ff)).2.2.1) ((it1 te (it, hs, y, L, zz, ff)).2.2.2.1) ((tkM te (decide ((it1 te (it, hs, y, L, zz, ff)).2.2.2.2.1 13 = 6)) (it1 te (it, hs, y, L, zz, ff)).2.2.2.2).1) ((tkM te (decide ((it1 te (it, hs, y, L, zz, ff)).2.2.2.2.1 13 = 6)) (it1 te (it, hs, y, L, zz, ff)).2.2.2.2).2) (by have h1 : (if (itM te (it, hs, y, L, zz, ff)).2.2.2.2.2 = none then 1 + ((itM te (it, hs, y, L, zz, ff)).2.2.2.2.1 10 - (itM te (it, hs, y, L, zz, ff)).2.2.2.2.1 11) else 0) < (if ff = none then 1 + (zz 10 - zz 11) else 0) := rd_mu hR c60 hq; show (if (itM te (it, hs, y, L, zz, ff)).2.2.2.2.2 = none then 1 + ((itM te (it, hs, y, L, zz, ff)).2.2.2.2.1 10 - (itM te (it, hs, y, L, zz, ff)).2.2.2.2.1 11) else 0) < n47; omega) (by exact hR.it) (fo_tk hR.i1.1 (fo_i1 hR hff)) ⟨by have h1 := hit.2 hq; have h2 : zz 10 ≤ 120 := hR.1.2.1; have h3 : zz 11 ≤ zz 12 := hR.1.2.2.1; have h4 : zz 12 ≤ zz 10 := hR.1.2.2.2.1; rw [e5]; omega, fun h => by have h1 := hit.2 hq; have h2 := it_on hR h c60; have h3 : zz 11 < (itM te (it, hs, y, L, zz, ff)).2.2.2.2.1 11 := h2; rw [e5]; show it + 1 ≤ (itM te (it, hs, y, L, zz, ff)).2.2.2.2.1 11; omega⟩ (by have h1 : (if (itM te (it, hs, y, L, zz, ff)).2.2.2.2.2 = none then 1 + ((itM te (it, hs, y, L, zz, ff)).2.2.2.2.1 10 - (itM te (it, hs, y, L, zz, ff)).2.2.2.2.1 11) else 0) < (if ff = none then 1 + (zz 10 - zz 11) else 0) := rd_mu hR c60 hq; show (if (itM te (it, hs, y, L, zz, ff)).2.2.2.2.2 = none then 1 + ((itM te (it, hs, y, L, zz, ff)).2.2.2.2.1 10 - (itM te (it, hs, y, L, zz, ff)).2.2.2.2.1 11) else 0) ≤ m9 - 1; omega) (by have h1 : (if ff = none then 1 + (zz 10 - zz 11) else 0) = 1 + (zz 10 - zz 11) := if_pos hq; have e9 : m9 = (m9 - 1) + 1 := (by omega); rw [e9, rdM_go hq c60] at hres; exact hres) _ _ hP hD hS ls (lv_sub hl [1, 2, 0] rfl)
                  · refine lv_iconst (v := (nI 1)) hx hb dX8_reads_205 (by decide) ?_
                    refine lv_goto (tgt := 210) hx hb dX8_reads_206 (by decide) ?_
                    refine ti (y := (bI (decide ((it1 te (it, hs, y, L, zz, ff)).2.2.2.2.1 13 = 6)))) (by rw [decide_eq_true c202]; rfl) ?_
                    refine ca_Vv (ci := 7) (q := (RX8, TX8, 17)) (rest := []) (wr := ([] : va_W)) F hX (mX8_takes l G ad ((it1 te (it, hs, y, L, zz, ff)).2.2.2.2.1) ((it1 te (it, hs, y, L, zz, ff)).2.2.2.2.2) sv ((it1 te (it, hs, y, L, zz, ff)).2.2.1) pa ke ik fa te aw (decide ((it1 te (it, hs, y, L, zz, ff)).2.2.2.2.1 13 = 6)) hR.i1.1 (fo_i1 hR hff)) (cA_V hts kw_770 kw_8 kw_767 kw_769 kp_24 hdX8_takes ⟨Nat.le_of_ble_eq_true rfl, Nat.le_of_ble_eq_true rfl⟩) rfl rfl rfl hl.1 rfl (Nat.le_of_ble_eq_true rfl) dX8_reads_210 ⟨Nat.le_of_ble_eq_true rfl, Nat.le_of_ble_eq_true rfl⟩ hP hD hS hA (pm_nil _) (fun u210 H locs hp210 hP hD hS => ?_)
                    have hP : va_P G.1 vwCl (mow G ad ((tkM te (decide ((it1 te (it, hs, y, L, zz, ff)).2.2.2.2.1 13 = 6)) (it1 te (it, hs, y, L, zz, ff)).2.2.2.2).1) ((tkM te (decide ((it1 te (it, hs, y, L, zz, ff)).2.2.2.2.1 13 = 6)) (it1 te (it, hs, y, L, zz, ff)).2.2.2.2).2) sv ((it1 te (it, hs, y, L, zz, ff)).2.2.1) pa ke ik fa te aw) H := wp_pm (pm_nil _).symm hP
                    have hD : va_D A (mow G ad ((tkM te (decide ((it1 te (it, hs, y, L, zz, ff)).2.2.2.2.1 13 = 6)) (it1 te (it, hs, y, L, zz, ff)).2.2.2.2).1) ((tkM te (decide ((it1 te (it, hs, y, L, zz, ff)).2.2.2.2.1 13 = 6)) (it1 te (it, hs, y, L, zz, ff)).2.2.2.2).2) sv ((it1 te (it, hs, y, L, zz, ff)).2.2.1) pa ke ik fa te aw) := wd_pm (pm_nil _).symm hD
                    refine lv_iinc (v := (nI (it + 1))) (lv' := [(2, .int (nI (it + 1))), (0, .ref (ad 0)), (1, .int (bI hs))]) hx hb dX8_reads_213 hl (k := 2) rfl (qn_inc _) (by decide) rfl (fun ls hl => ?_)
                    have e5 : (it1 te (it, hs, y, L, zz, ff)).1 = it := by rw [e8]
                    have e6 : (it1 te (it, hs, y, L, zz, ff)).2.1 = hs := by rw [e8]
                    have hl : lv_has ls 3 [(2, .int (nI ((it1 te (it, hs, y, L, zz, ff)).1 + 1))), (0, .ref (ad 0)), (1, .int (bI ((it1 te (it, hs, y, L, zz, ff)).2.1)))] := by rw [e5, e6]; exact hl
                    refine lv_goto (tgt := 47) hx hb dX8_reads_216 (by decide) ?_
                    exact ih47 (m9 - 1) ((it1 te (it, hs, y, L, zz, ff)).1 + 1) ((it1 te (it, hs, y, L, zz, ff)).2.1) ((it1 te (it, hs, y, L, zz, ff)).2.2.1) ((it1 te (it, hs, y, L, zz, ff)).2.2.2.1) ((tkM te (decide ((it1 te (it, hs, y, L, zz, ff)).2.2.2.2.1 13 = 6)) (it1 te (it, hs, y, L, zz, ff)).2.2.2.2).1) ((tkM te (decide ((it1 te (it, hs, y, L, zz, ff)).2.2.2.2.1 13 = 6)) (it1 te (it, hs, y, L, zz, ff)).2.2.2.2).2) (by have h1 : (if (itM te (it, hs, y, L, zz, ff)).2.2.2.2.2 = none then 1 + ((itM te (it, hs, y, L, zz, ff)).2.2.2.2.1 10 - (itM te (it, hs, y, L, zz, ff)).2.2.2.2.1 11) else 0) < (if ff = none then 1 + (zz 10 - zz 11) else 0) := rd_mu hR c60 hq; show (if (itM te (it, hs, y, L, zz, ff)).2.2.2.2.2 = none then 1 + ((itM te (it, hs, y, L, zz, ff)).2.2.2.2.1 10 - (itM te (it, hs, y, L, zz, ff)).2.2.2.2.1 11) else 0) < n47; omega) (by exact hR.it) (fo_tk hR.i1.1 (fo_i1 hR hff)) ⟨by have h1 := hit.2 hq; have h2 : zz 10 ≤ 120 := hR.1.2.1; have h3 : zz 11 ≤ zz 12 := hR.1.2.2.1; have h4 : zz 12 ≤ zz 10 := hR.1.2.2.2.1; rw [e5]; omega, fun h => by have h1 := hit.2 hq; have h2 := it_on hR h c60; have h3 : zz 11 < (itM te (it, hs, y, L, zz, ff)).2.2.2.2.1 11 := h2; rw [e5]; show it + 1 ≤ (itM te (it, hs, y, L, zz, ff)).2.2.2.2.1 11; omega⟩ (by have h1 : (if (itM te (it, hs, y, L, zz, ff)).2.2.2.2.2 = none then 1 + ((itM te (it, hs, y, L, zz, ff)).2.2.2.2.1 10 - (itM te (it, hs, y, L, zz, ff)).2.2.2.2.1 11) else 0) < (if ff = none then 1 + (zz 10 - zz 11) else 0) := rd_mu hR c60 hq; show (if (itM te (it, hs, y, L, zz, ff)).2.2.2.2.2 = none then 1 + ((itM te (it, hs, y, L, zz, ff)).2.2.2.2.1 10 - (itM te (it, hs, y, L, zz, ff)).2.2.2.2.1 11) else 0) ≤ m9 - 1; omega) (by have h1 : (if ff = none then 1 + (zz 10 - zz 11) else 0) = 1 + (zz 10 - zz 11) := if_pos hq; have e9 : m9 = (m9 - 1) + 1 := (by omega); rw [e9, rdM_go hq c60] at hres; exact hres) _ _ hP hD hS ls (lv_sub hl [1, 2, 0] rfl)
                · refine lv_tableOut (tgt := 190) hx hb dX8_reads_67 (by have h9 := hY.2.2.2.2.1; rw [nI_toInt (by omega)]; omega) (by decide) ?_
                  refine lv_aload_n hx hb dX8_reads_190 rfl (lv_at hl 0 rfl) ?_
                  refine lv_iconst (v := (nI 0)) hx hb dX8_reads_191 (by decide) ?_
                  refine ca_Vv (ci := 7) (q := (RX8, TX8, 17)) (rest := []) (wr := ([] : va_W)) F hX (mX8_takes l G ad zz ff sv y pa ke ik fa te aw false hY hff) (cA_V hts kw_770 kw_8 kw_767 kw_769 kp_24 hdX8_takes ⟨Nat.le_of_ble_eq_true rfl, Nat.le_of_ble_eq_true rfl⟩) rfl rfl rfl hl.1 rfl (Nat.le_of_ble_eq_true rfl) dX8_reads_192 ⟨Nat.le_of_ble_eq_true rfl, Nat.le_of_ble_eq_true rfl⟩ hP hD hS hA (pm_nil _) (fun u192 H locs hp192 hP hD hS => ?_)
                  have hP : va_P G.1 vwCl (mow G ad ((tkM te false (zz, ff)).1) ((tkM te false (zz, ff)).2) sv y pa ke ik fa te aw) H := wp_pm (pm_nil _).symm hP
                  have hD : va_D A (mow G ad ((tkM te false (zz, ff)).1) ((tkM te false (zz, ff)).2) sv y pa ke ik fa te aw) := wd_pm (pm_nil _).symm hD
                  have e8 : (it1 te (it, hs, y, L, zz, ff)) = (it, hs, y, L, (tkM te false (zz, ff))) := by unfold it1; rw [if_neg (show ¬ (it, hs, y, L, zz, ff).2.2.2.2.1 13 = 1 from htk.1), if_neg (show ¬ (it, hs, y, L, zz, ff).2.2.2.2.1 13 = 2 from htk.2.1), if_neg (show ¬ (it, hs, y, L, zz, ff).2.2.2.2.1 13 = 3 from htk.2.2.1), if_neg (show ¬ (it, hs, y, L, zz, ff).2.2.2.2.1 13 = 4 from htk.2.2.2)]
                  have hP : va_P G.1 vwCl (mow G ad ((it1 te (it, hs, y, L, zz, ff)).2.2.2.2.1) ((it1 te (it, hs, y, L, zz, ff)).2.2.2.2.2) sv ((it1 te (it, hs, y, L, zz, ff)).2.2.1) pa ke ik fa te aw) H := by rw [e8]; exact hP
                  have hD : va_D A (mow G ad ((it1 te (it, hs, y, L, zz, ff)).2.2.2.2.1) ((it1 te (it, hs, y, L, zz, ff)).2.2.2.2.2) sv ((it1 te (it, hs, y, L, zz, ff)).2.2.1) pa ke ik fa te aw) := by rw [e8]; exact hD
                  refine lv_aload_n hx hb dX8_reads_195 rfl (lv_at hl 0 rfl) ?_
                  refine lv_aload_n hx hb dX8_reads_196 rfl (lv_at hl 0 rfl) ?_
                  refine va_get (D := G.1) (ci := 7) (v := .int (nI (((it1 te (it, hs, y, L, zz, ff)).2.2.2.2.1) 13))) (C := RX8) (T := TX8) (N := 17) hx hb hts inA8 hown hX.1 hP 0 rfl rfl 13 (by decide) (hts _ kw_693) (fun _ h9 => h9) rfl dX8_reads_197 ?_
                  refine lv_bipush (v := (nI 6)) hx hb dX8_reads_200 (by decide) ?_
                  refine nv_ne (x := ((it1 te (it, hs, y, L, zz, ff)).2.2.2.2.1) 13) (y := 6) (tgt := 209) hx hb dX8_reads_202 (by decide) (by have h9 := hR.i1.1.2.2.2.2.1; omega) (by decide) (fun c202 => ?_) (fun c202 => ?_)
                  · refine lv_iconst (v := (nI 0)) hx hb dX8_reads_209 (by decide) ?_
                    refine ti (y := (bI (decide ((it1 te (it, hs, y, L, zz, ff)).2.2.2.2.1 13 = 6)))) (by rw [decide_eq_false c202]; rfl) ?_
                    refine ca_Vv (ci := 7) (q := (RX8, TX8, 17)) (rest := []) (wr := ([] : va_W)) F hX (mX8_takes l G ad ((it1 te (it, hs, y, L, zz, ff)).2.2.2.2.1) ((it1 te (it, hs, y, L, zz, ff)).2.2.2.2.2) sv ((it1 te (it, hs, y, L, zz, ff)).2.2.1) pa ke ik fa te aw (decide ((it1 te (it, hs, y, L, zz, ff)).2.2.2.2.1 13 = 6)) hR.i1.1 (fo_i1 hR hff)) (cA_V hts kw_770 kw_8 kw_767 kw_769 kp_24 hdX8_takes ⟨Nat.le_of_ble_eq_true rfl, Nat.le_of_ble_eq_true rfl⟩) rfl rfl rfl hl.1 rfl (Nat.le_of_ble_eq_true rfl) dX8_reads_210 ⟨Nat.le_of_ble_eq_true rfl, Nat.le_of_ble_eq_true rfl⟩ hP hD hS hA (pm_nil _) (fun u210 H locs hp210 hP hD hS => ?_)
                    have hP : va_P G.1 vwCl (mow G ad ((tkM te (decide ((it1 te (it, hs, y, L, zz, ff)).2.2.2.2.1 13 = 6)) (it1 te (it, hs, y, L, zz, ff)).2.2.2.2).1) ((tkM te (decide ((it1 te (it, hs, y, L, zz, ff)).2.2.2.2.1 13 = 6)) (it1 te (it, hs, y, L, zz, ff)).2.2.2.2).2) sv ((it1 te (it, hs, y, L, zz, ff)).2.2.1) pa ke ik fa te aw) H := wp_pm (pm_nil _).symm hP
                    have hD : va_D A (mow G ad ((tkM te (decide ((it1 te (it, hs, y, L, zz, ff)).2.2.2.2.1 13 = 6)) (it1 te (it, hs, y, L, zz, ff)).2.2.2.2).1) ((tkM te (decide ((it1 te (it, hs, y, L, zz, ff)).2.2.2.2.1 13 = 6)) (it1 te (it, hs, y, L, zz, ff)).2.2.2.2).2) sv ((it1 te (it, hs, y, L, zz, ff)).2.2.1) pa ke ik fa te aw) := wd_pm (pm_nil _).symm hD
                    refine lv_iinc (v := (nI (it + 1))) (lv' := [(2, .int (nI (it + 1))), (0, .ref (ad 0)), (1, .int (bI hs))]) hx hb dX8_reads_213 hl (k := 2) rfl (qn_inc _) (by decide) rfl (fun ls hl => ?_)
                    have e5 : (it1 te (it, hs, y, L, zz, ff)).1 = it := by rw [e8]
                    have e6 : (it1 te (it, hs, y, L, zz, ff)).2.1 = hs := by rw [e8]
                    have hl : lv_has ls 3 [(2, .int (nI ((it1 te (it, hs, y, L, zz, ff)).1 + 1))), (0, .ref (ad 0)), (1, .int (bI ((it1 te (it, hs, y, L, zz, ff)).2.1)))] := by rw [e5, e6]; exact hl
                    refine lv_goto (tgt := 47) hx hb dX8_reads_216 (by decide) ?_
                    exact ih47 (m9 - 1) ((it1 te (it, hs, y, L, zz, ff)).1 + 1) ((it1 te (it, hs, y, L, zz, ff)).2.1) ((it1 te (it, hs, y, L, zz, ff)).2.2.1) ((it1 te (it, hs, y, L, zz, ff)).2.2.2.1) ((tkM te (decide ((it1 te (it, hs, y, L, zz, ff)).2.2.2.2.1 13 = 6)) (it1 te (it, hs, y, L, zz, ff)).2.2.2.2).1) ((tkM te (decide ((it1 te (it, hs, y, L, zz, ff)).2.2.2.2.1 13 = 6)) (it1 te (it, hs, y, L, zz, ff)).2.2.2.2).2) (by have h1 : (if (itM te (it, hs, y, L, zz, ff)).2.2.2.2.2 = none then 1 + ((itM te (it, hs, y, L, zz, ff)).2.2.2.2.1 10 - (itM te (it, hs, y, L, zz, ff)).2.2.2.2.1 11) else 0) < (if ff = none then 1 + (zz 10 - zz 11) else 0) := rd_mu hR c60 hq; show (if (itM te (it, hs, y, L, zz, ff)).2.2.2.2.2 = none then 1 + ((itM te (it, hs, y, L, zz, ff)).2.2.2.2.1 10 - (itM te (it, hs, y, L, zz, ff)).2.2.2.2.1 11) else 0) < n47; omega) (by exact hR.it) (fo_tk hR.i1.1 (fo_i1 hR hff)) ⟨by have h1 := hit.2 hq; have h2 : zz 10 ≤ 120 := hR.1.2.1; have h3 : zz 11 ≤ zz 12 := hR.1.2.2.1; have h4 : zz 12 ≤ zz 10 := hR.1.2.2.2.1; rw [e5]; omega, fun h => by have h1 := hit.2 hq; have h2 := it_on hR h c60; have h3 : zz 11 < (itM te (it, hs, y, L, zz, ff)).2.2.2.2.1 11 := h2; rw [e5]; show it + 1 ≤ (itM te (it, hs, y, L, zz, ff)).2.2.2.2.1 11; omega⟩ (by have h1 : (if (itM te (it, hs, y, L, zz, ff)).2.2.2.2.2 = none then 1 + ((itM te (it, hs, y, L, zz, ff)).2.2.2.2.1 10 - (itM te (it, hs, y, L, zz, ff)).2.2.2.2.1 11) else 0) < (if ff = none then 1 + (zz 10 - zz 11) else 0) := rd_mu hR c60 hq; show (if (itM te (it, hs, y, L, zz, ff)).2.2.2.2.2 = none then 1 + ((itM te (it, hs, y, L, zz, ff)).2.2.2.2.1 10 - (itM te (it, hs, y, L, zz, ff)).2.2.2.2.1 11) else 0) ≤ m9 - 1; omega) (by have h1 : (if ff = none then 1 + (zz 10 - zz 11) else 0) = 1 + (zz 10 - zz 11) := if_pos hq; have e9 : m9 = (m9 - 1) + 1 := (by omega); rw [e9, rdM_go hq c60] at hres; exact hres) _ _ hP hD hS ls (lv_sub hl [1, 2, 0] rfl)
                  · refine lv_iconst (v := (nI 1)) hx hb dX8_reads_205 (by decide) ?_
                    refine lv_goto (tgt := 210) hx hb dX8_reads_206 (by decide) ?_
                    refine ti (y := (bI (decide ((it1 te (it, hs, y, L, zz, ff)).2.2.2.2.1 13 = 6)))) (by rw [decide_eq_true c202]; rfl) ?_
                    refine ca_Vv (ci := 7) (q := (RX8, TX8, 17)) (rest := []) (wr := ([] : va_W)) F hX (mX8_takes l G ad ((it1 te (it, hs, y, L, zz, ff)).2.2.2.2.1) ((it1 te (it, hs, y, L, zz, ff)).2.2.2.2.2) sv ((it1 te (it, hs, y, L, zz, ff)).2.2.1) pa ke ik fa te aw (decide ((it1 te (it, hs, y, L, zz, ff)).2.2.2.2.1 13 = 6)) hR.i1.1 (fo_i1 hR hff)) (cA_V hts kw_770 kw_8 kw_767 kw_769 kp_24 hdX8_takes ⟨Nat.le_of_ble_eq_true rfl, Nat.le_of_ble_eq_true rfl⟩) rfl rfl rfl hl.1 rfl (Nat.le_of_ble_eq_true rfl) dX8_reads_210 ⟨Nat.le_of_ble_eq_true rfl, Nat.le_of_ble_eq_true rfl⟩ hP hD hS hA (pm_nil _) (fun u210 H locs hp210 hP hD hS => ?_)
                    have hP : va_P G.1 vwCl (mow G ad ((tkM te (decide ((it1 te (it, hs, y, L, zz, ff)).2.2.2.2.1 13 = 6)) (it1 te (it, hs, y, L, zz, ff)).2.2.2.2).1) ((tkM te (decide ((it1 te (it, hs, y, L, zz, ff)).2.2.2.2.1 13 = 6)) (it1 te (it, hs, y, L, zz, ff)).2.2.2.2).2) sv ((it1 te (it, hs, y, L, zz, ff)).2.2.1) pa ke ik fa te aw) H := wp_pm (pm_nil _).symm hP
                    have hD : va_D A (mow G ad ((tkM te (decide ((it1 te (it, hs, y, L, zz, ff)).2.2.2.2.1 13 = 6)) (it1 te (it, hs, y, L, zz, ff)).2.2.2.2).1) ((tkM te (decide ((it1 te (it, hs, y, L, zz, ff)).2.2.2.2.1 13 = 6)) (it1 te (it, hs, y, L, zz, ff)).2.2.2.2).2) sv ((it1 te (it, hs, y, L, zz, ff)).2.2.1) pa ke ik fa te aw) := wd_pm (pm_nil _).symm hD
                    refine lv_iinc (v := (nI (it + 1))) (lv' := [(2, .int (nI (it + 1))), (0, .ref (ad 0)), (1, .int (bI hs))]) hx hb dX8_reads_213 hl (k := 2) rfl (qn_inc _) (by decide) rfl (fun ls hl => ?_)
                    have e5 : (it1 te (it, hs, y, L, zz, ff)).1 = it := by rw [e8]
                    have e6 : (it1 te (it, hs, y, L, zz, ff)).2.1 = hs := by rw [e8]
                    have hl : lv_has ls 3 [(2, .int (nI ((it1 te (it, hs, y, L, zz, ff)).1 + 1))), (0, .ref (ad 0)), (1, .int (bI ((it1 te (it, hs, y, L, zz, ff)).2.1)))] := by rw [e5, e6]; exact hl
                    refine lv_goto (tgt := 47) hx hb dX8_reads_216 (by decide) ?_
                    exact ih47 (m9 - 1) ((it1 te (it, hs, y, L, zz, ff)).1 + 1) ((it1 te (it, hs, y, L, zz, ff)).2.1) ((it1 te (it, hs, y, L, zz, ff)).2.2.1) ((it1 te (it, hs, y, L, zz, ff)).2.2.2.1) ((tkM te (decide ((it1 te (it, hs, y, L, zz, ff)).2.2.2.2.1 13 = 6)) (it1 te (it, hs, y, L, zz, ff)).2.2.2.2).1) ((tkM te (decide ((it1 te (it, hs, y, L, zz, ff)).2.2.2.2.1 13 = 6)) (it1 te (it, hs, y, L, zz, ff)).2.2.2.2).2) (by have h1 : (if (itM te (it, hs, y, L, zz, ff)).2.2.2.2.2 = none then 1 + ((itM te (it, hs, y, L, zz, ff)).2.2.2.2.1 10 - (itM te (it, hs, y, L, zz, ff)).2.2.2.2.1 11) else 0) < (if ff = none then 1 + (zz 10 - zz 11) else 0) := rd_mu hR c60 hq; show (if (itM te (it, hs, y, L, zz, ff)).2.2.2.2.2 = none then 1 + ((itM te (it, hs, y, L, zz, ff)).2.2.2.2.1 10 - (itM te (it, hs, y, L, zz, ff)).2.2.2.2.1 11) else 0) < n47; omega) (by exact hR.it) (fo_tk hR.i1.1 (fo_i1 hR hff)) ⟨by have h1 := hit.2 hq; have h2 : zz 10 ≤ 120 := hR.1.2.1; have h3 : zz 11 ≤ zz 12 := hR.1.2.2.1; have h4 : zz 12 ≤ zz 10 := hR.1.2.2.2.1; rw [e5]; omega, fun h => by have h1 := hit.2 hq; have h2 := it_on hR h c60; have h3 : zz 11 < (itM te (it, hs, y, L, zz, ff)).2.2.2.2.1 11 := h2; rw [e5]; show it + 1 ≤ (itM te (it, hs, y, L, zz, ff)).2.2.2.2.1 11; omega⟩ (by have h1 : (if (itM te (it, hs, y, L, zz, ff)).2.2.2.2.2 = none then 1 + ((itM te (it, hs, y, L, zz, ff)).2.2.2.2.1 10 - (itM te (it, hs, y, L, zz, ff)).2.2.2.2.1 11) else 0) < (if ff = none then 1 + (zz 10 - zz 11) else 0) := rd_mu hR c60 hq; show (if (itM te (it, hs, y, L, zz, ff)).2.2.2.2.2 = none then 1 + ((itM te (it, hs, y, L, zz, ff)).2.2.2.2.1 10 - (itM te (it, hs, y, L, zz, ff)).2.2.2.2.1 11) else 0) ≤ m9 - 1; omega) (by have h1 : (if ff = none then 1 + (zz 10 - zz 11) else 0) = 1 + (zz 10 - zz 11) := if_pos hq; have e9 : m9 = (m9 - 1) + 1 := (by omega); rw [e9, rdM_go hq c60] at hres; exact hres) _ _ hP hD hS ls (lv_sub hl [1, 2, 0] rfl)
            · refine ti (y := nI q) (by rw [hq]; rfl) ?_
              have hq31 := hff q hq
              refine lv_bipush (v := (-9)) hx hb dX8_reads_51 (by decide) ?_
              refine lv_icmp_ne (x := (nI q)) (y := (-9)) (tgt := 219) hx hb dX8_reads_53 (by decide) (fun _ => ?_) (fun h9 => absurd h9 (nI_n9 (by omega)))
              refine lv_iload_n hx hb dX8_reads_219 rfl (lv_at hl 2 rfl) ?_
              have e7 : rxA te z d = (it, hs, y, L, zz, ff) := by rw [← hres, rdM_end (fun h => by rw [show (it, hs, y, L, zz, ff).2.2.2.2.2 = ff from rfl, hq] at h; cases h.1)]
              have hP : va_P G.1 vwCl (mow G ad (rxA te z d).2.2.2.2.1 (rxA te z d).2.2.2.2.2 sv (rxA te z d).2.2.1 pa ke ik fa te aw) H := by rw [e7]; exact hP
              have hD : va_D A (mow G ad (rxA te z d).2.2.2.2.1 (rxA te z d).2.2.2.2.2 sv (rxA te z d).2.2.1 pa ke ik fa te aw) := by rw [e7]; exact hD
              exact re_i (v := (nI it)) hx hb hr hlocks hS () hP hD (by rw [e7]) dX8_reads_220
        exact lp47 _ 130 0 false (upd (dzP d k) 0 (nI 2)) 0 (stZ te (va_up z 12 0)) none (Nat.lt_succ_self _) ⟨YB.st ht9 hz (Nat.zero_le _), Nat.zero_le _, (by have e9 : k = 52 := (by omega); rw [e9]; rfl)⟩ (fun q h => by cases h) ⟨by omega, fun _ => Nat.zero_le _⟩ (by rw [if_pos rfl]; have h9 : stZ te (va_up z 12 0) 10 = z 10 := rfl; omega) (by have e9 : k = 52 := (by omega); rw [e9]; rfl) _ _ hP hD hS ls (lv_sub hl [2, 1, 0] rfl)
      · refine lv_aload_n hx hb dX8_reads_8 rfl (lv_at hl 0 rfl) ?_
        refine va_get (D := G.1) (ci := 7) (v := .ref (ad 2)) (C := RX8) (T := TX8) (N := 17) hx hb hts inA8 hown hX.1 hP 0 rfl rfl 2 (by decide) (hts _ kw_682) (fun _ h9 => h9) rfl dX8_reads_9 ?_
        refine lv_iload_n hx hb dX8_reads_12 rfl (lv_at hl 1 rfl) ?_
        refine lv_iconst (v := (nI 0)) hx hb dX8_reads_13 (by decide) ?_
        refine nv_astI (f := (dzP d k)) (k := k) (v := (nI 0)) hx hb hX hP hD hS 2 rfl (by omega) (by decide) dX8_reads_14 (fun H locs hP hD hS => ?_)
        have hP : va_P G.1 vwCl (mow G ad z fo sv (upd (dzP d k) k (nI 0)) pa ke ik fa te aw) H := hP
        have hD : va_D A (mow G ad z fo sv (upd (dzP d k) k (nI 0)) pa ke ik fa te aw) := hD
        refine lv_iinc (v := (nI (k + 1))) (lv' := [(1, .int (nI (k + 1))), (0, .ref (ad 0))]) hx hb dX8_reads_15 hl (k := 1) rfl (qn_inc _) (by decide) rfl (fun ls hl => ?_)
        refine lv_goto (tgt := 2) hx hb dX8_reads_18 (by decide) ?_
        exact ih2 (k + 1) (upd (dzP d k) k (nI 0)) (by omega) (dzP_s _ _) (by omega) _ _ hP hD hS ls (lv_sub hl [1, 0] rfl)
  exact lp2 _ 0 d (Nat.lt_succ_self _) (dzP_0 _).symm (Nat.zero_le _) _ _ hP hD hS ls (lv_sub hl [1, 0] rfl)

theorem hdX8_tells : hdOK yX8_tells 0 := by decide +kernel
set_option maxHeartbeats 4000000 in
set_option maxRecDepth 100000 in
theorem mX8_tells_fault (l : Launch) (G : GG) (ad : Nat → Nat) (z : Nat → Nat) (fo : Option Nat) (sv : Nat → Nat) (d : Nat → Int32) (pa ke : Nat → Nat) (ik fa : Nat → Int32) (te aw : Nat → Nat) (q : Nat) (ht9 : ∀ j, te j < 256) (hz : z 10 ≤ 120) (hq : (rxA te z d).2.2.2.2.2 = some q) (hq31 : q < 2 ^ 31) : Mi l yX8_tells cX8_tells 3 (some .int) (rmN 8 173) G [.ref (ad 0)] (mow G ad z fo sv d pa ke ik fa te aw) (fun (r9 : Int32) (_ : Unit) => r9 = (-10 - nI q)) (fun (_ : Unit) => mow G ad ((rxA te z d).2.2.2.2.1) ((rxA te z d).2.2.2.2.2) sv ((rxA te z d).2.2.1) pa ke ik fa te aw) := by
  refine Mi.of (cc := cX8_tells) (nL := 3) (by decide) (Nat.le_of_ble_eq_true rfl) ?_
  intro p e s m below meth c A ls F hr hlocks hnm hX hA hD hP hS hl
  have F : CallFix p m c cX8_tells 3 s [.ref (ad 0)].toArray wA RX8 := F
  obtain ⟨hx, hb, hml, hown, hts⟩ := id F
  have hl : lv_has ls 3 [(0, .ref (ad 0))] := hl
  refine lv_aload_n hx hb dX8_tells_0 rfl (lv_at hl 0 rfl) ?_
  refine lv_iconst (v := (nI 0)) hx hb dX8_tells_1 (by decide) ?_
  refine va_put (D := G.1) (ci := 7) (v := .int (nI 0)) (ty := .int) (C := RX8) (T := TX8) (N := 17) hx hb hts inA8 tyX8 tyX8_ok nmX8 hown hX.1 hP hD hS 0 rfl rfl 0 (by decide) (hts _ kw_680) (fun _ h9 => h9) rfl (by decide +kernel) rfl rfl (Nat.le_of_ble_eq_true rfl) dX8_tells_2 (fun H locs hP hD hS => ?_)
  have hP : va_P G.1 vwCl (mow G ad z fo sv d pa ke ik fa te aw) H := hP
  have hD : va_D A (mow G ad z fo sv d pa ke ik fa te aw) := hD
  refine lv_aload_n hx hb dX8_tells_5 rfl (lv_at hl 0 rfl) ?_
  refine ca_Vi (ci := 7) (q := (RX8, TX8, 17)) (rest := []) (wr := ([] : va_W)) F hX (mX8_reads l G ad z fo sv d pa ke ik fa te aw  ht9 hz) (cA_V hts kw_750 kw_8 kw_747 kw_749 kp_19 hdX8_reads ⟨Nat.le_of_ble_eq_true rfl, Nat.le_of_ble_eq_true rfl⟩) rfl rfl rfl hl.1 rfl (Nat.le_of_ble_eq_true rfl) dX8_tells_6 ⟨Nat.le_of_ble_eq_true rfl, Nat.le_of_ble_eq_true rfl⟩ hP hD hS hA (pm_nil _) (fun r6 u6 H locs hp6 hP hD hS => ?_)
  have hP : va_P G.1 vwCl (mow G ad ((rxA te z d).2.2.2.2.1) ((rxA te z d).2.2.2.2.2) sv ((rxA te z d).2.2.1) pa ke ik fa te aw) H := wp_pm (pm_nil _).symm hP
  have hD : va_D A (mow G ad ((rxA te z d).2.2.2.2.1) ((rxA te z d).2.2.2.2.2) sv ((rxA te z d).2.2.1) pa ke ik fa te aw) := wd_pm (pm_nil _).symm hD
  subst hp6
  refine lv_istore_n (lv' := [(1, .int (nI ((rxA te z d).1))), (0, .ref (ad 0))]) hx hb dX8_tells_9 rfl hl (by decide) rfl (fun ls hl => ?_)
  refine lv_aload_n hx hb dX8_tells_10 rfl (lv_at hl 1 rfl) ?_
  refine va_get (D := G.1) (ci := 7) (v := .int (oN ((rxA te z d).2.2.2.2.2))) (C := RX8) (T := TX8) (N := 17) hx hb hts inA8 hown hX.1 hP 0 rfl rfl 14 (by decide) (hts _ kw_694) (fun _ h9 => h9) rfl dX8_tells_11 ?_
  refine ti (y := (nI q)) (by rw [hq]; rfl) ?_
  refine lv_bipush (v := (-9)) hx hb dX8_tells_14 (by decide) ?_
  refine lv_icmp_eq (x := (nI q)) (y := (-9)) (tgt := 27) hx hb dX8_tells_16 (by decide) (fun h9 => absurd h9 (nI_n9 (by omega))) (fun _ => ?_)
  refine lv_bipush (v := (-10)) hx hb dX8_tells_19 (by decide) ?_
  refine lv_aload_n hx hb dX8_tells_21 rfl (lv_at hl 1 rfl) ?_
  refine va_get (D := G.1) (ci := 7) (v := .int (oN ((rxA te z d).2.2.2.2.2))) (C := RX8) (T := TX8) (N := 17) hx hb hts inA8 hown hX.1 hP 0 rfl rfl 14 (by decide) (hts _ kw_694) (fun _ h9 => h9) rfl dX8_tells_22 ?_
  refine lv_isub hx hb dX8_tells_25 (ti (y := (-10 - nI q)) (by rw [hq]; rfl) ?_)
  exact re_i (v := (-10 - nI q)) hx hb hr hlocks hS () hP hD rfl dX8_tells_26

def cdP (s dn : Nat → Nat) (k : Nat) : Nat → Nat := fun j => if j < k then dn j else s j
theorem cdP_0 (s dn : Nat → Nat) : cdP s dn 0 = s := by
  funext j; simp [cdP]
theorem cdP_s (s dn : Nat → Nat) (k : Nat) : va_up (cdP s dn k) k (dn k) = cdP s dn (k + 1) := by
  funext j
  unfold va_up cdP
  by_cases e : j = k
  · subst e; simp
  · by_cases h : j < k
    · simp [e, h, Nat.lt_succ_of_lt h]
    · have : ¬ j < k + 1 := by omega
      simp [e, h, this]

set_option maxHeartbeats 4000000 in
set_option maxRecDepth 100000 in
theorem mX8_tells_ok (l : Launch) (G : GG) (ad : Nat → Nat) (z : Nat → Nat) (fo : Option Nat) (sv : Nat → Nat) (d : Nat → Int32) (pa ke : Nat → Nat) (ik fa : Nat → Int32) (te aw : Nat → Nat) (dn : Nat → Nat) (ht9 : ∀ j, te j < 256) (hz : z 10 ≤ 120) (hq : (rxA te z d).2.2.2.2.2 = none) (hu4 : (rxA te z d).2.2.2.2.1 4 ≤ 6) (hdn : ∀ j, j < 52 → (rxA te z d).2.2.1 j = nI (dn j)) : Mi l yX8_tells cX8_tells 3 (some .int) (rmN 8 173) G [.ref (ad 0)] (mow G ad z fo sv d pa ke ik fa te aw) (fun (r9 : Int32) (_ : Unit) => r9 = (nI ((rxA te z d).1))) (fun (_ : Unit) => mow G ad (va_up (va_up ((rxA te z d).2.2.2.2.1) 4 (ntU ((rxA te z d).2.2.2.2.1 4) + 1)) 10 0) ((rxA te z d).2.2.2.2.2) (cdP sv dn 52) ((rxA te z d).2.2.1) (ntP pa sv ((rxA te z d).2.2.2.2.1 4)) ke ik fa te aw) := by
  refine Mi.of (cc := cX8_tells) (nL := 3) (by decide) (Nat.le_of_ble_eq_true rfl) ?_
  intro p e s m below meth c A ls F hr hlocks hnm hX hA hD hP hS hl
  have F : CallFix p m c cX8_tells 3 s [.ref (ad 0)].toArray wA RX8 := F
  obtain ⟨hx, hb, hml, hown, hts⟩ := id F
  have hl : lv_has ls 3 [(0, .ref (ad 0))] := hl
  refine lv_aload_n hx hb dX8_tells_0 rfl (lv_at hl 0 rfl) ?_
  refine lv_iconst (v := (nI 0)) hx hb dX8_tells_1 (by decide) ?_
  refine va_put (D := G.1) (ci := 7) (v := .int (nI 0)) (ty := .int) (C := RX8) (T := TX8) (N := 17) hx hb hts inA8 tyX8 tyX8_ok nmX8 hown hX.1 hP hD hS 0 rfl rfl 0 (by decide) (hts _ kw_680) (fun _ h9 => h9) rfl (by decide +kernel) rfl rfl (Nat.le_of_ble_eq_true rfl) dX8_tells_2 (fun H locs hP hD hS => ?_)
  have hP : va_P G.1 vwCl (mow G ad z fo sv d pa ke ik fa te aw) H := hP
  have hD : va_D A (mow G ad z fo sv d pa ke ik fa te aw) := hD
  refine lv_aload_n hx hb dX8_tells_5 rfl (lv_at hl 0 rfl) ?_
  refine ca_Vi (ci := 7) (q := (RX8, TX8, 17)) (rest := []) (wr := ([] : va_W)) F hX (mX8_reads l G ad z fo sv d pa ke ik fa te aw  ht9 hz) (cA_V hts kw_750 kw_8 kw_747 kw_749 kp_19 hdX8_reads ⟨Nat.le_of_ble_eq_true rfl, Nat.le_of_ble_eq_true rfl⟩) rfl rfl rfl hl.1 rfl (Nat.le_of_ble_eq_true rfl) dX8_tells_6 ⟨Nat.le_of_ble_eq_true rfl, Nat.le_of_ble_eq_true rfl⟩ hP hD hS hA (pm_nil _) (fun r6 u6 H locs hp6 hP hD hS => ?_)
  have hP : va_P G.1 vwCl (mow G ad ((rxA te z d).2.2.2.2.1) ((rxA te z d).2.2.2.2.2) sv ((rxA te z d).2.2.1) pa ke ik fa te aw) H := wp_pm (pm_nil _).symm hP
  have hD : va_D A (mow G ad ((rxA te z d).2.2.2.2.1) ((rxA te z d).2.2.2.2.2) sv ((rxA te z d).2.2.1) pa ke ik fa te aw) := wd_pm (pm_nil _).symm hD
  subst hp6
  refine lv_istore_n (lv' := [(1, .int (nI ((rxA te z d).1))), (0, .ref (ad 0))]) hx hb dX8_tells_9 rfl hl (by decide) rfl (fun ls hl => ?_)
  refine lv_aload_n hx hb dX8_tells_10 rfl (lv_at hl 1 rfl) ?_
  refine va_get (D := G.1) (ci := 7) (v := .int (oN ((rxA te z d).2.2.2.2.2))) (C := RX8) (T := TX8) (N := 17) hx hb hts inA8 hown hX.1 hP 0 rfl rfl 14 (by decide) (hts _ kw_694) (fun _ h9 => h9) rfl dX8_tells_11 ?_
  refine ti (y := (-9)) (by rw [hq]; rfl) ?_
  refine lv_bipush (v := (-9)) hx hb dX8_tells_14 (by decide) ?_
  refine lv_icmp_eq (x := (-9)) (y := (-9)) (tgt := 27) hx hb dX8_tells_16 (by decide) (fun _ => ?_) (fun h9 => absurd rfl h9)
  refine lv_aload_n hx hb dX8_tells_27 rfl (lv_at hl 1 rfl) ?_
  refine ca_Vv (ci := 7) (q := (RX8, TX8, 17)) (rest := []) (wr := ([] : va_W)) F hX (mX8_notes l G ad ((rxA te z d).2.2.2.2.1) ((rxA te z d).2.2.2.2.2) sv ((rxA te z d).2.2.1) pa ke ik fa te aw  hu4) (cA_V hts kw_786 kw_8 kw_783 kw_785 kp_28 hdX8_notes ⟨Nat.le_of_ble_eq_true rfl, Nat.le_of_ble_eq_true rfl⟩) rfl rfl rfl hl.1 rfl (Nat.le_of_ble_eq_true rfl) dX8_tells_28 ⟨Nat.le_of_ble_eq_true rfl, Nat.le_of_ble_eq_true rfl⟩ hP hD hS hA (pm_nil _) (fun u28 H locs hp28 hP hD hS => ?_)
  have hP : va_P G.1 vwCl (mow G ad (va_up ((rxA te z d).2.2.2.2.1) 4 (ntU (((rxA te z d).2.2.2.2.1) 4) + 1)) ((rxA te z d).2.2.2.2.2) sv ((rxA te z d).2.2.1) (ntP pa sv (((rxA te z d).2.2.2.2.1) 4)) ke ik fa te aw) H := wp_pm (pm_nil _).symm hP
  have hD : va_D A (mow G ad (va_up ((rxA te z d).2.2.2.2.1) 4 (ntU (((rxA te z d).2.2.2.2.1) 4) + 1)) ((rxA te z d).2.2.2.2.2) sv ((rxA te z d).2.2.1) (ntP pa sv (((rxA te z d).2.2.2.2.1) 4)) ke ik fa te aw) := wd_pm (pm_nil _).symm hD
  refine lv_iconst (v := (nI 0)) hx hb dX8_tells_31 (by decide) ?_
  refine lv_istore_n (lv' := [(2, .int (nI 0)), (1, .int (nI ((rxA te z d).1))), (0, .ref (ad 0))]) hx hb dX8_tells_32 rfl hl (by decide) rfl (fun ls hl => ?_)
  have lp33 : ∀ (n33 : Nat) (k : Nat) (y : Nat → Nat), (52 - k) < n33 → y = cdP sv dn k → (k ≤ 52) → ∀ (H : Heap) (locs : List Loc), va_P G.1 vwCl (mow G ad (va_up ((rxA te z d).2.2.2.2.1) 4 (ntU ((rxA te z d).2.2.2.2.1 4) + 1)) ((rxA te z d).2.2.2.2.2) y ((rxA te z d).2.2.1) (ntP pa sv ((rxA te z d).2.2.2.2.1 4)) ke ik fa te aw) H → va_D A (mow G ad (va_up ((rxA te z d).2.2.2.2.1) 4 (ntU ((rxA te z d).2.2.2.2.1 4) + 1)) ((rxA te z d).2.2.2.2.2) y ((rxA te z d).2.2.1) (ntP pa sv ((rxA te z d).2.2.2.2.1 4)) ke ik fa te aw) → va_S A s.heap H locs → ∀ (ls : Array Slot), lv_has ls 3 [(0, .ref (ad 0)), (1, .int (nI ((rxA te z d).1))), (2, .int (nI k))] → WI p l e (rmN 8 173) s m [.ref (ad 0)] below meth c H locs G A (fun (r9 : Int32) (_ : Unit) => r9 = (nI ((rxA te z d).1))) (fun (_ : Unit) => mow G ad (va_up (va_up ((rxA te z d).2.2.2.2.1) 4 (ntU ((rxA te z d).2.2.2.2.1 4) + 1)) 10 0) ((rxA te z d).2.2.2.2.2) (cdP sv dn 52) ((rxA te z d).2.2.1) (ntP pa sv ((rxA te z d).2.2.2.2.1 4)) ke ik fa te aw) (F0 m 33 ls []) := by
    intro n33
    induction n33 with
    | zero => intro k y h9; exact absurd h9 (Nat.not_lt_zero _)
    | succ n33 ih33 =>
      intro k y hm33 e_y hk H locs hP hD hS ls hl
      subst e_y
      refine lv_iload_n hx hb dX8_tells_33 rfl (lv_at hl 2 rfl) ?_
      refine lv_bipush (v := (nI 52)) hx hb dX8_tells_34 (by decide) ?_
      refine nv_ge (x := k) (y := 52) (tgt := 57) hx hb dX8_tells_36 (by decide) (by omega) (by decide) (fun c36 => ?_) (fun c36 => ?_)
      · refine lv_aload_n hx hb dX8_tells_57 rfl (lv_at hl 0 rfl) ?_
        refine lv_iconst (v := (nI 0)) hx hb dX8_tells_58 (by decide) ?_
        refine va_put (D := G.1) (ci := 7) (v := .int (nI 0)) (ty := .int) (C := RX8) (T := TX8) (N := 17) hx hb hts inA8 tyX8 tyX8_ok nmX8 hown hX.1 hP hD hS 0 rfl rfl 10 (by decide) (hts _ kw_690) (fun _ h9 => h9) rfl (by decide +kernel) rfl rfl (Nat.le_of_ble_eq_true rfl) dX8_tells_59 (fun H locs hP hD hS => ?_)
        have hP : va_P G.1 vwCl (mow G ad (va_up (va_up ((rxA te z d).2.2.2.2.1) 4 (ntU ((rxA te z d).2.2.2.2.1 4) + 1)) 10 0) ((rxA te z d).2.2.2.2.2) (cdP sv dn k) ((rxA te z d).2.2.1) (ntP pa sv ((rxA te z d).2.2.2.2.1 4)) ke ik fa te aw) H := hP
        have hD : va_D A (mow G ad (va_up (va_up ((rxA te z d).2.2.2.2.1) 4 (ntU ((rxA te z d).2.2.2.2.1 4) + 1)) 10 0) ((rxA te z d).2.2.2.2.2) (cdP sv dn k) ((rxA te z d).2.2.1) (ntP pa sv ((rxA te z d).2.2.2.2.1 4)) ke ik fa te aw) := hD
        refine lv_iload_n hx hb dX8_tells_62 rfl (lv_at hl 1 rfl) ?_
        have e9 : k = 52 := (by omega)
        rw [e9] at hP hD
        exact re_i (v := (nI ((rxA te z d).1))) hx hb hr hlocks hS () hP hD rfl dX8_tells_63
      · refine lv_aload_n hx hb dX8_tells_39 rfl (lv_at hl 0 rfl) ?_
        refine va_get (D := G.1) (ci := 7) (v := .ref (ad 1)) (C := RX8) (T := TX8) (N := 17) hx hb hts inA8 hown hX.1 hP 0 rfl rfl 1 (by decide) (hts _ kw_681) (fun _ h9 => h9) rfl dX8_tells_40 ?_
        refine lv_iload_n hx hb dX8_tells_43 rfl (lv_at hl 2 rfl) ?_
        refine lv_aload_n hx hb dX8_tells_44 rfl (lv_at hl 0 rfl) ?_
        refine va_get (D := G.1) (ci := 7) (v := .ref (ad 2)) (C := RX8) (T := TX8) (N := 17) hx hb hts inA8 hown hX.1 hP 0 rfl rfl 2 (by decide) (hts _ kw_682) (fun _ h9 => h9) rfl dX8_tells_45 ?_
        refine lv_iload_n hx hb dX8_tells_48 rfl (lv_at hl 2 rfl) ?_
        refine nv_aldI (f := (rxA te z d).2.2.1) (k := k) hx hb hX hP 2 rfl (by omega) (by decide) dX8_tells_49 ?_
        refine ti (y := (nI (dn k))) (hdn k (by omega)) ?_
        refine nv_ast (f := (cdP sv dn k)) (k := k) (v := dn k) hx hb hX hP hD hS 1 rfl (by omega) (by decide) dX8_tells_50 (fun H locs hP hD hS => ?_)
        have hP : va_P G.1 vwCl (mow G ad (va_up ((rxA te z d).2.2.2.2.1) 4 (ntU ((rxA te z d).2.2.2.2.1 4) + 1)) ((rxA te z d).2.2.2.2.2) (va_up (cdP sv dn k) k (dn k)) ((rxA te z d).2.2.1) (ntP pa sv ((rxA te z d).2.2.2.2.1 4)) ke ik fa te aw) H := hP
        have hD : va_D A (mow G ad (va_up ((rxA te z d).2.2.2.2.1) 4 (ntU ((rxA te z d).2.2.2.2.1 4) + 1)) ((rxA te z d).2.2.2.2.2) (va_up (cdP sv dn k) k (dn k)) ((rxA te z d).2.2.1) (ntP pa sv ((rxA te z d).2.2.2.2.1 4)) ke ik fa te aw) := hD
        refine lv_iinc (v := (nI (k + 1))) (lv' := [(2, .int (nI (k + 1))), (0, .ref (ad 0)), (1, .int (nI ((rxA te z d).1)))]) hx hb dX8_tells_51 hl (k := 2) rfl (qn_inc _) (by decide) rfl (fun ls hl => ?_)
        refine lv_goto (tgt := 33) hx hb dX8_tells_54 (by decide) ?_
        exact ih33 (k + 1) (va_up (cdP sv dn k) k (dn k)) (by omega) (cdP_s _ _ _) (by omega) _ _ hP hD hS ls (lv_sub hl [1, 2, 0] rfl)
  exact lp33 _ 0 sv (Nat.lt_succ_self _) (cdP_0 _ _).symm (Nat.zero_le _) _ _ hP hD hS ls (lv_sub hl [2, 1, 0] rfl)

