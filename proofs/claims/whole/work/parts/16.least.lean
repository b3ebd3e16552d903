theorem hdX1_cheapestOn : hdOK yX1_cheapestOn 3 := by decide +kernel
set_option maxHeartbeats 4000000 in
set_option maxRecDepth 100000 in
theorem mX1_cheapestOn (l : Launch) (G : GG) (ad : Nat → Nat) (a : Nat → Nat) (r : Nat → Nat → Nat) (rc ou : Nat) (hT : TB a r) (hrc : rc < 128) (hou : ou < 128) : Mi l yX1_cheapestOn cX1_cheapestOn 8 (some .int) (rmN 1 21) G [.ref (ad 0), .int (nI rc), .int (nI ou)] (tkw G ad a r) (fun (r9 : Int32) (_ : Unit) => r9 = (oN (chS (r 0) (r 1) (r 2) (upA a) rc ou (a 3)))) (fun (_ : Unit) => tkw G ad a r) := by
  refine Mi.of (cc := cX1_cheapestOn) (nL := 8) (by decide) (Nat.le_of_ble_eq_true rfl) ?_
  intro p e s m below meth c A ls F hr hlocks hnm hX hA hD hP hS hl
  have F : CallFix p m c cX1_cheapestOn 8 s [.ref (ad 0), .int (nI rc), .int (nI ou)].toArray wA RX1 := F
  obtain ⟨hx, hb, hml, hown, hts⟩ := id F
  have hl : lv_has ls 8 [(0, .ref (ad 0)), (1, .int (nI rc)), (2, .int (nI ou))] := hl
  obtain ⟨t0, t1, t2, t3, t4, t5, t6, t7, t8, t9, t10, t11, t12⟩ := id hT
  have hup := up_lt hT
  refine lv_bipush (v := (-9)) hx hb dX1_cheapestOn_0 (by decide) ?_
  refine lv_istore_n (lv' := [(3, .int (-9)), (0, .ref (ad 0)), (1, .int (nI rc)), (2, .int (nI ou))]) hx hb dX1_cheapestOn_2 rfl hl (by decide) rfl (fun ls hl => ?_)
  refine lv_aload_n hx hb dX1_cheapestOn_3 rfl (lv_at hl 1 rfl) ?_
  refine ca_Vi (ci := 3) (q := (RX4, TX4, 12)) (rest := []) (wr := ([] : va_W)) F hX (mX4_upLinks l G ad a r  hT) (cA_V hts kw_409 kw_3 kw_608 kw_407 kw_408 hdX4_upLinks ⟨Nat.le_of_ble_eq_true rfl, Nat.le_of_ble_eq_true rfl⟩) rfl rfl rfl hl.1 rfl (Nat.le_of_ble_eq_true rfl) dX1_cheapestOn_4 ⟨Nat.le_of_ble_eq_true rfl, Nat.le_of_ble_eq_true rfl⟩ hP hD hS hA (pm_nil _) (fun r4 u4 H locs hp4 hP hD hS => ?_)
  have hP : va_P G.1 vwCl (tkw G ad a r) H := wp_pm (pm_nil _).symm hP
  have hD : va_D A (tkw G ad a r) := wd_pm (pm_nil _).symm hD
  subst hp4
  refine lv_istore (lv' := [(4, .int (nI (nd (2 ^ (a 3) - 1) (a 9)))), (3, .int (-9)), (0, .ref (ad 0)), (1, .int (nI rc)), (2, .int (nI ou))]) hx hb dX1_cheapestOn_7 hl (by decide) rfl (fun ls hl => ?_)
  refine lv_iconst (v := (nI 0)) hx hb dX1_cheapestOn_9 (by decide) ?_
  refine lv_istore (lv' := [(5, .int (nI 0)), (4, .int (nI (nd (2 ^ (a 3) - 1) (a 9)))), (3, .int (-9)), (0, .ref (ad 0)), (1, .int (nI rc)), (2, .int (nI ou))]) hx hb dX1_cheapestOn_10 hl (by decide) rfl (fun ls hl => ?_)
  have lp12 : ∀ (n12 : Nat) (k : Nat) (o : Option Nat), (a 3 - k) < n12 → (k ≤ a 3) → (chS (r 0) (r 1) (r 2) (upA a) rc ou k = o) → ∀ (H : Heap) (locs : List Loc), va_P G.1 vwCl (tkw G ad a r) H → va_D A (tkw G ad a r) → va_S A s.heap H locs → ∀ (ls : Array Slot), lv_has ls 8 [(0, .ref (ad 0)), (1, .int (nI rc)), (2, .int (nI ou)), (3, .int (oN o)), (4, .int (nI (nd (2 ^ (a 3) - 1) (a 9)))), (5, .int (nI k))] → WI p l e (rmN 1 21) s m [.ref (ad 0), .int (nI rc), .int (nI ou)] below meth c H locs G A (fun (r9 : Int32) (_ : Unit) => r9 = (oN (chS (r 0) (r 1) (r 2) (upA a) rc ou (a 3)))) (fun (_ : Unit) => tkw G ad a r) (F0 m 12 ls []) := by
    intro n12
    induction n12 with
    | zero => intro k o h9; exact absurd h9 (Nat.not_lt_zero _)
    | succ n12 ih12 =>
      intro k o hm12  hk ho H locs hP hD hS ls hl
      refine lv_iload hx hb dX1_cheapestOn_12 (lv_at hl 5 rfl) ?_
      refine lv_aload_n hx hb dX1_cheapestOn_14 rfl (lv_at hl 0 rfl) ?_
      refine va_get (D := G.1) (ci := 3) (v := .int (nI (a 3))) (C := RX4) (T := TX4) (N := 12) hx hb hts inA4 hown hX.1 hP 0 rfl rfl 3 (by decide) (hts _ kw_78) (fun _ h9 => h9) rfl dX1_cheapestOn_15 ?_
      refine nv_ge (x := k) (y := a 3) (tgt := 94) hx hb dX1_cheapestOn_18 (by decide) (by omega) (by omega) (fun c18 => ?_) (fun c18 => ?_)
      · refine lv_iload_n hx hb dX1_cheapestOn_94 rfl (lv_at hl 3 rfl) ?_
        exact re_i (v := (oN o)) hx hb hr hlocks hS () hP hD (by have e9 : k = a 3 := (by omega); rw [← e9, ho]) dX1_cheapestOn_95
      · refine lv_aload_n hx hb dX1_cheapestOn_21 rfl (lv_at hl 0 rfl) ?_
        refine lv_iload hx hb dX1_cheapestOn_22 (lv_at hl 5 rfl) ?_
        refine ca_Vi (ci := 3) (q := (RX4, TX4, 12)) (rest := []) (wr := ([] : va_W)) F hX (mX4_ends l G ad a r k hT (by omega)) (cA_V hts kw_354 kw_3 kw_609 kw_352 kw_353 hdX4_ends ⟨Nat.le_of_ble_eq_true rfl, Nat.le_of_ble_eq_true rfl⟩) rfl rfl rfl hl.1 rfl (Nat.le_of_ble_eq_true rfl) dX1_cheapestOn_24 ⟨Nat.le_of_ble_eq_true rfl, Nat.le_of_ble_eq_true rfl⟩ hP hD hS hA (pm_nil _) (fun r24 u24 H locs hp24 hP hD hS => ?_)
        have hP : va_P G.1 vwCl (tkw G ad a r) H := wp_pm (pm_nil _).symm hP
        have hD : va_D A (tkw G ad a r) := wd_pm (pm_nil _).symm hD
        subst hp24
        refine lv_istore (lv' := [(6, .int (nI (edg (r 0) (r 1) k))), (0, .ref (ad 0)), (1, .int (nI rc)), (2, .int (nI ou)), (3, .int (oN o)), (4, .int (nI (nd (2 ^ (a 3) - 1) (a 9)))), (5, .int (nI k))]) hx hb dX1_cheapestOn_27 hl (by decide) rfl (fun ls hl => ?_)
        refine lv_iload hx hb dX1_cheapestOn_29 (lv_at hl 5 rfl) ?_
        refine lv_iload hx hb dX1_cheapestOn_31 (lv_at hl 6 rfl) ?_
        refine ca_Ni (rest := []) (wr := tkw G ad a r) F hX (mX7_has l G (nd (2 ^ (a 3) - 1) (a 9)) k (by omega) (by omega)) ⟨cA_N hts kw_357 kw_1 hX.2.2.2.2.2.2.2.2.1 hdX7_has ⟨Nat.le_of_ble_eq_true rfl, Nat.le_of_ble_eq_true rfl⟩, hts _ kw_356, trivial⟩ rfl hl.1 rfl (Nat.le_of_ble_eq_true rfl) dX1_cheapestOn_33 ⟨Nat.le_of_ble_eq_true rfl, Nat.le_of_ble_eq_true rfl⟩ hP hD hS hA (List.Perm.refl _) (fun r33 u33 H locs hp33 hP hD hS => ?_)
        have hP : va_P G.1 vwCl (tkw G ad a r) H := hP
        have hD : va_D A (tkw G ad a r) := hD
        subst hp33
        refine bv_eq (b := (nd (2 ^ (a 3) - 1) (a 9)).testBit k) (tgt := 57) hx hb dX1_cheapestOn_36 (by decide) (fun c36 => ?_) (fun c36 => ?_)
        · refine lv_iconst (v := (nI 0)) hx hb dX1_cheapestOn_57 (by decide) ?_
          refine lv_istore (lv' := [(7, .int (nI 0)), (6, .int (nI (edg (r 0) (r 1) k))), (0, .ref (ad 0)), (1, .int (nI rc)), (2, .int (nI ou)), (3, .int (oN o)), (4, .int (nI (nd (2 ^ (a 3) - 1) (a 9)))), (5, .int (nI k))]) hx hb dX1_cheapestOn_58 hl (by decide) rfl (fun ls hl => ?_)
          refine lv_iload hx hb dX1_cheapestOn_60 (lv_at hl 0 rfl) ?_
          refine nv_zeq (x := 0) (tgt := 88) hx hb dX1_cheapestOn_62 (by decide) (by decide) (fun _ => ?_) (fun h9 => absurd h9 (by decide))
          refine lv_iinc (v := (nI (k + 1))) (lv' := [(5, .int (nI (k + 1))), (7, .int (nI 0)), (6, .int (nI (edg (r 0) (r 1) k))), (0, .ref (ad 0)), (1, .int (nI rc)), (2, .int (nI ou)), (3, .int (oN o)), (4, .int (nI (nd (2 ^ (a 3) - 1) (a 9))))]) hx hb dX1_cheapestOn_88 hl (k := 7) rfl (qn_inc _) (by decide) rfl (fun ls hl => ?_)
          refine lv_goto (tgt := 12) hx hb dX1_cheapestOn_91 (by decide) ?_
          exact ih12 (k + 1) o (by omega) (by omega) (by cases o with | none => (rw [chS, ho]; exact if_neg (fun h => absurd (c36.symm.trans h.1) (by decide))) | some j => (rw [chS, ho]; exact if_neg (fun h => absurd (c36.symm.trans h.1.1) (by decide)))) _ _ hP hD hS ls (lv_sub hl [3, 4, 5, 6, 7, 0] rfl)
        · refine lv_iload hx hb dX1_cheapestOn_39 (lv_at hl 0 rfl) ?_
          refine lv_iload_n hx hb dX1_cheapestOn_41 rfl (lv_at hl 2 rfl) ?_
          refine lv_iand hx hb dX1_cheapestOn_42 (ti (y := (nI ((edg (r 0) (r 1) k) &&& rc))) (qn_and _ _) ?_)
          refine nv_zeq (x := (edg (r 0) (r 1) k) &&& rc) (tgt := 57) hx hb dX1_cheapestOn_43 (by decide) (by have := Nat.and_le_right (n := edg (r 0) (r 1) k) (m := rc); omega) (fun c43 => ?_) (fun c43 => ?_)
          · refine lv_iconst (v := (nI 0)) hx hb dX1_cheapestOn_57 (by decide) ?_
            refine lv_istore (lv' := [(7, .int (nI 0)), (6, .int (nI (edg (r 0) (r 1) k))), (0, .ref (ad 0)), (1, .int (nI rc)), (2, .int (nI ou)), (3, .int (oN o)), (4, .int (nI (nd (2 ^ (a 3) - 1) (a 9)))), (5, .int (nI k))]) hx hb dX1_cheapestOn_58 hl (by decide) rfl (fun ls hl => ?_)
            refine lv_iload hx hb dX1_cheapestOn_60 (lv_at hl 0 rfl) ?_
            refine nv_zeq (x := 0) (tgt := 88) hx hb dX1_cheapestOn_62 (by decide) (by decide) (fun _ => ?_) (fun h9 => absurd h9 (by decide))
            refine lv_iinc (v := (nI (k + 1))) (lv' := [(5, .int (nI (k + 1))), (7, .int (nI 0)), (6, .int (nI (edg (r 0) (r 1) k))), (0, .ref (ad 0)), (1, .int (nI rc)), (2, .int (nI ou)), (3, .int (oN o)), (4, .int (nI (nd (2 ^ (a 3) - 1) (a 9))))]) hx hb dX1_cheapestOn_88 hl (k := 7) rfl (qn_inc _) (by decide) rfl (fun ls hl => ?_)
            refine lv_goto (tgt := 12) hx hb dX1_cheapestOn_91 (by decide) ?_
            exact ih12 (k + 1) o (by omega) (by omega) (by cases o with | none => (rw [chS, ho]; exact if_neg (fun h => h.2.1 c43)) | some j => (rw [chS, ho]; exact if_neg (fun h => h.1.2.1 c43))) _ _ hP hD hS ls (lv_sub hl [3, 4, 5, 6, 7, 0] rfl)
          · refine lv_iload hx hb dX1_cheapestOn_46 (lv_at hl 0 rfl) ?_
            refine lv_iload_n hx hb dX1_cheapestOn_48 rfl (lv_at hl 3 rfl) ?_
            refine lv_iand hx hb dX1_cheapestOn_49 (ti (y := (nI ((edg (r 0) (r 1) k) &&& ou))) (qn_and _ _) ?_)
            refine nv_zeq (x := (edg (r 0) (r 1) k) &&& ou) (tgt := 57) hx hb dX1_cheapestOn_50 (by decide) (by have := Nat.and_le_right (n := edg (r 0) (r 1) k) (m := ou); omega) (fun c50 => ?_) (fun c50 => ?_)
            · refine lv_iconst (v := (nI 0)) hx hb dX1_cheapestOn_57 (by decide) ?_
              refine lv_istore (lv' := [(7, .int (nI 0)), (6, .int (nI (edg (r 0) (r 1) k))), (0, .ref (ad 0)), (1, .int (nI rc)), (2, .int (nI ou)), (3, .int (oN o)), (4, .int (nI (nd (2 ^ (a 3) - 1) (a 9)))), (5, .int (nI k))]) hx hb dX1_cheapestOn_58 hl (by decide) rfl (fun ls hl => ?_)
              refine lv_iload hx hb dX1_cheapestOn_60 (lv_at hl 0 rfl) ?_
              refine nv_zeq (x := 0) (tgt := 88) hx hb dX1_cheapestOn_62 (by decide) (by decide) (fun _ => ?_) (fun h9 => absurd h9 (by decide))
              refine lv_iinc (v := (nI (k + 1))) (lv' := [(5, .int (nI (k + 1))), (7, .int (nI 0)), (6, .int (nI (edg (r 0) (r 1) k))), (0, .ref (ad 0)), (1, .int (nI rc)), (2, .int (nI ou)), (3, .int (oN o)), (4, .int (nI (nd (2 ^ (a 3) - 1) (a 9))))]) hx hb dX1_cheapestOn_88 hl (k := 7) rfl (qn_inc _) (by decide) rfl (fun ls hl => ?_)
              refine lv_goto (tgt := 12) hx hb dX1_cheapestOn_91 (by decide) ?_
              exact ih12 (k + 1) o (by omega) (by omega) (by cases o with | none => (rw [chS, ho]; exact if_neg (fun h => h.2.2 c50)) | some j => (rw [chS, ho]; exact if_neg (fun h => h.1.2.2 c50))) _ _ hP hD hS ls (lv_sub hl [3, 4, 5, 6, 7, 0] rfl)
            · refine lv_iconst (v := (nI 1)) hx hb dX1_cheapestOn_53 (by decide) ?_
              refine lv_goto (tgt := 58) hx hb dX1_cheapestOn_54 (by decide) ?_
              refine lv_istore (lv' := [(7, .int (nI 1)), (6, .int (nI (edg (r 0) (r 1) k))), (0, .ref (ad 0)), (1, .int (nI rc)), (2, .int (nI ou)), (3, .int (oN o)), (4, .int (nI (nd (2 ^ (a 3) - 1) (a 9)))), (5, .int (nI k))]) hx hb dX1_cheapestOn_58 hl (by decide) rfl (fun ls hl => ?_)
              refine lv_iload hx hb dX1_cheapestOn_60 (lv_at hl 0 rfl) ?_
              refine nv_zeq (x := 1) (tgt := 88) hx hb dX1_cheapestOn_62 (by decide) (by decide) (fun h9 => absurd h9 (by decide)) (fun _ => ?_)
              rcases o with _ | j
              · have hl : lv_has ls 8 [(7, .int (nI 1)), (6, .int (nI (edg (r 0) (r 1) k))), (0, .ref (ad 0)), (1, .int (nI rc)), (2, .int (nI ou)), (3, .int (-9)), (4, .int (nI (nd (2 ^ (a 3) - 1) (a 9)))), (5, .int (nI k))] := hl
                refine lv_iload_n hx hb dX1_cheapestOn_65 rfl (lv_at hl 5 rfl) ?_
                refine lv_if_lt (x := (-9)) (tgt := 85) hx hb dX1_cheapestOn_66 (by decide) (fun c66 => ?_) (fun c66 => ?_)
                · refine lv_iload hx hb dX1_cheapestOn_85 (lv_at hl 7 rfl) ?_
                  refine lv_istore_n (lv' := [(3, .int (nI k)), (7, .int (nI 1)), (6, .int (nI (edg (r 0) (r 1) k))), (0, .ref (ad 0)), (1, .int (nI rc)), (2, .int (nI ou)), (4, .int (nI (nd (2 ^ (a 3) - 1) (a 9)))), (5, .int (nI k))]) hx hb dX1_cheapestOn_87 rfl hl (by decide) rfl (fun ls hl => ?_)
                  refine lv_iinc (v := (nI (k + 1))) (lv' := [(5, .int (nI (k + 1))), (3, .int (nI k)), (7, .int (nI 1)), (6, .int (nI (edg (r 0) (r 1) k))), (0, .ref (ad 0)), (1, .int (nI rc)), (2, .int (nI ou)), (4, .int (nI (nd (2 ^ (a 3) - 1) (a 9))))]) hx hb dX1_cheapestOn_88 hl (k := 7) rfl (qn_inc _) (by decide) rfl (fun ls hl => ?_)
                  refine lv_goto (tgt := 12) hx hb dX1_cheapestOn_91 (by decide) ?_
                  exact ih12 (k + 1) (some k) (by omega) (by omega) (by rw [chS, ho]; exact if_pos ⟨c36, c43, c50⟩) _ _ hP hD hS ls (lv_sub hl [4, 5, 6, 1, 7, 0] rfl)
                · exact absurd (by decide) c66
              · have hl : lv_has ls 8 [(7, .int (nI 1)), (6, .int (nI (edg (r 0) (r 1) k))), (0, .ref (ad 0)), (1, .int (nI rc)), (2, .int (nI ou)), (3, .int (nI j)), (4, .int (nI (nd (2 ^ (a 3) - 1) (a 9)))), (5, .int (nI k))] := hl
                have hlj := chS_lt ho
                refine lv_iload_n hx hb dX1_cheapestOn_65 rfl (lv_at hl 5 rfl) ?_
                refine nv_zlt (x := j) (tgt := 85) hx hb dX1_cheapestOn_66 (by decide) (by omega) ?_
                refine lv_aload_n hx hb dX1_cheapestOn_69 rfl (lv_at hl 2 rfl) ?_
                refine va_get (D := G.1) (ci := 3) (v := .ref (ad 3)) (C := RX4) (T := TX4) (N := 12) hx hb hts inA4 hown hX.1 hP 0 rfl rfl 6 (by decide) (hts _ kw_90) (fun _ h9 => h9) rfl dX1_cheapestOn_70 ?_
                refine lv_iload hx hb dX1_cheapestOn_73 (lv_at hl 7 rfl) ?_
                refine nv_ald (f := r 2) (k := k) hx hb hX hP 3 rfl (by omega) (by decide) dX1_cheapestOn_75 ?_
                refine lv_aload_n hx hb dX1_cheapestOn_76 rfl (lv_at hl 2 rfl) ?_
                refine va_get (D := G.1) (ci := 3) (v := .ref (ad 3)) (C := RX4) (T := TX4) (N := 12) hx hb hts inA4 hown hX.1 hP 0 rfl rfl 6 (by decide) (hts _ kw_90) (fun _ h9 => h9) rfl dX1_cheapestOn_77 ?_
                refine lv_iload_n hx hb dX1_cheapestOn_80 rfl (lv_at hl 5 rfl) ?_
                refine nv_ald (f := r 2) (k := j) hx hb hX hP 3 rfl (by omega) (by decide) dX1_cheapestOn_81 ?_
                refine nv_ge (x := (r 2) k) (y := (r 2) j) (tgt := 88) hx hb dX1_cheapestOn_82 (by decide) (by have := t7 k; omega) (by have := t7 j; omega) (fun c82 => ?_) (fun c82 => ?_)
                · refine lv_iinc (v := (nI (k + 1))) (lv' := [(5, .int (nI (k + 1))), (7, .int (nI 1)), (6, .int (nI (edg (r 0) (r 1) k))), (0, .ref (ad 0)), (1, .int (nI rc)), (2, .int (nI ou)), (3, .int (nI j)), (4, .int (nI (nd (2 ^ (a 3) - 1) (a 9))))]) hx hb dX1_cheapestOn_88 hl (k := 7) rfl (qn_inc _) (by decide) rfl (fun ls hl => ?_)
                  refine lv_goto (tgt := 12) hx hb dX1_cheapestOn_91 (by decide) ?_
                  exact ih12 (k + 1) (some j) (by omega) (by omega) (by rw [chS, ho]; exact if_neg (fun h => absurd h.2 (by omega))) _ _ hP hD hS ls (lv_sub hl [3, 4, 5, 6, 7, 0] rfl)
                · refine lv_iload hx hb dX1_cheapestOn_85 (lv_at hl 7 rfl) ?_
                  refine lv_istore_n (lv' := [(3, .int (nI k)), (7, .int (nI 1)), (6, .int (nI (edg (r 0) (r 1) k))), (0, .ref (ad 0)), (1, .int (nI rc)), (2, .int (nI ou)), (4, .int (nI (nd (2 ^ (a 3) - 1) (a 9)))), (5, .int (nI k))]) hx hb dX1_cheapestOn_87 rfl hl (by decide) rfl (fun ls hl => ?_)
                  refine lv_iinc (v := (nI (k + 1))) (lv' := [(5, .int (nI (k + 1))), (3, .int (nI k)), (7, .int (nI 1)), (6, .int (nI (edg (r 0) (r 1) k))), (0, .ref (ad 0)), (1, .int (nI rc)), (2, .int (nI ou)), (4, .int (nI (nd (2 ^ (a 3) - 1) (a 9))))]) hx hb dX1_cheapestOn_88 hl (k := 7) rfl (qn_inc _) (by decide) rfl (fun ls hl => ?_)
                  refine lv_goto (tgt := 12) hx hb dX1_cheapestOn_91 (by decide) ?_
                  exact ih12 (k + 1) (some k) (by omega) (by omega) (by rw [chS, ho]; exact if_pos ⟨⟨c36, c43, c50⟩, c82⟩) _ _ hP hD hS ls (lv_sub hl [4, 5, 6, 1, 7, 0] rfl)
  exact lp12 _ 0 none (Nat.lt_succ_self _) (Nat.zero_le _) rfl _ _ hP hD hS ls (lv_sub hl [3, 4, 5, 2, 1, 0] rfl)

theorem hdX1_grow : hdOK yX1_grow 2 := by decide +kernel
set_option maxHeartbeats 4000000 in
set_option maxRecDepth 100000 in
theorem mX1_grow (l : Launch) (G : GG) (ad : Nat → Nat) (a : Nat → Nat) (r : Nat → Nat → Nat) (ov : Nat) (hT : TB a r) (hov : ov < 128) : Mi l yX1_grow cX1_grow 6 (some .int) (rmN 2 48) G [.ref (ad 0), .int (nI ov)] (tkw G ad a r) (fun (r9 : Int32) (_ : Unit) => r9 = (nI (gwA a r ov))) (fun (_ : Unit) => tkw G ad a r) := by
  refine Mi.of (cc := cX1_grow) (nL := 6) (by decide) (Nat.le_of_ble_eq_true rfl) ?_
  intro p e s m below meth c A ls F hr hlocks hnm hX hA hD hP hS hl
  have F : CallFix p m c cX1_grow 6 s [.ref (ad 0), .int (nI ov)].toArray wA RX1 := F
  obtain ⟨hx, hb, hml, hown, hts⟩ := id F
  have hl : lv_has ls 6 [(0, .ref (ad 0)), (1, .int (nI ov))] := hl
  obtain ⟨t0, t1, t2, t3, t4, t5, t6, t7, t8, t9, t10, t11, t12⟩ := id hT
  have hz : 2 ^ a 1 < 128 := pw_lt (n := 7) (by omega)
  refine lv_iconst (v := (nI 0)) hx hb dX1_grow_0 (by decide) ?_
  refine lv_istore_n (lv' := [(2, .int (nI 0)), (0, .ref (ad 0)), (1, .int (nI ov))]) hx hb dX1_grow_1 rfl hl (by decide) rfl (fun ls hl => ?_)
  refine lv_iconst (v := (nI 1)) hx hb dX1_grow_2 (by decide) ?_
  refine lv_aload_n hx hb dX1_grow_3 rfl (lv_at hl 1 rfl) ?_
  refine va_get (D := G.1) (ci := 3) (v := .int (nI (a 1))) (C := RX4) (T := TX4) (N := 12) hx hb hts inA4 hown hX.1 hP 0 rfl rfl 1 (by decide) (hts _ kw_68) (fun _ h9 => h9) rfl dX1_grow_4 ?_
  refine lv_ishl hx hb dX1_grow_7 (ti (y := (nI (2 ^ (a 1)))) (qn_sh1 (by omega)) ?_)
  refine lv_istore_n (lv' := [(3, .int (nI (2 ^ (a 1)))), (2, .int (nI 0)), (0, .ref (ad 0)), (1, .int (nI ov))]) hx hb dX1_grow_8 rfl hl (by decide) rfl (fun ls hl => ?_)
  refine lv_iconst (v := (nI 1)) hx hb dX1_grow_9 (by decide) ?_
  refine lv_istore (lv' := [(4, .int (nI 1)), (3, .int (nI (2 ^ (a 1)))), (2, .int (nI 0)), (0, .ref (ad 0)), (1, .int (nI ov))]) hx hb dX1_grow_10 hl (by decide) rfl (fun ls hl => ?_)
  have lp12 : ∀ (n12 : Nat) (q : Nat) (set : Nat) (rc : Nat), (a 0 - q) < n12 → (q + 1 ≤ a 0) → (set < 4096) → (rc < 128) → (gwN (r 0) (r 1) (r 2) (upA a) (a 3) ov (a 0 - (q + 1)) set rc = gwA a r ov) → ∀ (H : Heap) (locs : List Loc), va_P G.1 vwCl (tkw G ad a r) H → va_D A (tkw G ad a r) → va_S A s.heap H locs → ∀ (ls : Array Slot), lv_has ls 6 [(0, .ref (ad 0)), (1, .int (nI ov)), (2, .int (nI set)), (3, .int (nI rc)), (4, .int (nI (q + 1)))] → WI p l e (rmN 2 48) s m [.ref (ad 0), .int (nI ov)] below meth c H locs G A (fun (r9 : Int32) (_ : Unit) => r9 = (nI (gwA a r ov))) (fun (_ : Unit) => tkw G ad a r) (F0 m 12 ls []) := by
    intro n12
    induction n12 with
    | zero => intro q set rc h9; exact absurd h9 (Nat.not_lt_zero _)
    | succ n12 ih12 =>
      intro q set rc hm12  hq hs hrc hres H locs hP hD hS ls hl
      refine lv_iload hx hb dX1_grow_12 (lv_at hl 4 rfl) ?_
      refine lv_aload_n hx hb dX1_grow_14 rfl (lv_at hl 0 rfl) ?_
      refine va_get (D := G.1) (ci := 3) (v := .int (nI (a 0))) (C := RX4) (T := TX4) (N := 12) hx hb hts inA4 hown hX.1 hP 0 rfl rfl 0 (by decide) (hts _ kw_63) (fun _ h9 => h9) rfl dX1_grow_15 ?_
      refine nv_ge (x := q + 1) (y := a 0) (tgt := 63) hx hb dX1_grow_18 (by decide) (by omega) (by omega) (fun c18 => ?_) (fun c18 => ?_)
      · refine lv_iload_n hx hb dX1_grow_63 rfl (lv_at hl 2 rfl) ?_
        exact re_i (v := (nI set)) hx hb hr hlocks hS () hP hD (by have e9 : a 0 - (q + 1) = 0 := (by omega); rw [e9] at hres; rw [← hres]; rfl) dX1_grow_64
      · refine lv_aload_n hx hb dX1_grow_21 rfl (lv_at hl 0 rfl) ?_
        refine lv_iload_n hx hb dX1_grow_22 rfl (lv_at hl 3 rfl) ?_
        refine lv_iload_n hx hb dX1_grow_23 rfl (lv_at hl 1 rfl) ?_
        refine lv_iload_n hx hb dX1_grow_24 rfl (lv_at hl 3 rfl) ?_
        refine lv_iconst (v := (-1)) hx hb dX1_grow_25 (by decide) ?_
        refine lv_ixor hx hb dX1_grow_26 ?_
        refine lv_iand hx hb dX1_grow_27 (ti (y := (nI (nd ov rc))) (qn_andn _ _) ?_)
        refine ca_Si (rest := []) (wr := ([] : va_W)) F hX (mX1_cheapestOn l G ad a r rc (nd ov rc) hT hrc (by have := nd_le ov rc; omega)) (cA_S hts kw_607 kw_17 kw_605 kw_606 hdX1_cheapestOn ⟨Nat.le_of_ble_eq_true rfl, Nat.le_of_ble_eq_true rfl⟩) rfl hl.1 rfl (Nat.le_of_ble_eq_true rfl) dX1_grow_28 ⟨Nat.le_of_ble_eq_true rfl, Nat.le_of_ble_eq_true rfl⟩ hP hD hS hA (pm_nil _) (fun r28 u28 H locs hp28 hP hD hS => ?_)
        have hP : va_P G.1 vwCl (tkw G ad a r) H := wp_pm (pm_nil _).symm hP
        have hD : va_D A (tkw G ad a r) := wd_pm (pm_nil _).symm hD
        subst hp28
        rcases hj : chS (r 0) (r 1) (r 2) (upA a) rc (nd ov rc) (a 3) with _ | j
        · refine ti (y := -9) rfl ?_
          refine lv_istore (lv' := [(5, .int (-9)), (0, .ref (ad 0)), (1, .int (nI ov)), (2, .int (nI set)), (3, .int (nI rc)), (4, .int (nI (q + 1)))]) hx hb dX1_grow_31 hl (by decide) rfl (fun ls hl => ?_)
          refine lv_iload hx hb dX1_grow_33 (lv_at hl 0 rfl) ?_
          refine lv_if_ge (x := (-9)) (tgt := 41) hx hb dX1_grow_35 (by decide) (fun c35 => ?_) (fun c35 => ?_)
          · exact absurd c35 (by decide)
          · refine lv_goto (tgt := 63) hx hb dX1_grow_38 (by decide) ?_
            refine lv_iload_n hx hb dX1_grow_63 rfl (lv_at hl 3 rfl) ?_
            exact re_i (v := (nI set)) hx hb hr hlocks hS () hP hD (by have e9 : a 0 - (q + 1) = (a 0 - (q + 1) - 1) + 1 := (by omega); rw [e9, gwN, hj] at hres; rw [← hres]) dX1_grow_64
        · refine ti (y := nI j) rfl ?_
          have hlj := (chS_lt hj).1
          refine lv_istore (lv' := [(5, .int (nI j)), (0, .ref (ad 0)), (1, .int (nI ov)), (2, .int (nI set)), (3, .int (nI rc)), (4, .int (nI (q + 1)))]) hx hb dX1_grow_31 hl (by decide) rfl (fun ls hl => ?_)
          refine lv_iload hx hb dX1_grow_33 (lv_at hl 0 rfl) ?_
          refine nv_zge (x := j) (tgt := 41) hx hb dX1_grow_35 (by decide) (by omega) ?_
          refine lv_iload_n hx hb dX1_grow_41 rfl (lv_at hl 3 rfl) ?_
          refine lv_iconst (v := (nI 1)) hx hb dX1_grow_42 (by decide) ?_
          refine lv_iload hx hb dX1_grow_43 (lv_at hl 0 rfl) ?_
          refine lv_ishl hx hb dX1_grow_45 (ti (y := (nI (2 ^ j))) (qn_sh1 (by omega)) ?_)
          refine lv_ior hx hb dX1_grow_46 (ti (y := (nI (set ||| (2 ^ j)))) (qn_or _ _) ?_)
          refine lv_istore_n (lv' := [(2, .int (nI (set ||| (2 ^ j)))), (5, .int (nI j)), (0, .ref (ad 0)), (1, .int (nI ov)), (3, .int (nI rc)), (4, .int (nI (q + 1)))]) hx hb dX1_grow_47 rfl hl (by decide) rfl (fun ls hl => ?_)
          refine lv_iload_n hx hb dX1_grow_48 rfl (lv_at hl 4 rfl) ?_
          refine lv_aload_n hx hb dX1_grow_49 rfl (lv_at hl 2 rfl) ?_
          refine lv_iload hx hb dX1_grow_50 (lv_at hl 1 rfl) ?_
          refine ca_Vi (ci := 3) (q := (RX4, TX4, 12)) (rest := [.int (nI rc)]) (wr := ([] : va_W)) F hX (mX4_ends l G ad a r j hT (by omega)) (cA_V hts kw_354 kw_3 kw_609 kw_352 kw_353 hdX4_ends ⟨Nat.le_of_ble_eq_true rfl, Nat.le_of_ble_eq_true rfl⟩) rfl rfl rfl hl.1 rfl (Nat.le_of_ble_eq_true rfl) dX1_grow_52 ⟨Nat.le_of_ble_eq_true rfl, Nat.le_of_ble_eq_true rfl⟩ hP hD hS hA (pm_nil _) (fun r52 u52 H locs hp52 hP hD hS => ?_)
          have hP : va_P G.1 vwCl (tkw G ad a r) H := wp_pm (pm_nil _).symm hP
          have hD : va_D A (tkw G ad a r) := wd_pm (pm_nil _).symm hD
          subst hp52
          refine lv_ior hx hb dX1_grow_55 (ti (y := (nI (rc ||| (edg (r 0) (r 1) j)))) (qn_or _ _) ?_)
          refine lv_istore_n (lv' := [(3, .int (nI (rc ||| (edg (r 0) (r 1) j)))), (2, .int (nI (set ||| (2 ^ j)))), (5, .int (nI j)), (0, .ref (ad 0)), (1, .int (nI ov)), (4, .int (nI (q + 1)))]) hx hb dX1_grow_56 rfl hl (by decide) rfl (fun ls hl => ?_)
          refine lv_iinc (v := (nI ((q + 1) + 1))) (lv' := [(4, .int (nI ((q + 1) + 1))), (3, .int (nI (rc ||| (edg (r 0) (r 1) j)))), (2, .int (nI (set ||| (2 ^ j)))), (5, .int (nI j)), (0, .ref (ad 0)), (1, .int (nI ov))]) hx hb dX1_grow_57 hl (k := 5) rfl (qn_inc _) (by decide) rfl (fun ls hl => ?_)
          refine lv_goto (tgt := 12) hx hb dX1_grow_60 (by decide) ?_
          exact ih12 (q + 1) (set ||| (2 ^ j)) (rc ||| (edg (r 0) (r 1) j)) (by omega) (by omega) (or_lt (n := 12) hs (pw_lt (by omega))) (or_lt (n := 7) hrc (edg_lt t5 t6 j)) (by have e9 : a 0 - (q + 1) = (a 0 - (q + 1 + 1)) + 1 := (by omega); rw [e9, gwN, hj] at hres; exact hres) _ _ hP hD hS ls (lv_sub hl [4, 5, 2, 1, 0] rfl)
  exact lp12 _ 0 0 (2 ^ (a 1)) (Nat.lt_succ_self _) (by omega) (by decide) hz rfl _ _ hP hD hS ls (lv_sub hl [3, 4, 2, 1, 0] rfl)

theorem hdX1_isLess : hdOK yX1_isLess 3 := by decide +kernel
set_option maxHeartbeats 4000000 in
set_option maxRecDepth 100000 in
theorem mX1_isLess (l : Launch) (G : GG) (ad : Nat → Nat) (a : Nat → Nat) (r : Nat → Nat → Nat) (x y : Nat) (hT : TB a r) (hx9 : x < 4096) (hy9 : y < 4096) : Mi l yX1_isLess cX1_isLess 4 (some .boolean) (rmN 2 44) G [.ref (ad 0), .int (nI x), .int (nI y)] (tkw G ad a r) (fun (r9 : Int32) (_ : Unit) => r9 = (bI (lsB a r x y))) (fun (_ : Unit) => tkw G ad a r) := by
  refine Mi.of (cc := cX1_isLess) (nL := 4) (by decide) (Nat.le_of_ble_eq_true rfl) ?_
  intro p e s m below meth c A ls F hr hlocks hnm hX hA hD hP hS hl
  have F : CallFix p m c cX1_isLess 4 s [.ref (ad 0), .int (nI x), .int (nI y)].toArray wA RX1 := F
  obtain ⟨hx, hb, hml, hown, hts⟩ := id F
  have hl : lv_has ls 4 [(0, .ref (ad 0)), (1, .int (nI x)), (2, .int (nI y))] := hl
  obtain ⟨t0, t1, t2, t3, t4, t5, t6, t7, t8, t9, t10, t11, t12⟩ := id hT
  refine lv_aload_n hx hb dX1_isLess_0 rfl (lv_at hl 0 rfl) ?_
  refine lv_iload_n hx hb dX1_isLess_1 rfl (lv_at hl 1 rfl) ?_
  refine ca_Vi (ci := 3) (q := (RX4, TX4, 12)) (rest := []) (wr := ([] : va_W)) F hX (mX4_costOf l G ad a r x hT (by omega)) (cA_V hts kw_487 kw_3 kw_615 kw_485 kw_486 hdX4_costOf ⟨Nat.le_of_ble_eq_true rfl, Nat.le_of_ble_eq_true rfl⟩) rfl rfl rfl hl.1 rfl (Nat.le_of_ble_eq_true rfl) dX1_isLess_2 ⟨Nat.le_of_ble_eq_true rfl, Nat.le_of_ble_eq_true rfl⟩ hP hD hS hA (pm_nil _) (fun r2 u2 H locs hp2 hP hD hS => ?_)
  have hP : va_P G.1 vwCl (tkw G ad a r) H := wp_pm (pm_nil _).symm hP
  have hD : va_D A (tkw G ad a r) := wd_pm (pm_nil _).symm hD
  subst hp2
  refine lv_aload_n hx hb dX1_isLess_5 rfl (lv_at hl 0 rfl) ?_
  refine lv_iload_n hx hb dX1_isLess_6 rfl (lv_at hl 2 rfl) ?_
  refine ca_Vi (ci := 3) (q := (RX4, TX4, 12)) (rest := [.int (nI (cst (r 2) x (a 3)))]) (wr := ([] : va_W)) F hX (mX4_costOf l G ad a r y hT (by omega)) (cA_V hts kw_487 kw_3 kw_615 kw_485 kw_486 hdX4_costOf ⟨Nat.le_of_ble_eq_true rfl, Nat.le_of_ble_eq_true rfl⟩) rfl rfl rfl hl.1 rfl (Nat.le_of_ble_eq_true rfl) dX1_isLess_7 ⟨Nat.le_of_ble_eq_true rfl, Nat.le_of_ble_eq_true rfl⟩ hP hD hS hA (pm_nil _) (fun r7 u7 H locs hp7 hP hD hS => ?_)
  have hP : va_P G.1 vwCl (tkw G ad a r) H := wp_pm (pm_nil _).symm hP
  have hD : va_D A (tkw G ad a r) := wd_pm (pm_nil _).symm hD
  subst hp7
  refine lv_isub hx hb dX1_isLess_10 (ti (y := ((nI (cst (r 2) x (a 3))) - (nI (cst (r 2) y (a 3))))) rfl ?_)
  refine lv_istore_n (lv' := [(3, .int ((nI (cst (r 2) x (a 3))) - (nI (cst (r 2) y (a 3))))), (0, .ref (ad 0)), (1, .int (nI x)), (2, .int (nI y))]) hx hb dX1_isLess_11 rfl hl (by decide) rfl (fun ls hl => ?_)
  refine lv_iload_n hx hb dX1_isLess_12 rfl (lv_at hl 0 rfl) ?_
  refine lv_if_lt (x := ((nI (cst (r 2) x (a 3))) - (nI (cst (r 2) y (a 3))))) (tgt := 25) hx hb dX1_isLess_13 (by decide) (fun c13 => ?_) (fun c13 => ?_)
  · refine lv_iconst (v := (nI 1)) hx hb dX1_isLess_25 (by decide) ?_
    refine lv_goto (tgt := 30) hx hb dX1_isLess_26 (by decide) ?_
    exact re_z (v := (nI 1)) hx hb hr hlocks hS () hP hD (by rw [lsB, decide_eq_true (Or.inl ((ls_lt (coA_le hT x) (coA_le hT y)).mp c13))]; rfl) (by decide) dX1_isLess_30
  · refine lv_iload_n hx hb dX1_isLess_16 rfl (lv_at hl 0 rfl) ?_
    refine lv_if_ne (x := ((nI (cst (r 2) x (a 3))) - (nI (cst (r 2) y (a 3))))) (tgt := 29) hx hb dX1_isLess_17 (by decide) (fun c17 => ?_) (fun c17 => ?_)
    · refine lv_iconst (v := (nI 0)) hx hb dX1_isLess_29 (by decide) ?_
      exact re_z (v := (nI 0)) hx hb hr hlocks hS () hP hD (by rw [lsB, decide_eq_false (fun h => h.elim (fun h => c13 ((ls_lt (coA_le hT x) (coA_le hT y)).mpr h)) (fun h => c17 ((ls_eq (coA_le hT x) (coA_le hT y)).mpr h.1)))]; rfl) (by decide) dX1_isLess_30
    · refine lv_iload_n hx hb dX1_isLess_20 rfl (lv_at hl 2 rfl) ?_
      refine lv_iload_n hx hb dX1_isLess_21 rfl (lv_at hl 3 rfl) ?_
      refine nv_ge (x := x) (y := y) (tgt := 29) hx hb dX1_isLess_22 (by decide) (by omega) (by omega) (fun c22 => ?_) (fun c22 => ?_)
      · refine lv_iconst (v := (nI 0)) hx hb dX1_isLess_29 (by decide) ?_
        exact re_z (v := (nI 0)) hx hb hr hlocks hS () hP hD (by rw [lsB, decide_eq_false (fun h => h.elim (fun h => c13 ((ls_lt (coA_le hT x) (coA_le hT y)).mpr h)) (fun h => absurd h.2 (by omega)))]; rfl) (by decide) dX1_isLess_30
      · refine lv_iconst (v := (nI 1)) hx hb dX1_isLess_25 (by decide) ?_
        refine lv_goto (tgt := 30) hx hb dX1_isLess_26 (by decide) ?_
        exact re_z (v := (nI 1)) hx hb hr hlocks hS () hP hD (by rw [lsB, decide_eq_true (Or.inr ⟨(ls_eq (coA_le hT x) (coA_le hT y)).mp c17, c22⟩)]; rfl) (by decide) dX1_isLess_30

theorem hdX1_of : hdOK yX1_of 1 := by decide +kernel
set_option maxHeartbeats 4000000 in
set_option maxRecDepth 100000 in
theorem mX1_of (l : Launch) (G : GG) (ad : Nat → Nat) (a : Nat → Nat) (r : Nat → Nat → Nat) (hT : TB a r) : Mi l yX1_of cX1_of 5 (some .int) (rmN 3 73) G [.ref (ad 0)] (tkw G ad a r) (fun (r9 : Int32) (_ : Unit) => r9 = (nI (ofA a r))) (fun (_ : Unit) => tkw G ad a r) := by
  refine Mi.of (cc := cX1_of) (nL := 5) (by decide) (Nat.le_of_ble_eq_true rfl) ?_
  intro p e s m below meth c A ls F hr hlocks hnm hX hA hD hP hS hl
  have F : CallFix p m c cX1_of 5 s [.ref (ad 0)].toArray wA RX1 := F
  obtain ⟨hx, hb, hml, hown, hts⟩ := id F
  have hl : lv_has ls 5 [(0, .ref (ad 0))] := hl
  obtain ⟨t0, t1, t2, t3, t4, t5, t6, t7, t8, t9, t10, t11, t12⟩ := id hT
  have hz : 2 ^ a 1 < 128 := pw_lt (n := 7) (by omega)
  have hwn : a 7 ||| 2 ^ a 1 < 128 := or_lt (n := 7) t8 hz
  have hpw : 2 ^ a 0 ≤ 2 ^ 7 := Nat.pow_le_pow_right (by decide) t1
  refine lv_aload_n hx hb dX1_of_0 rfl (lv_at hl 0 rfl) ?_
  refine va_get (D := G.1) (ci := 3) (v := .int (nI (a 7))) (C := RX4) (T := TX4) (N := 12) hx hb hts inA4 hown hX.1 hP 0 rfl rfl 7 (by decide) (hts _ kw_92) (fun _ h9 => h9) rfl dX1_of_1 ?_
  refine lv_iconst (v := (nI 1)) hx hb dX1_of_4 (by decide) ?_
  refine lv_aload_n hx hb dX1_of_5 rfl (lv_at hl 0 rfl) ?_
  refine va_get (D := G.1) (ci := 3) (v := .int (nI (a 1))) (C := RX4) (T := TX4) (N := 12) hx hb hts inA4 hown hX.1 hP 0 rfl rfl 1 (by decide) (hts _ kw_68) (fun _ h9 => h9) rfl dX1_of_6 ?_
  refine lv_ishl hx hb dX1_of_9 (ti (y := (nI (2 ^ (a 1)))) (qn_sh1 (by omega)) ?_)
  refine lv_ior hx hb dX1_of_10 (ti (y := (nI ((a 7) ||| (2 ^ (a 1))))) (qn_or _ _) ?_)
  refine lv_istore_n (lv' := [(1, .int (nI ((a 7) ||| (2 ^ (a 1))))), (0, .ref (ad 0))]) hx hb dX1_of_11 rfl hl (by decide) rfl (fun ls hl => ?_)
  refine lv_aload_n hx hb dX1_of_12 rfl (lv_at hl 1 rfl) ?_
  refine va_get (D := G.1) (ci := 3) (v := .int (nI (a 8))) (C := RX4) (T := TX4) (N := 12) hx hb hts inA4 hown hX.1 hP 0 rfl rfl 8 (by decide) (hts _ kw_97) (fun _ h9 => h9) rfl dX1_of_13 ?_
  refine lv_istore_n (lv' := [(2, .int (nI (a 8))), (1, .int (nI ((a 7) ||| (2 ^ (a 1))))), (0, .ref (ad 0))]) hx hb dX1_of_16 rfl hl (by decide) rfl (fun ls hl => ?_)
  refine lv_iload_n hx hb dX1_of_17 rfl (lv_at hl 1 rfl) ?_
  refine ti (y := (nI ((a 7 ||| 2 ^ a 1) + 0))) rfl ?_
  refine lv_istore_n (lv' := [(3, .int (nI ((a 7 ||| 2 ^ a 1) + 0))), (2, .int (nI (a 8))), (1, .int (nI ((a 7) ||| (2 ^ (a 1))))), (0, .ref (ad 0))]) hx hb dX1_of_18 rfl hl (by decide) rfl (fun ls hl => ?_)
  have lp19 : ∀ (n19 : Nat) (i : Nat) (t : Nat), (2 ^ a 0 - i) < n19 → t = ofN a r i → (i ≤ 2 ^ a 0 - (a 7 ||| 2 ^ a 1)) → ∀ (H : Heap) (locs : List Loc), va_P G.1 vwCl (tkw G ad a r) H → va_D A (tkw G ad a r) → va_S A s.heap H locs → ∀ (ls : Array Slot), lv_has ls 5 [(0, .ref (ad 0)), (1, .int (nI (a 7 ||| 2 ^ a 1))), (2, .int (nI t)), (3, .int (nI ((a 7 ||| 2 ^ a 1) + i)))] → WI p l e (rmN 3 73) s m [.ref (ad 0)] below meth c H locs G A (fun (r9 : Int32) (_ : Unit) => r9 = (nI (ofA a r))) (fun (_ : Unit) => tkw G ad a r) (F0 m 19 ls []) := by
    intro n19
    induction n19 with
    | zero => intro i t h9; exact absurd h9 (Nat.not_lt_zero _)
    | succ n19 ih19 =>
      intro i t hm19 e_t hi H locs hP hD hS ls hl
      subst e_t
      refine lv_iload_n hx hb dX1_of_19 rfl (lv_at hl 3 rfl) ?_
      refine lv_iconst (v := (nI 1)) hx hb dX1_of_20 (by decide) ?_
      refine lv_aload_n hx hb dX1_of_21 rfl (lv_at hl 0 rfl) ?_
      refine va_get (D := G.1) (ci := 3) (v := .int (nI (a 0))) (C := RX4) (T := TX4) (N := 12) hx hb hts inA4 hown hX.1 hP 0 rfl rfl 0 (by decide) (hts _ kw_63) (fun _ h9 => h9) rfl dX1_of_22 ?_
      refine lv_ishl hx hb dX1_of_25 (ti (y := (nI (2 ^ (a 0)))) (qn_sh1 (by omega)) ?_)
      refine nv_ge (x := (a 7 ||| 2 ^ a 1) + i) (y := 2 ^ (a 0)) (tgt := 72) hx hb dX1_of_26 (by decide) (by omega) (by omega) (fun c26 => ?_) (fun c26 => ?_)
      · refine lv_iload_n hx hb dX1_of_72 rfl (lv_at hl 2 rfl) ?_
        exact re_i (v := (nI (ofN a r i))) hx hb hr hlocks hS () hP hD (by have e9 : i = 2 ^ a 0 - (a 7 ||| 2 ^ a 1) := (by omega); rw [e9]; rfl) dX1_of_73
      · refine lv_iload_n hx hb dX1_of_29 rfl (lv_at hl 3 rfl) ?_
        refine lv_iload_n hx hb dX1_of_30 rfl (lv_at hl 1 rfl) ?_
        refine lv_iand hx hb dX1_of_31 (ti (y := (nI (((a 7 ||| 2 ^ a 1) + i) &&& (a 7 ||| 2 ^ a 1)))) (qn_and _ _) ?_)
        refine lv_iload_n hx hb dX1_of_32 rfl (lv_at hl 1 rfl) ?_
        refine nv_ne (x := ((a 7 ||| 2 ^ a 1) + i) &&& (a 7 ||| 2 ^ a 1)) (y := a 7 ||| 2 ^ a 1) (tgt := 66) hx hb dX1_of_33 (by decide) (by have := Nat.and_le_right (n := (a 7 ||| 2 ^ a 1) + i) (m := a 7 ||| 2 ^ a 1); omega) (by omega) (fun c33 => ?_) (fun c33 => ?_)
        · refine lv_iinc (v := (nI (((a 7 ||| 2 ^ a 1) + i) + 1))) (lv' := [(3, .int (nI (((a 7 ||| 2 ^ a 1) + i) + 1))), (0, .ref (ad 0)), (1, .int (nI (a 7 ||| 2 ^ a 1))), (2, .int (nI (ofN a r i)))]) hx hb dX1_of_66 hl (k := 3) rfl (qn_inc _) (by decide) rfl (fun ls hl => ?_)
          refine lv_goto (tgt := 19) hx hb dX1_of_69 (by decide) ?_
          exact ih19 (i + 1) (ofN a r i) (by omega) (by rw [ofN, if_neg (fun h => c33 h.1)]) (by omega) _ _ hP hD hS ls (lv_sub hl [1, 2, 3, 0] rfl)
        · refine lv_aload_n hx hb dX1_of_36 rfl (lv_at hl 0 rfl) ?_
          refine lv_iload_n hx hb dX1_of_37 rfl (lv_at hl 3 rfl) ?_
          refine ca_Si (rest := []) (wr := ([] : va_W)) F hX (mX1_grow l G ad a r ((a 7 ||| 2 ^ a 1) + i) hT (by omega)) (cA_S hts kw_604 kw_17 kw_602 kw_603 hdX1_grow ⟨Nat.le_of_ble_eq_true rfl, Nat.le_of_ble_eq_true rfl⟩) rfl hl.1 rfl (Nat.le_of_ble_eq_true rfl) dX1_of_38 ⟨Nat.le_of_ble_eq_true rfl, Nat.le_of_ble_eq_true rfl⟩ hP hD hS hA (pm_nil _) (fun r38 u38 H locs hp38 hP hD hS => ?_)
          have hP : va_P G.1 vwCl (tkw G ad a r) H := wp_pm (pm_nil _).symm hP
          have hD : va_D A (tkw G ad a r) := wd_pm (pm_nil _).symm hD
          subst hp38
          refine lv_istore (lv' := [(4, .int (nI (gwA a r ((a 7 ||| 2 ^ a 1) + i)))), (0, .ref (ad 0)), (1, .int (nI (a 7 ||| 2 ^ a 1))), (2, .int (nI (ofN a r i))), (3, .int (nI ((a 7 ||| 2 ^ a 1) + i)))]) hx hb dX1_of_41 hl (by decide) rfl (fun ls hl => ?_)
          refine lv_aload_n hx hb dX1_of_43 rfl (lv_at hl 1 rfl) ?_
          refine lv_iload hx hb dX1_of_44 (lv_at hl 0 rfl) ?_
          refine ca_Vi (ci := 3) (q := (RX4, TX4, 12)) (rest := []) (wr := ([] : va_W)) F hX (mX4_nodesOf l G ad a r (gwA a r ((a 7 ||| 2 ^ a 1) + i)) hT (gwA_lt hT _)) (cA_V hts kw_413 kw_3 kw_611 kw_411 kw_412 hdX4_nodesOf ⟨Nat.le_of_ble_eq_true rfl, Nat.le_of_ble_eq_true rfl⟩) rfl rfl rfl hl.1 rfl (Nat.le_of_ble_eq_true rfl) dX1_of_46 ⟨Nat.le_of_ble_eq_true rfl, Nat.le_of_ble_eq_true rfl⟩ hP hD hS hA (pm_nil _) (fun r46 u46 H locs hp46 hP hD hS => ?_)
          have hP : va_P G.1 vwCl (tkw G ad a r) H := wp_pm (pm_nil _).symm hP
          have hD : va_D A (tkw G ad a r) := wd_pm (pm_nil _).symm hD
          subst hp46
          refine lv_iload_n hx hb dX1_of_49 rfl (lv_at hl 4 rfl) ?_
          refine nv_ne (x := nof (r 0) (r 1) (a 1) (gwA a r ((a 7 ||| 2 ^ a 1) + i)) (a 3)) (y := (a 7 ||| 2 ^ a 1) + i) (tgt := 66) hx hb dX1_of_50 (by decide) (by have := nof_lt t5 t6 (src := a 1) (by omega) (gwA a r ((a 7 ||| 2 ^ a 1) + i)) (a 3); omega) (by omega) (fun c50 => ?_) (fun c50 => ?_)
          · refine lv_iinc (v := (nI (((a 7 ||| 2 ^ a 1) + i) + 1))) (lv' := [(3, .int (nI (((a 7 ||| 2 ^ a 1) + i) + 1))), (4, .int (nI (gwA a r ((a 7 ||| 2 ^ a 1) + i)))), (0, .ref (ad 0)), (1, .int (nI (a 7 ||| 2 ^ a 1))), (2, .int (nI (ofN a r i)))]) hx hb dX1_of_66 hl (k := 4) rfl (qn_inc _) (by decide) rfl (fun ls hl => ?_)
            refine lv_goto (tgt := 19) hx hb dX1_of_69 (by decide) ?_
            exact ih19 (i + 1) (ofN a r i) (by omega) (by rw [ofN, if_neg (fun h => c50 h.2.1)]) (by omega) _ _ hP hD hS ls (lv_sub hl [2, 3, 4, 0] rfl)
          · refine lv_aload_n hx hb dX1_of_53 rfl (lv_at hl 1 rfl) ?_
            refine lv_iload hx hb dX1_of_54 (lv_at hl 0 rfl) ?_
            refine lv_iload_n hx hb dX1_of_56 rfl (lv_at hl 3 rfl) ?_
            refine ca_Si (rest := []) (wr := ([] : va_W)) F hX (mX1_isLess l G ad a r (gwA a r ((a 7 ||| 2 ^ a 1) + i)) (ofN a r i) hT (gwA_lt hT _) (ofN_lt hT _)) (cA_S hts kw_614 kw_17 kw_612 kw_613 hdX1_isLess ⟨Nat.le_of_ble_eq_true rfl, Nat.le_of_ble_eq_true rfl⟩) rfl hl.1 rfl (Nat.le_of_ble_eq_true rfl) dX1_of_57 ⟨Nat.le_of_ble_eq_true rfl, Nat.le_of_ble_eq_true rfl⟩ hP hD hS hA (pm_nil _) (fun r57 u57 H locs hp57 hP hD hS => ?_)
            have hP : va_P G.1 vwCl (tkw G ad a r) H := wp_pm (pm_nil _).symm hP
            have hD : va_D A (tkw G ad a r) := wd_pm (pm_nil _).symm hD
            subst hp57
            refine bv_eq (b := lsB a r (gwA a r ((a 7 ||| 2 ^ a 1) + i)) (ofN a r i)) (tgt := 66) hx hb dX1_of_60 (by decide) (fun c60 => ?_) (fun c60 => ?_)
            · refine lv_iinc (v := (nI (((a 7 ||| 2 ^ a 1) + i) + 1))) (lv' := [(3, .int (nI (((a 7 ||| 2 ^ a 1) + i) + 1))), (4, .int (nI (gwA a r ((a 7 ||| 2 ^ a 1) + i)))), (0, .ref (ad 0)), (1, .int (nI (a 7 ||| 2 ^ a 1))), (2, .int (nI (ofN a r i)))]) hx hb dX1_of_66 hl (k := 4) rfl (qn_inc _) (by decide) rfl (fun ls hl => ?_)
              refine lv_goto (tgt := 19) hx hb dX1_of_69 (by decide) ?_
              exact ih19 (i + 1) (ofN a r i) (by omega) (by rw [ofN, if_neg (fun h => by rw [c60] at h; exact absurd h.2.2 (by decide))]) (by omega) _ _ hP hD hS ls (lv_sub hl [2, 3, 4, 0] rfl)
            · refine lv_iload hx hb dX1_of_63 (lv_at hl 0 rfl) ?_
              refine lv_istore_n (lv' := [(2, .int (nI (gwA a r ((a 7 ||| 2 ^ a 1) + i)))), (4, .int (nI (gwA a r ((a 7 ||| 2 ^ a 1) + i)))), (0, .ref (ad 0)), (1, .int (nI (a 7 ||| 2 ^ a 1))), (3, .int (nI ((a 7 ||| 2 ^ a 1) + i)))]) hx hb dX1_of_65 rfl hl (by decide) rfl (fun ls hl => ?_)
              refine lv_iinc (v := (nI (((a 7 ||| 2 ^ a 1) + i) + 1))) (lv' := [(3, .int (nI (((a 7 ||| 2 ^ a 1) + i) + 1))), (2, .int (nI (gwA a r ((a 7 ||| 2 ^ a 1) + i)))), (4, .int (nI (gwA a r ((a 7 ||| 2 ^ a 1) + i)))), (0, .ref (ad 0)), (1, .int (nI (a 7 ||| 2 ^ a 1)))]) hx hb dX1_of_66 hl (k := 4) rfl (qn_inc _) (by decide) rfl (fun ls hl => ?_)
              refine lv_goto (tgt := 19) hx hb dX1_of_69 (by decide) ?_
              exact ih19 (i + 1) (gwA a r ((a 7 ||| 2 ^ a 1) + i)) (by omega) (by rw [ofN, if_pos ⟨c33, c50, c60⟩]) (by omega) _ _ hP hD hS ls (lv_sub hl [3, 4, 1, 0] rfl)
  exact lp19 _ 0 (a 8) (Nat.lt_succ_self _) rfl (Nat.zero_le _) _ _ hP hD hS ls (lv_sub hl [3, 2, 1, 0] rfl)

theorem hdX0_cut : hdOK yX0_cut 2 := by decide +kernel
set_option maxHeartbeats 4000000 in
set_option maxRecDepth 100000 in
theorem mX0_cut_no (l : Launch) (G : GG) (bo : Nat) (wd : Nat → Nat) (w : Nat → Nat) (us : Nat) (ad : Nat → Nat) (a : Nat → Nat) (r : Nat → Nat → Nat) (k : Nat) (hT : TB a r) (hk : k < 12) (ht : (a 8).testBit k = false) : Mi l yX0_cut cX0_cut 4 (some .int) (rmN 5 115) G [.ref bo, .ref (ad 0), .int (nI k)] (bow bo (wd 0) ++ (wyw G wd w us ++ (tkw G ad a r))) (fun (r9 : Int32) (_ : (Nat → Nat) × Nat) => r9 = nI 0) (fun (u : (Nat → Nat) × Nat) => bow bo (wd 0) ++ (wyw G wd u.1 u.2 ++ (tkw G ad (va_up a 9 (a 9 ||| 2 ^ k)) r))) := by
  refine Mi.of (cc := cX0_cut) (nL := 4) (by decide) (Nat.le_of_ble_eq_true rfl) ?_
  intro p e s m below meth c A ls F hr hlocks hnm hX hA hD hP hS hl
  have F : CallFix p m c cX0_cut 4 s [.ref bo, .ref (ad 0), .int (nI k)].toArray wA RX0 := F
  obtain ⟨hx, hb, hml, hown, hts⟩ := id F
  have hl : lv_has ls 4 [(0, .ref bo), (1, .ref (ad 0)), (2, .int (nI k))] := hl
  obtain ⟨t0, t1, t2, t3, t4, t5, t6, t7, t8, t9, t10, t11, t12⟩ := id hT
  refine lv_aload_n hx hb dX0_cut_0 rfl (lv_at hl 1 rfl) ?_
  refine lv_dup hx hb dX0_cut_1 rfl ?_
  refine va_get (D := G.1) (ci := 3) (v := .int (nI (a 9))) (C := RX4) (T := TX4) (N := 12) hx hb hts inA4 hown hX.1 hP 3 rfl rfl 9 (by decide) (hts _ kw_101) (fun _ h9 => h9) rfl dX0_cut_2 ?_
  refine lv_iconst (v := (nI 1)) hx hb dX0_cut_5 (by decide) ?_
  refine lv_iload_n hx hb dX0_cut_6 rfl (lv_at hl 2 rfl) ?_
  refine lv_ishl hx hb dX0_cut_7 (ti (y := (nI (2 ^ k))) (qn_sh1 (by omega)) ?_)
  refine lv_ior hx hb dX0_cut_8 (ti (y := (nI ((a 9) ||| (2 ^ k)))) (qn_or _ _) ?_)
  refine va_put (D := G.1) (ci := 3) (v := .int (nI ((a 9) ||| (2 ^ k)))) (ty := .int) (C := RX4) (T := TX4) (N := 12) hx hb hts inA4 tyX4 tyX4_ok nmX4 hown hX.1 hP hD hS 3 rfl rfl 9 (by decide) (hts _ kw_101) (fun _ h9 => h9) rfl (by decide +kernel) rfl rfl (Nat.le_of_ble_eq_true rfl) dX0_cut_9 (fun H locs hP hD hS => ?_)
  have hP : va_P G.1 vwCl (bow bo (wd 0) ++ (wyw G wd w us ++ (tkw G ad (va_up a 9 ((a 9) ||| (2 ^ k))) r))) H := hP
  have hD : va_D A (bow bo (wd 0) ++ (wyw G wd w us ++ (tkw G ad (va_up a 9 ((a 9) ||| (2 ^ k))) r))) := hD
  refine lv_aload_n hx hb dX0_cut_12 rfl (lv_at hl 1 rfl) ?_
  refine va_get (D := G.1) (ci := 3) (v := .int (nI (a 8))) (C := RX4) (T := TX4) (N := 12) hx hb hts inA4 hown hX.1 hP 3 rfl rfl 8 (by decide) (hts _ kw_96) (fun _ h9 => h9) rfl dX0_cut_13 ?_
  refine lv_iload_n hx hb dX0_cut_16 rfl (lv_at hl 2 rfl) ?_
  refine ca_Ni (rest := []) (wr := bow bo (wd 0) ++ (wyw G wd w us ++ (tkw G ad (va_up a 9 ((a 9) ||| (2 ^ k))) r))) F hX (mX7_has l G (a 8) k (by omega) (by omega)) ⟨cA_N hts kw_357 kw_1 hX.2.2.2.2.2.2.2.1 hdX7_has ⟨Nat.le_of_ble_eq_true rfl, Nat.le_of_ble_eq_true rfl⟩, hts _ kw_356, trivial⟩ rfl hl.1 rfl (Nat.le_of_ble_eq_true rfl) dX0_cut_17 ⟨Nat.le_of_ble_eq_true rfl, Nat.le_of_ble_eq_true rfl⟩ hP hD hS hA (List.Perm.refl _) (fun r17 u17 H locs hp17 hP hD hS => ?_)
  have hP : va_P G.1 vwCl (bow bo (wd 0) ++ (wyw G wd w us ++ (tkw G ad (va_up a 9 ((a 9) ||| (2 ^ k))) r))) H := hP
  have hD : va_D A (bow bo (wd 0) ++ (wyw G wd w us ++ (tkw G ad (va_up a 9 ((a 9) ||| (2 ^ k))) r))) := hD
  subst hp17
  refine bv_ne (b := (a 8).testBit k) (tgt := 25) hx hb dX0_cut_20 (by decide) (fun c20 => ?_) (fun c20 => ?_)
  · exact absurd (ht.symm.trans c20) (by decide)
  · refine lv_iconst (v := (nI 0)) hx hb dX0_cut_23 (by decide) ?_
    exact re_i (v := (nI 0)) hx hb hr hlocks hS (w, us) hP hD rfl dX0_cut_24

set_option maxHeartbeats 4000000 in
set_option maxRecDepth 100000 in
theorem mX0_cut_yes (l : Launch) (G : GG) (bo : Nat) (wd : Nat → Nat) (w : Nat → Nat) (us : Nat) (ad : Nat → Nat) (a : Nat → Nat) (r : Nat → Nat → Nat) (k : Nat) (hT : TB a r) (hk : k < 12) (ht : (a 8).testBit k = true) : Mi l yX0_cut cX0_cut 4 (some .int) (rmN 5 115) G [.ref bo, .ref (ad 0), .int (nI k)] (bow bo (wd 0) ++ (wyw G wd w us ++ (tkw G ad a r))) (fun (r9 : Int32) (_ : (Nat → Nat) × Nat) => r9 = nI (bts (a 7) 12 - bts (cu3 a r k 7) 12)) (fun (u : (Nat → Nat) × Nat) => bow bo (wd 0) ++ (wyw G wd u.1 u.2 ++ (tkw G ad (cu3 a r k) r))) := by
  refine Mi.of (cc := cX0_cut) (nL := 4) (by decide) (Nat.le_of_ble_eq_true rfl) ?_
  intro p e s m below meth c A ls F hr hlocks hnm hX hA hD hP hS hl
  have F : CallFix p m c cX0_cut 4 s [.ref bo, .ref (ad 0), .int (nI k)].toArray wA RX0 := F
  obtain ⟨hx, hb, hml, hown, hts⟩ := id F
  have hl : lv_has ls 4 [(0, .ref bo), (1, .ref (ad 0)), (2, .int (nI k))] := hl
  obtain ⟨t0, t1, t2, t3, t4, t5, t6, t7, t8, t9, t10, t11, t12⟩ := id hT
  have h1 : a 9 ||| 2 ^ k < 4096 := or_lt (n := 12) t10 (pw_lt hk)
  refine lv_aload_n hx hb dX0_cut_0 rfl (lv_at hl 1 rfl) ?_
  refine lv_dup hx hb dX0_cut_1 rfl ?_
  refine va_get (D := G.1) (ci := 3) (v := .int (nI (a 9))) (C := RX4) (T := TX4) (N := 12) hx hb hts inA4 hown hX.1 hP 3 rfl rfl 9 (by decide) (hts _ kw_101) (fun _ h9 => h9) rfl dX0_cut_2 ?_
  refine lv_iconst (v := (nI 1)) hx hb dX0_cut_5 (by decide) ?_
  refine lv_iload_n hx hb dX0_cut_6 rfl (lv_at hl 2 rfl) ?_
  refine lv_ishl hx hb dX0_cut_7 (ti (y := (nI (2 ^ k))) (qn_sh1 (by omega)) ?_)
  refine lv_ior hx hb dX0_cut_8 (ti (y := (nI ((a 9) ||| (2 ^ k)))) (qn_or _ _) ?_)
  refine va_put (D := G.1) (ci := 3) (v := .int (nI ((a 9) ||| (2 ^ k)))) (ty := .int) (C := RX4) (T := TX4) (N := 12) hx hb hts inA4 tyX4 tyX4_ok nmX4 hown hX.1 hP hD hS 3 rfl rfl 9 (by decide) (hts _ kw_101) (fun _ h9 => h9) rfl (by decide +kernel) rfl rfl (Nat.le_of_ble_eq_true rfl) dX0_cut_9 (fun H locs hP hD hS => ?_)
  have hP : va_P G.1 vwCl (bow bo (wd 0) ++ (wyw G wd w us ++ (tkw G ad (va_up a 9 ((a 9) ||| (2 ^ k))) r))) H := hP
  have hD : va_D A (bow bo (wd 0) ++ (wyw G wd w us ++ (tkw G ad (va_up a 9 ((a 9) ||| (2 ^ k))) r))) := hD
  refine lv_aload_n hx hb dX0_cut_12 rfl (lv_at hl 1 rfl) ?_
  refine va_get (D := G.1) (ci := 3) (v := .int (nI (a 8))) (C := RX4) (T := TX4) (N := 12) hx hb hts inA4 hown hX.1 hP 3 rfl rfl 8 (by decide) (hts _ kw_96) (fun _ h9 => h9) rfl dX0_cut_13 ?_
  refine lv_iload_n hx hb dX0_cut_16 rfl (lv_at hl 2 rfl) ?_
  refine ca_Ni (rest := []) (wr := bow bo (wd 0) ++ (wyw G wd w us ++ (tkw G ad (va_up a 9 ((a 9) ||| (2 ^ k))) r))) F hX (mX7_has l G (a 8) k (by omega) (by omega)) ⟨cA_N hts kw_357 kw_1 hX.2.2.2.2.2.2.2.1 hdX7_has ⟨Nat.le_of_ble_eq_true rfl, Nat.le_of_ble_eq_true rfl⟩, hts _ kw_356, trivial⟩ rfl hl.1 rfl (Nat.le_of_ble_eq_true rfl) dX0_cut_17 ⟨Nat.le_of_ble_eq_true rfl, Nat.le_of_ble_eq_true rfl⟩ hP hD hS hA (List.Perm.refl _) (fun r17 u17 H locs hp17 hP hD hS => ?_)
  have hP : va_P G.1 vwCl (bow bo (wd 0) ++ (wyw G wd w us ++ (tkw G ad (va_up a 9 ((a 9) ||| (2 ^ k))) r))) H := hP
  have hD : va_D A (bow bo (wd 0) ++ (wyw G wd w us ++ (tkw G ad (va_up a 9 ((a 9) ||| (2 ^ k))) r))) := hD
  subst hp17
  refine bv_ne (b := (a 8).testBit k) (tgt := 25) hx hb dX0_cut_20 (by decide) (fun c20 => ?_) (fun c20 => ?_)
  · refine lv_aload_n hx hb dX0_cut_25 rfl (lv_at hl 1 rfl) ?_
    refine va_get (D := G.1) (ci := 3) (v := .int (nI (a 7))) (C := RX4) (T := TX4) (N := 12) hx hb hts inA4 hown hX.1 hP 3 rfl rfl 7 (by decide) (hts _ kw_93) (fun _ h9 => h9) rfl dX0_cut_26 ?_
    refine ca_Si (rest := []) (wr := bow bo (wd 0) ++ (wyw G wd w us ++ (tkw G ad (va_up a 9 ((a 9) ||| (2 ^ k))) r))) F hX (mJ6_bitCount_0f7a4 l G (a 7) (by omega)) (cA_S hts kw_503 kw_16 kw_526 kw_502 hdJ6_bitCount_0f7a4 ⟨Nat.le_of_ble_eq_true rfl, Nat.le_of_ble_eq_true rfl⟩) rfl hl.1 rfl (Nat.le_of_ble_eq_true rfl) dX0_cut_29 ⟨Nat.le_of_ble_eq_true rfl, Nat.le_of_ble_eq_true rfl⟩ hP hD hS hA (List.Perm.refl _) (fun r29 u29 H locs hp29 hP hD hS => ?_)
    have hP : va_P G.1 vwCl (bow bo (wd 0) ++ (wyw G wd w us ++ (tkw G ad (va_up a 9 ((a 9) ||| (2 ^ k))) r))) H := hP
    have hD : va_D A (bow bo (wd 0) ++ (wyw G wd w us ++ (tkw G ad (va_up a 9 ((a 9) ||| (2 ^ k))) r))) := hD
    subst hp29
    refine lv_istore_n (lv' := [(3, .int (nI (bts (a 7) 12))), (0, .ref bo), (1, .ref (ad 0)), (2, .int (nI k))]) hx hb dX0_cut_32 rfl hl (by decide) rfl (fun ls hl => ?_)
    refine lv_aload_n hx hb dX0_cut_33 rfl (lv_at hl 2 rfl) ?_
    refine lv_aload_n hx hb dX0_cut_34 rfl (lv_at hl 2 rfl) ?_
    refine va_get (D := G.1) (ci := 3) (v := .int (nI (a 8))) (C := RX4) (T := TX4) (N := 12) hx hb hts inA4 hown hX.1 hP 3 rfl rfl 8 (by decide) (hts _ kw_96) (fun _ h9 => h9) rfl dX0_cut_35 ?_
    refine lv_iconst (v := (nI 1)) hx hb dX0_cut_38 (by decide) ?_
    refine lv_iload_n hx hb dX0_cut_39 rfl (lv_at hl 3 rfl) ?_
    refine lv_ishl hx hb dX0_cut_40 (ti (y := (nI (2 ^ k))) (qn_sh1 (by omega)) ?_)
    refine lv_iconst (v := (-1)) hx hb dX0_cut_41 (by decide) ?_
    refine lv_ixor hx hb dX0_cut_42 ?_
    refine lv_iand hx hb dX0_cut_43 (ti (y := (nI (nd (a 8) (2 ^ k)))) (qn_andn _ _) ?_)
    refine ca_Sv (rest := []) (wr := bow bo (wd 0) ++ (wyw G wd w us)) F hX (mX0_keepHanging l G ad (va_up a 9 ((a 9) ||| (2 ^ k))) r (nd (a 8) (2 ^ k)) (hT.dn h1) (by have := nd_le (a 8) (2 ^ k); omega)) (cA_S hts kw_529 kw_5 kw_527 kw_528 hdX0_keepHanging ⟨Nat.le_of_ble_eq_true rfl, Nat.le_of_ble_eq_true rfl⟩) rfl hl.1 rfl (Nat.le_of_ble_eq_true rfl) dX0_cut_44 ⟨Nat.le_of_ble_eq_true rfl, Nat.le_of_ble_eq_true rfl⟩ hP hD hS hA ((List.Perm.append_left _ (List.perm_append_comm)).trans (pm_sw _ _ _)) (fun u44 H locs hp44 hP hD hS => ?_)
    have hP : va_P G.1 vwCl (bow bo (wd 0) ++ (wyw G wd w us ++ (tkw G ad (va_up (va_up a 8 (khA (va_up a 9 ((a 9) ||| (2 ^ k))) r (nd (a 8) (2 ^ k)))) 9 ((a 9) ||| (2 ^ k))) r))) H := wp_pm ((List.Perm.append_left _ (List.perm_append_comm)).trans (pm_sw _ _ _)).symm hP
    have hD : va_D A (bow bo (wd 0) ++ (wyw G wd w us ++ (tkw G ad (va_up (va_up a 8 (khA (va_up a 9 ((a 9) ||| (2 ^ k))) r (nd (a 8) (2 ^ k)))) 9 ((a 9) ||| (2 ^ k))) r))) := wd_pm ((List.Perm.append_left _ (List.perm_append_comm)).trans (pm_sw _ _ _)).symm hD
    refine lv_aload_n hx hb dX0_cut_47 rfl (lv_at hl 1 rfl) ?_
    refine lv_aload_n hx hb dX0_cut_48 rfl (lv_at hl 2 rfl) ?_
    refine ca_Vv (ci := 0) (q := (RX0, TX0, 1)) (rest := []) (wr := ([] : va_W)) F hX (mX0_joinAgain l G bo wd w us ad (va_up (va_up a 8 (khA (va_up a 9 ((a 9) ||| (2 ^ k))) r (nd (a 8) (2 ^ k)))) 9 ((a 9) ||| (2 ^ k))) r  (hT.c1 hk)) (cA_V hts kw_538 kw_5 kw_535 kw_537 kp_16 hdX0_joinAgain ⟨Nat.le_of_ble_eq_true rfl, Nat.le_of_ble_eq_true rfl⟩) rfl rfl rfl hl.1 rfl (Nat.le_of_ble_eq_true rfl) dX0_cut_49 ⟨Nat.le_of_ble_eq_true rfl, Nat.le_of_ble_eq_true rfl⟩ hP hD hS hA (pm_nil _) (fun u49 H locs hp49 hP hD hS => ?_)
    have hP : va_P G.1 vwCl (bow bo (wd 0) ++ (wyw G wd u49.1 u49.2 ++ (tkw G ad (va_up (va_up (va_up a 7 ((jaS (va_up (va_up a 8 (khA (va_up a 9 ((a 9) ||| (2 ^ k))) r (nd (a 8) (2 ^ k)))) 9 ((a 9) ||| (2 ^ k))) r (a 0)).1)) 8 ((jaS (va_up (va_up a 8 (khA (va_up a 9 ((a 9) ||| (2 ^ k))) r (nd (a 8) (2 ^ k)))) 9 ((a 9) ||| (2 ^ k))) r (a 0)).2)) 9 ((a 9) ||| (2 ^ k))) r))) H := wp_pm (pm_nil _).symm hP
    have hD : va_D A (bow bo (wd 0) ++ (wyw G wd u49.1 u49.2 ++ (tkw G ad (va_up (va_up (va_up a 7 ((jaS (va_up (va_up a 8 (khA (va_up a 9 ((a 9) ||| (2 ^ k))) r (nd (a 8) (2 ^ k)))) 9 ((a 9) ||| (2 ^ k))) r (a 0)).1)) 8 ((jaS (va_up (va_up a 8 (khA (va_up a 9 ((a 9) ||| (2 ^ k))) r (nd (a 8) (2 ^ k)))) 9 ((a 9) ||| (2 ^ k))) r (a 0)).2)) 9 ((a 9) ||| (2 ^ k))) r))) := wd_pm (pm_nil _).symm hD
    refine lv_aload_n hx hb dX0_cut_52 rfl (lv_at hl 2 rfl) ?_
    refine ca_Vv (ci := 3) (q := (RX4, TX4, 12)) (rest := []) (wr := bow bo (wd 0) ++ (wyw G wd u49.1 u49.2)) F hX (mX4_prune l G ad (va_up (va_up (va_up a 7 ((jaS (va_up (va_up a 8 (khA (va_up a 9 ((a 9) ||| (2 ^ k))) r (nd (a 8) (2 ^ k)))) 9 ((a 9) ||| (2 ^ k))) r (a 0)).1)) 8 ((jaS (va_up (va_up a 8 (khA (va_up a 9 ((a 9) ||| (2 ^ k))) r (nd (a 8) (2 ^ k)))) 9 ((a 9) ||| (2 ^ k))) r (a 0)).2)) 9 ((a 9) ||| (2 ^ k))) r  (hT.c2 hk)) (cA_V hts kw_500 kw_3 kw_497 kw_498 kw_499 hdX4_prune ⟨Nat.le_of_ble_eq_true rfl, Nat.le_of_ble_eq_true rfl⟩) rfl rfl rfl hl.1 rfl (Nat.le_of_ble_eq_true rfl) dX0_cut_53 ⟨Nat.le_of_ble_eq_true rfl, Nat.le_of_ble_eq_true rfl⟩ hP hD hS hA ((List.Perm.append_left _ (List.perm_append_comm)).trans (pm_sw _ _ _)) (fun u53 H locs hp53 hP hD hS => ?_)
    have hP : va_P G.1 vwCl (bow bo (wd 0) ++ (wyw G wd u49.1 u49.2 ++ (tkw G ad (va_up (va_up (va_up a 7 ((jaS (va_up (va_up a 8 (khA (va_up a 9 ((a 9) ||| (2 ^ k))) r (nd (a 8) (2 ^ k)))) 9 ((a 9) ||| (2 ^ k))) r (a 0)).1)) 8 (prN (r 0) (r 1) (((jaS (va_up (va_up a 8 (khA (va_up a 9 ((a 9) ||| (2 ^ k))) r (nd (a 8) (2 ^ k)))) 9 ((a 9) ||| (2 ^ k))) r (a 0)).1) ||| 2 ^ (a 1)) (a 3) (a 0) (fun x => bts x 12) (a 0) ((jaS (va_up (va_up a 8 (khA (va_up a 9 ((a 9) ||| (2 ^ k))) r (nd (a 8) (2 ^ k)))) 9 ((a 9) ||| (2 ^ k))) r (a 0)).2))) 9 ((a 9) ||| (2 ^ k))) r))) H := wp_pm ((List.Perm.append_left _ (List.perm_append_comm)).trans (pm_sw _ _ _)).symm hP
    have hD : va_D A (bow bo (wd 0) ++ (wyw G wd u49.1 u49.2 ++ (tkw G ad (va_up (va_up (va_up a 7 ((jaS (va_up (va_up a 8 (khA (va_up a 9 ((a 9) ||| (2 ^ k))) r (nd (a 8) (2 ^ k)))) 9 ((a 9) ||| (2 ^ k))) r (a 0)).1)) 8 (prN (r 0) (r 1) (((jaS (va_up (va_up a 8 (khA (va_up a 9 ((a 9) ||| (2 ^ k))) r (nd (a 8) (2 ^ k)))) 9 ((a 9) ||| (2 ^ k))) r (a 0)).1) ||| 2 ^ (a 1)) (a 3) (a 0) (fun x => bts x 12) (a 0) ((jaS (va_up (va_up a 8 (khA (va_up a 9 ((a 9) ||| (2 ^ k))) r (nd (a 8) (2 ^ k)))) 9 ((a 9) ||| (2 ^ k))) r (a 0)).2))) 9 ((a 9) ||| (2 ^ k))) r))) := wd_pm ((List.Perm.append_left _ (List.perm_append_comm)).trans (pm_sw _ _ _)).symm hD
    refine lv_iload_n hx hb dX0_cut_56 rfl (lv_at hl 0 rfl) ?_
    refine lv_aload_n hx hb dX0_cut_57 rfl (lv_at hl 2 rfl) ?_
    refine va_get (D := G.1) (ci := 3) (v := .int (nI ((jaS (va_up (va_up a 8 (khA (va_up a 9 ((a 9) ||| (2 ^ k))) r (nd (a 8) (2 ^ k)))) 9 ((a 9) ||| (2 ^ k))) r (a 0)).1))) (C := RX4) (T := TX4) (N := 12) hx hb hts inA4 hown hX.1 hP 3 rfl rfl 7 (by decide) (hts _ kw_93) (fun _ h9 => h9) rfl dX0_cut_58 ?_
    refine ca_Si (rest := [.int (nI (bts (a 7) 12))]) (wr := bow bo (wd 0) ++ (wyw G wd u49.1 u49.2 ++ (tkw G ad (va_up (va_up (va_up a 7 ((jaS (va_up (va_up a 8 (khA (va_up a 9 ((a 9) ||| (2 ^ k))) r (nd (a 8) (2 ^ k)))) 9 ((a 9) ||| (2 ^ k))) r (a 0)).1)) 8 (prN (r 0) (r 1) (((jaS (va_up (va_up a 8 (khA (va_up a 9 ((a 9) ||| (2 ^ k))) r (nd (a 8) (2 ^ k)))) 9 ((a 9) ||| (2 ^ k))) r (a 0)).1) ||| 2 ^ (a 1)) (a 3) (a 0) (fun x => bts x 12) (a 0) ((jaS (va_up (va_up a 8 (khA (va_up a 9 ((a 9) ||| (2 ^ k))) r (nd (a 8) (2 ^ k)))) 9 ((a 9) ||| (2 ^ k))) r (a 0)).2))) 9 ((a 9) ||| (2 ^ k))) r))) F hX (mJ6_bitCount_0f7a4 l G ((jaS (va_up (va_up a 8 (khA (va_up a 9 ((a 9) ||| (2 ^ k))) r (nd (a 8) (2 ^ k)))) 9 ((a 9) ||| (2 ^ k))) r (a 0)).1) (show cu2 a r k 7 < 4096 by have := (hT.c2 hk).2.2.2.2.2.2.2.2.1; omega)) (cA_S hts kw_503 kw_16 kw_526 kw_502 hdJ6_bitCount_0f7a4 ⟨Nat.le_of_ble_eq_true rfl, Nat.le_of_ble_eq_true rfl⟩) rfl hl.1 rfl (Nat.le_of_ble_eq_true rfl) dX0_cut_61 ⟨Nat.le_of_ble_eq_true rfl, Nat.le_of_ble_eq_true rfl⟩ hP hD hS hA (List.Perm.refl _) (fun r61 u61 H locs hp61 hP hD hS => ?_)
    have hP : va_P G.1 vwCl (bow bo (wd 0) ++ (wyw G wd u49.1 u49.2 ++ (tkw G ad (va_up (va_up (va_up a 7 ((jaS (va_up (va_up a 8 (khA (va_up a 9 ((a 9) ||| (2 ^ k))) r (nd (a 8) (2 ^ k)))) 9 ((a 9) ||| (2 ^ k))) r (a 0)).1)) 8 (prN (r 0) (r 1) (((jaS (va_up (va_up a 8 (khA (va_up a 9 ((a 9) ||| (2 ^ k))) r (nd (a 8) (2 ^ k)))) 9 ((a 9) ||| (2 ^ k))) r (a 0)).1) ||| 2 ^ (a 1)) (a 3) (a 0) (fun x => bts x 12) (a 0) ((jaS (va_up (va_up a 8 (khA (va_up a 9 ((a 9) ||| (2 ^ k))) r (nd (a 8) (2 ^ k)))) 9 ((a 9) ||| (2 ^ k))) r (a 0)).2))) 9 ((a 9) ||| (2 ^ k))) r))) H := hP
    have hD : va_D A (bow bo (wd 0) ++ (wyw G wd u49.1 u49.2 ++ (tkw G ad (va_up (va_up (va_up a 7 ((jaS (va_up (va_up a 8 (khA (va_up a 9 ((a 9) ||| (2 ^ k))) r (nd (a 8) (2 ^ k)))) 9 ((a 9) ||| (2 ^ k))) r (a 0)).1)) 8 (prN (r 0) (r 1) (((jaS (va_up (va_up a 8 (khA (va_up a 9 ((a 9) ||| (2 ^ k))) r (nd (a 8) (2 ^ k)))) 9 ((a 9) ||| (2 ^ k))) r (a 0)).1) ||| 2 ^ (a 1)) (a 3) (a 0) (fun x => bts x 12) (a 0) ((jaS (va_up (va_up a 8 (khA (va_up a 9 ((a 9) ||| (2 ^ k))) r (nd (a 8) (2 ^ k)))) 9 ((a 9) ||| (2 ^ k))) r (a 0)).2))) 9 ((a 9) ||| (2 ^ k))) r))) := hD
    subst hp61
    refine lv_isub hx hb dX0_cut_64 (ti (y := (nI ((bts (a 7) 12) - (bts ((jaS (va_up (va_up a 8 (khA (va_up a 9 ((a 9) ||| (2 ^ k))) r (nd (a 8) (2 ^ k)))) 9 ((a 9) ||| (2 ^ k))) r (a 0)).1) 12)))) (pk_sub (bts_mono (jaS_sub (cu1 a r k) r (a 0)) 12)) ?_)
    have hP : va_P G.1 vwCl (bow bo (wd 0) ++ (wyw G wd u49.1 u49.2 ++ (tkw G ad (cu3 a r k) r))) H := hP
    have hD : va_D A (bow bo (wd 0) ++ (wyw G wd u49.1 u49.2 ++ (tkw G ad (cu3 a r k) r))) := hD
    exact re_i (v := (nI ((bts (a 7) 12) - (bts ((jaS (va_up (va_up a 8 (khA (va_up a 9 ((a 9) ||| (2 ^ k))) r (nd (a 8) (2 ^ k)))) 9 ((a 9) ||| (2 ^ k))) r (a 0)).1) 12)))) hx hb hr hlocks hS (u49.1, u49.2) hP hD rfl dX0_cut_65
  · exact absurd (c20.symm.trans ht) (by decide)

