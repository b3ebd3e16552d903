theorem hdX4_busiest : hdOK yX4_busiest 0 := by decide +kernel
set_option maxHeartbeats 4000000 in
set_option maxRecDepth 100000 in
theorem mX4_busiest (l : Launch) (G : GG) (ad : Nat → Nat) (a : Nat → Nat) (r : Nat → Nat → Nat) (hT : TB a r) : Mi l yX4_busiest cX4_busiest 4 (some .int) (rmN 4 88) G [.ref (ad 0)] (tkw G ad a r) (fun (r9 : Int32) (_ : Unit) => r9 = (oN ((bsN (ldN (r 0) (r 1) (a 0) (a 1) (a 3) (a 7) (a 8)) (a 8) (a 3)).1))) (fun (_ : Unit) => tkw G ad a r) := by
  refine Mi.of (cc := cX4_busiest) (nL := 4) (by decide) (Nat.le_of_ble_eq_true rfl) ?_
  intro p e s m below meth c A ls F hr hlocks hnm hX hA hD hP hS hl
  have F : CallFix p m c cX4_busiest 4 s [.ref (ad 0)].toArray wA RX4 := F
  obtain ⟨hx, hb, hml, hown, hts⟩ := id F
  have hl : lv_has ls 4 [(0, .ref (ad 0))] := hl
  obtain ⟨t0, t1, t2, t3, t4, t5, t6, t7, t8, t9, t10, t11, t12⟩ := id hT
  refine lv_bipush (v := (-9)) hx hb dX4_busiest_0 (by decide) ?_
  refine lv_istore_n (lv' := [(1, .int (-9)), (0, .ref (ad 0))]) hx hb dX4_busiest_2 rfl hl (by decide) rfl (fun ls hl => ?_)
  refine lv_iconst (v := (-1)) hx hb dX4_busiest_3 (by decide) ?_
  refine lv_istore_n (lv' := [(2, .int (-1)), (1, .int (-9)), (0, .ref (ad 0))]) hx hb dX4_busiest_4 rfl hl (by decide) rfl (fun ls hl => ?_)
  refine lv_iconst (v := (nI 0)) hx hb dX4_busiest_5 (by decide) ?_
  refine lv_istore_n (lv' := [(3, .int (nI 0)), (2, .int (-1)), (1, .int (-9)), (0, .ref (ad 0))]) hx hb dX4_busiest_6 rfl hl (by decide) rfl (fun ls hl => ?_)
  have lp7 : ∀ (n7 : Nat) (k : Nat) (b1 : Int32) (b2 : Int32), (a 3 - k) < n7 → b1 = oN (bsN (ldN (r 0) (r 1) (a 0) (a 1) (a 3) (a 7) (a 8)) (a 8) k).1 → b2 = mI (bsN (ldN (r 0) (r 1) (a 0) (a 1) (a 3) (a 7) (a 8)) (a 8) k).2 → (k ≤ a 3) → ∀ (H : Heap) (locs : List Loc), va_P G.1 vwCl (tkw G ad a r) H → va_D A (tkw G ad a r) → va_S A s.heap H locs → ∀ (ls : Array Slot), lv_has ls 4 [(0, .ref (ad 0)), (1, .int b1), (2, .int b2), (3, .int (nI k))] → WI p l e (rmN 4 88) s m [.ref (ad 0)] below meth c H locs G A (fun (r9 : Int32) (_ : Unit) => r9 = (oN ((bsN (ldN (r 0) (r 1) (a 0) (a 1) (a 3) (a 7) (a 8)) (a 8) (a 3)).1))) (fun (_ : Unit) => tkw G ad a r) (F0 m 7 ls []) := by
    intro n7
    induction n7 with
    | zero => intro k b1 b2 h9; exact absurd h9 (Nat.not_lt_zero _)
    | succ n7 ih7 =>
      intro k b1 b2 hm7 e_b1 e_b2 hk H locs hP hD hS ls hl
      subst e_b1
      subst e_b2
      refine lv_iload_n hx hb dX4_busiest_7 rfl (lv_at hl 3 rfl) ?_
      refine lv_aload_n hx hb dX4_busiest_8 rfl (lv_at hl 0 rfl) ?_
      refine va_get (D := G.1) (ci := 3) (v := .int (nI (a 3))) (C := RX4) (T := TX4) (N := 12) hx hb hts inA4 hown hX.1 hP 0 rfl rfl 3 (by decide) (hts _ kw_76) (fun _ h9 => h9) rfl dX4_busiest_9 ?_
      refine nv_ge (x := k) (y := a 3) (tgt := 49) hx hb dX4_busiest_12 (by decide) (by omega) (by omega) (fun c12 => ?_) (fun c12 => ?_)
      · refine lv_iload_n hx hb dX4_busiest_49 rfl (lv_at hl 1 rfl) ?_
        exact re_i (v := (oN (bsN (ldN (r 0) (r 1) (a 0) (a 1) (a 3) (a 7) (a 8)) (a 8) k).1)) hx hb hr hlocks hS () hP hD (by have e9 : k = a 3 := (by omega); rw [e9]) dX4_busiest_50
      · refine lv_aload_n hx hb dX4_busiest_15 rfl (lv_at hl 0 rfl) ?_
        refine va_get (D := G.1) (ci := 3) (v := .int (nI (a 8))) (C := RX4) (T := TX4) (N := 12) hx hb hts inA4 hown hX.1 hP 0 rfl rfl 8 (by decide) (hts _ kw_98) (fun _ h9 => h9) rfl dX4_busiest_16 ?_
        refine lv_iload_n hx hb dX4_busiest_19 rfl (lv_at hl 3 rfl) ?_
        refine ca_Ni (rest := []) (wr := tkw G ad a r) F hX (mX7_has l G (a 8) k (by omega) (by omega)) ⟨cA_N hts kw_357 kw_1 hX.2.2.2.2.2.2.2.2.2.2.1 hdX7_has ⟨Nat.le_of_ble_eq_true rfl, Nat.le_of_ble_eq_true rfl⟩, hts _ kw_356, trivial⟩ rfl hl.1 rfl (Nat.le_of_ble_eq_true rfl) dX4_busiest_20 ⟨Nat.le_of_ble_eq_true rfl, Nat.le_of_ble_eq_true rfl⟩ hP hD hS hA (List.Perm.refl _) (fun r20 u20 H locs hp20 hP hD hS => ?_)
        have hP : va_P G.1 vwCl (tkw G ad a r) H := hP
        have hD : va_D A (tkw G ad a r) := hD
        subst hp20
        refine bv_eq (b := (a 8).testBit k) (tgt := 43) hx hb dX4_busiest_23 (by decide) (fun c23 => ?_) (fun c23 => ?_)
        · refine lv_iinc (v := (nI (k + 1))) (lv' := [(3, .int (nI (k + 1))), (0, .ref (ad 0)), (1, .int (oN (bsN (ldN (r 0) (r 1) (a 0) (a 1) (a 3) (a 7) (a 8)) (a 8) k).1)), (2, .int (mI (bsN (ldN (r 0) (r 1) (a 0) (a 1) (a 3) (a 7) (a 8)) (a 8) k).2))]) hx hb dX4_busiest_43 hl (k := 3) rfl (qn_inc _) (by decide) rfl (fun ls hl => ?_)
          refine lv_goto (tgt := 7) hx hb dX4_busiest_46 (by decide) ?_
          exact ih7 (k + 1) (oN (bsN (ldN (r 0) (r 1) (a 0) (a 1) (a 3) (a 7) (a 8)) (a 8) k).1) (mI (bsN (ldN (r 0) (r 1) (a 0) (a 1) (a 3) (a 7) (a 8)) (a 8) k).2) (by omega) (by first | (rw [bsN, if_pos ⟨c23, Nat.not_lt.mp (fun h => c32 ((mI_le (by have := ldN_le (r 0) (r 1) (a 0) (a 1) (a 3) (a 7) (a 8) k; omega) (by have := bsN_le (fun k => ldN_le (r 0) (r 1) (a 0) (a 1) (a 3) (a 7) (a 8) k) (a 8) k; omega)).mpr h))⟩] <;> rfl) | (rw [bsN, if_neg (fun h => absurd ((mI_le (by have := ldN_le (r 0) (r 1) (a 0) (a 1) (a 3) (a 7) (a 8) k; omega) (by have := bsN_le (fun k => ldN_le (r 0) (r 1) (a 0) (a 1) (a 3) (a 7) (a 8) k) (a 8) k; omega)).mp c32) (Nat.not_lt.mpr h.2))] <;> rfl) | (rw [bsN, if_neg (fun h => by rw [c23] at h; exact absurd h.1 (by decide))] <;> rfl)) (by first | (rw [bsN, if_pos ⟨c23, Nat.not_lt.mp (fun h => c32 ((mI_le (by have := ldN_le (r 0) (r 1) (a 0) (a 1) (a 3) (a 7) (a 8) k; omega) (by have := bsN_le (fun k => ldN_le (r 0) (r 1) (a 0) (a 1) (a 3) (a 7) (a 8) k) (a 8) k; omega)).mpr h))⟩] <;> exact (nI_pred _).symm) | (rw [bsN, if_neg (fun h => absurd ((mI_le (by have := ldN_le (r 0) (r 1) (a 0) (a 1) (a 3) (a 7) (a 8) k; omega) (by have := bsN_le (fun k => ldN_le (r 0) (r 1) (a 0) (a 1) (a 3) (a 7) (a 8) k) (a 8) k; omega)).mp c32) (Nat.not_lt.mpr h.2))] <;> rfl) | (rw [bsN, if_neg (fun h => by rw [c23] at h; exact absurd h.1 (by decide))] <;> rfl)) (by omega) _ _ hP hD hS ls (lv_sub hl [1, 2, 3, 0] rfl)
        · refine lv_aload_n hx hb dX4_busiest_26 rfl (lv_at hl 0 rfl) ?_
          refine lv_iload_n hx hb dX4_busiest_27 rfl (lv_at hl 3 rfl) ?_
          refine ca_Vi (ci := 3) (q := (RX4, TX4, 12)) (rest := []) (wr := ([] : va_W)) F hX (mX4_load l G ad a r k hT (by omega)) (cA_V hts kw_564 kw_3 kw_620 kw_562 kw_563 hdX4_load ⟨Nat.le_of_ble_eq_true rfl, Nat.le_of_ble_eq_true rfl⟩) rfl rfl rfl hl.1 rfl (Nat.le_of_ble_eq_true rfl) dX4_busiest_28 ⟨Nat.le_of_ble_eq_true rfl, Nat.le_of_ble_eq_true rfl⟩ hP hD hS hA (pm_nil _) (fun r28 u28 H locs hp28 hP hD hS => ?_)
          have hP : va_P G.1 vwCl (tkw G ad a r) H := wp_pm (pm_nil _).symm hP
          have hD : va_D A (tkw G ad a r) := wd_pm (pm_nil _).symm hD
          subst hp28
          refine lv_iload_n hx hb dX4_busiest_31 rfl (lv_at hl 2 rfl) ?_
          refine lv_icmp_le (x := (nI (ldN (r 0) (r 1) (a 0) (a 1) (a 3) (a 7) (a 8) k))) (y := (mI (bsN (ldN (r 0) (r 1) (a 0) (a 1) (a 3) (a 7) (a 8)) (a 8) k).2)) (tgt := 43) hx hb dX4_busiest_32 (by decide) (fun c32 => ?_) (fun c32 => ?_)
          · refine lv_iinc (v := (nI (k + 1))) (lv' := [(3, .int (nI (k + 1))), (0, .ref (ad 0)), (1, .int (oN (bsN (ldN (r 0) (r 1) (a 0) (a 1) (a 3) (a 7) (a 8)) (a 8) k).1)), (2, .int (mI (bsN (ldN (r 0) (r 1) (a 0) (a 1) (a 3) (a 7) (a 8)) (a 8) k).2))]) hx hb dX4_busiest_43 hl (k := 3) rfl (qn_inc _) (by decide) rfl (fun ls hl => ?_)
            refine lv_goto (tgt := 7) hx hb dX4_busiest_46 (by decide) ?_
            exact ih7 (k + 1) (oN (bsN (ldN (r 0) (r 1) (a 0) (a 1) (a 3) (a 7) (a 8)) (a 8) k).1) (mI (bsN (ldN (r 0) (r 1) (a 0) (a 1) (a 3) (a 7) (a 8)) (a 8) k).2) (by omega) (by first | (rw [bsN, if_pos ⟨c23, Nat.not_lt.mp (fun h => c32 ((mI_le (by have := ldN_le (r 0) (r 1) (a 0) (a 1) (a 3) (a 7) (a 8) k; omega) (by have := bsN_le (fun k => ldN_le (r 0) (r 1) (a 0) (a 1) (a 3) (a 7) (a 8) k) (a 8) k; omega)).mpr h))⟩] <;> rfl) | (rw [bsN, if_neg (fun h => absurd ((mI_le (by have := ldN_le (r 0) (r 1) (a 0) (a 1) (a 3) (a 7) (a 8) k; omega) (by have := bsN_le (fun k => ldN_le (r 0) (r 1) (a 0) (a 1) (a 3) (a 7) (a 8) k) (a 8) k; omega)).mp c32) (Nat.not_lt.mpr h.2))] <;> rfl) | (rw [bsN, if_neg (fun h => by rw [c23] at h; exact absurd h.1 (by decide))] <;> rfl)) (by first | (rw [bsN, if_pos ⟨c23, Nat.not_lt.mp (fun h => c32 ((mI_le (by have := ldN_le (r 0) (r 1) (a 0) (a 1) (a 3) (a 7) (a 8) k; omega) (by have := bsN_le (fun k => ldN_le (r 0) (r 1) (a 0) (a 1) (a 3) (a 7) (a 8) k) (a 8) k; omega)).mpr h))⟩] <;> exact (nI_pred _).symm) | (rw [bsN, if_neg (fun h => absurd ((mI_le (by have := ldN_le (r 0) (r 1) (a 0) (a 1) (a 3) (a 7) (a 8) k; omega) (by have := bsN_le (fun k => ldN_le (r 0) (r 1) (a 0) (a 1) (a 3) (a 7) (a 8) k) (a 8) k; omega)).mp c32) (Nat.not_lt.mpr h.2))] <;> rfl) | (rw [bsN, if_neg (fun h => by rw [c23] at h; exact absurd h.1 (by decide))] <;> rfl)) (by omega) _ _ hP hD hS ls (lv_sub hl [1, 2, 3, 0] rfl)
          · refine lv_iload_n hx hb dX4_busiest_35 rfl (lv_at hl 3 rfl) ?_
            refine lv_istore_n (lv' := [(1, .int (nI k)), (0, .ref (ad 0)), (2, .int (mI (bsN (ldN (r 0) (r 1) (a 0) (a 1) (a 3) (a 7) (a 8)) (a 8) k).2)), (3, .int (nI k))]) hx hb dX4_busiest_36 rfl hl (by decide) rfl (fun ls hl => ?_)
            refine lv_aload_n hx hb dX4_busiest_37 rfl (lv_at hl 1 rfl) ?_
            refine lv_iload_n hx hb dX4_busiest_38 rfl (lv_at hl 3 rfl) ?_
            refine ca_Vi (ci := 3) (q := (RX4, TX4, 12)) (rest := []) (wr := ([] : va_W)) F hX (mX4_load l G ad a r k hT (by omega)) (cA_V hts kw_564 kw_3 kw_620 kw_562 kw_563 hdX4_load ⟨Nat.le_of_ble_eq_true rfl, Nat.le_of_ble_eq_true rfl⟩) rfl rfl rfl hl.1 rfl (Nat.le_of_ble_eq_true rfl) dX4_busiest_39 ⟨Nat.le_of_ble_eq_true rfl, Nat.le_of_ble_eq_true rfl⟩ hP hD hS hA (pm_nil _) (fun r39 u39 H locs hp39 hP hD hS => ?_)
            have hP : va_P G.1 vwCl (tkw G ad a r) H := wp_pm (pm_nil _).symm hP
            have hD : va_D A (tkw G ad a r) := wd_pm (pm_nil _).symm hD
            subst hp39
            refine lv_istore_n (lv' := [(2, .int (nI (ldN (r 0) (r 1) (a 0) (a 1) (a 3) (a 7) (a 8) k))), (1, .int (nI k)), (0, .ref (ad 0)), (3, .int (nI k))]) hx hb dX4_busiest_42 rfl hl (by decide) rfl (fun ls hl => ?_)
            refine lv_iinc (v := (nI (k + 1))) (lv' := [(3, .int (nI (k + 1))), (2, .int (nI (ldN (r 0) (r 1) (a 0) (a 1) (a 3) (a 7) (a 8) k))), (1, .int (nI k)), (0, .ref (ad 0))]) hx hb dX4_busiest_43 hl (k := 3) rfl (qn_inc _) (by decide) rfl (fun ls hl => ?_)
            refine lv_goto (tgt := 7) hx hb dX4_busiest_46 (by decide) ?_
            exact ih7 (k + 1) (nI k) (nI (ldN (r 0) (r 1) (a 0) (a 1) (a 3) (a 7) (a 8) k)) (by omega) (by first | (rw [bsN, if_pos ⟨c23, Nat.not_lt.mp (fun h => c32 ((mI_le (by have := ldN_le (r 0) (r 1) (a 0) (a 1) (a 3) (a 7) (a 8) k; omega) (by have := bsN_le (fun k => ldN_le (r 0) (r 1) (a 0) (a 1) (a 3) (a 7) (a 8) k) (a 8) k; omega)).mpr h))⟩] <;> rfl) | (rw [bsN, if_neg (fun h => absurd ((mI_le (by have := ldN_le (r 0) (r 1) (a 0) (a 1) (a 3) (a 7) (a 8) k; omega) (by have := bsN_le (fun k => ldN_le (r 0) (r 1) (a 0) (a 1) (a 3) (a 7) (a 8) k) (a 8) k; omega)).mp c32) (Nat.not_lt.mpr h.2))] <;> rfl) | (rw [bsN, if_neg (fun h => by rw [c23] at h; exact absurd h.1 (by decide))] <;> rfl)) (by first | (rw [bsN, if_pos ⟨c23, Nat.not_lt.mp (fun h => c32 ((mI_le (by have := ldN_le (r 0) (r 1) (a 0) (a 1) (a 3) (a 7) (a 8) k; omega) (by have := bsN_le (fun k => ldN_le (r 0) (r 1) (a 0) (a 1) (a 3) (a 7) (a 8) k) (a 8) k; omega)).mpr h))⟩] <;> exact (nI_pred _).symm) | (rw [bsN, if_neg (fun h => absurd ((mI_le (by have := ldN_le (r 0) (r 1) (a 0) (a 1) (a 3) (a 7) (a 8) k; omega) (by have := bsN_le (fun k => ldN_le (r 0) (r 1) (a 0) (a 1) (a 3) (a 7) (a 8) k) (a 8) k; omega)).mp c32) (Nat.not_lt.mpr h.2))] <;> rfl) | (rw [bsN, if_neg (fun h => by rw [c23] at h; exact absurd h.1 (by decide))] <;> rfl)) (by omega) _ _ hP hD hS ls (lv_sub hl [3, 2, 1, 0] rfl)
  exact lp7 _ 0 (-9) (-1) (Nat.lt_succ_self _) rfl rfl (Nat.zero_le _) _ _ hP hD hS ls (lv_sub hl [3, 2, 1, 0] rfl)

/-- the links of the tree without which, of those that are up, somebody is lost -/
def neN (f g : Nat → Nat) (n src L mem tree up : Nat) : Nat → Nat
  | 0 => 0
  | k + 1 => if tree.testBit k = true ∧ mof f g n src L mem up k ≠ 0 then neN f g n src L mem tree up k ||| 2 ^ k else neN f g n src L mem tree up k

theorem hdX4_needed : hdOK yX4_needed 0 := by decide +kernel
set_option maxHeartbeats 4000000 in
set_option maxRecDepth 100000 in
theorem mX4_needed (l : Launch) (G : GG) (ad : Nat → Nat) (a : Nat → Nat) (r : Nat → Nat → Nat) (hT : TB a r) : Mi l yX4_needed cX4_needed 3 (some .int) (rmN 3 67) G [.ref (ad 0)] (tkw G ad a r) (fun (r9 : Int32) (_ : Unit) => r9 = (nI (neN (r 0) (r 1) (a 0) (a 1) (a 3) (a 7) (a 8) (nd (2 ^ a 3 - 1) (a 9)) (a 3)))) (fun (_ : Unit) => tkw G ad a r) := by
  refine Mi.of (cc := cX4_needed) (nL := 3) (by decide) (Nat.le_of_ble_eq_true rfl) ?_
  intro p e s m below meth c A ls F hr hlocks hnm hX hA hD hP hS hl
  have F : CallFix p m c cX4_needed 3 s [.ref (ad 0)].toArray wA RX4 := F
  obtain ⟨hx, hb, hml, hown, hts⟩ := id F
  have hl : lv_has ls 3 [(0, .ref (ad 0))] := hl
  obtain ⟨t0, t1, t2, t3, t4, t5, t6, t7, t8, t9, t10, t11, t12⟩ := id hT
  have hup : nd (2 ^ a 3 - 1) (a 9) < 4096 := by
    have h1 := nd_le (2 ^ a 3 - 1) (a 9)
    have h2 := pw12 t4
    have h3 := Nat.one_le_two_pow (n := a 3)
    omega
  refine lv_iconst (v := (nI 0)) hx hb dX4_needed_0 (by decide) ?_
  refine lv_istore_n (lv' := [(1, .int (nI 0)), (0, .ref (ad 0))]) hx hb dX4_needed_1 rfl hl (by decide) rfl (fun ls hl => ?_)
  refine lv_iconst (v := (nI 0)) hx hb dX4_needed_2 (by decide) ?_
  refine lv_istore_n (lv' := [(2, .int (nI 0)), (1, .int (nI 0)), (0, .ref (ad 0))]) hx hb dX4_needed_3 rfl hl (by decide) rfl (fun ls hl => ?_)
  have lp4 : ∀ (n4 : Nat) (k : Nat) (x : Nat), (a 3 - k) < n4 → x = neN (r 0) (r 1) (a 0) (a 1) (a 3) (a 7) (a 8) (nd (2 ^ a 3 - 1) (a 9)) k → (k ≤ a 3) → ∀ (H : Heap) (locs : List Loc), va_P G.1 vwCl (tkw G ad a r) H → va_D A (tkw G ad a r) → va_S A s.heap H locs → ∀ (ls : Array Slot), lv_has ls 3 [(0, .ref (ad 0)), (1, .int (nI x)), (2, .int (nI k))] → WI p l e (rmN 3 67) s m [.ref (ad 0)] below meth c H locs G A (fun (r9 : Int32) (_ : Unit) => r9 = (nI (neN (r 0) (r 1) (a 0) (a 1) (a 3) (a 7) (a 8) (nd (2 ^ a 3 - 1) (a 9)) (a 3)))) (fun (_ : Unit) => tkw G ad a r) (F0 m 4 ls []) := by
    intro n4
    induction n4 with
    | zero => intro k x h9; exact absurd h9 (Nat.not_lt_zero _)
    | succ n4 ih4 =>
      intro k x hm4 e_x hk_k H locs hP hD hS ls hl
      subst e_x
      refine lv_iload_n hx hb dX4_needed_4 rfl (lv_at hl 2 rfl) ?_
      refine lv_aload_n hx hb dX4_needed_5 rfl (lv_at hl 0 rfl) ?_
      refine va_get (D := G.1) (ci := 3) (v := .int (nI (a 3))) (C := RX4) (T := TX4) (N := 12) hx hb hts inA4 hown hX.1 hP 0 rfl rfl 3 (by decide) (hts _ kw_76) (fun _ h9 => h9) rfl dX4_needed_6 ?_
      refine nv_ge (x := k) (y := a 3) (tgt := 47) hx hb dX4_needed_9 (by decide) (by omega) (by omega) (fun c9 => ?_) (fun c9 => ?_)
      · refine lv_iload_n hx hb dX4_needed_47 rfl (lv_at hl 1 rfl) ?_
        exact re_i (v := (nI (neN (r 0) (r 1) (a 0) (a 1) (a 3) (a 7) (a 8) (nd (2 ^ a 3 - 1) (a 9)) k))) hx hb hr hlocks hS () hP hD (by have e9 : k = a 3 := (by omega); rw [e9]) dX4_needed_48
      · refine lv_aload_n hx hb dX4_needed_12 rfl (lv_at hl 0 rfl) ?_
        refine va_get (D := G.1) (ci := 3) (v := .int (nI (a 8))) (C := RX4) (T := TX4) (N := 12) hx hb hts inA4 hown hX.1 hP 0 rfl rfl 8 (by decide) (hts _ kw_98) (fun _ h9 => h9) rfl dX4_needed_13 ?_
        refine lv_iload_n hx hb dX4_needed_16 rfl (lv_at hl 2 rfl) ?_
        refine ca_Ni (rest := []) (wr := tkw G ad a r) F hX (mX7_has l G (a 8) k (by omega) (by omega)) ⟨cA_N hts kw_357 kw_1 hX.2.2.2.2.2.2.2.2.2.2.1 hdX7_has ⟨Nat.le_of_ble_eq_true rfl, Nat.le_of_ble_eq_true rfl⟩, hts _ kw_356, trivial⟩ rfl hl.1 rfl (Nat.le_of_ble_eq_true rfl) dX4_needed_17 ⟨Nat.le_of_ble_eq_true rfl, Nat.le_of_ble_eq_true rfl⟩ hP hD hS hA (List.Perm.refl _) (fun r17 u17 H locs hp17 hP hD hS => ?_)
        have hP : va_P G.1 vwCl (tkw G ad a r) H := hP
        have hD : va_D A (tkw G ad a r) := hD
        subst hp17
        refine bv_eq (b := (a 8).testBit k) (tgt := 41) hx hb dX4_needed_20 (by decide) (fun c20 => ?_) (fun c20 => ?_)
        · refine lv_iinc (v := (nI (k + 1))) (lv' := [(2, .int (nI (k + 1))), (0, .ref (ad 0)), (1, .int (nI (neN (r 0) (r 1) (a 0) (a 1) (a 3) (a 7) (a 8) (nd (2 ^ a 3 - 1) (a 9)) k)))]) hx hb dX4_needed_41 hl (k := 2) rfl (qn_inc _) (by decide) rfl (fun ls hl => ?_)
          refine lv_goto (tgt := 4) hx hb dX4_needed_44 (by decide) ?_
          exact ih4 (k + 1) (neN (r 0) (r 1) (a 0) (a 1) (a 3) (a 7) (a 8) (nd (2 ^ a 3 - 1) (a 9)) k) (by omega) (by first | (rw [neN, if_pos ⟨c20, c32⟩]; done) | (rw [neN, if_neg (fun h => h.2 c32)]; done) | (rw [neN, if_neg (fun h => by rw [c20] at h; exact absurd h.1 (by decide))]; done)) (by omega) _ _ hP hD hS ls (lv_sub hl [1, 2, 0] rfl)
        · refine lv_aload_n hx hb dX4_needed_23 rfl (lv_at hl 0 rfl) ?_
          refine lv_aload_n hx hb dX4_needed_24 rfl (lv_at hl 0 rfl) ?_
          refine ca_Vi (ci := 3) (q := (RX4, TX4, 12)) (rest := [.ref (ad 0)]) (wr := ([] : va_W)) F hX (mX4_upLinks l G ad a r  hT) (cA_V hts kw_409 kw_3 kw_625 kw_407 kw_408 hdX4_upLinks ⟨Nat.le_of_ble_eq_true rfl, Nat.le_of_ble_eq_true rfl⟩) rfl rfl rfl hl.1 rfl (Nat.le_of_ble_eq_true rfl) dX4_needed_25 ⟨Nat.le_of_ble_eq_true rfl, Nat.le_of_ble_eq_true rfl⟩ hP hD hS hA (pm_nil _) (fun r25 u25 H locs hp25 hP hD hS => ?_)
          have hP : va_P G.1 vwCl (tkw G ad a r) H := wp_pm (pm_nil _).symm hP
          have hD : va_D A (tkw G ad a r) := wd_pm (pm_nil _).symm hD
          subst hp25
          refine lv_iload_n hx hb dX4_needed_28 rfl (lv_at hl 2 rfl) ?_
          refine ca_Vi (ci := 3) (q := (RX4, TX4, 12)) (rest := []) (wr := ([] : va_W)) F hX (mX4_membersOff l G ad a r (nd (2 ^ (a 3) - 1) (a 9)) k hT hup (by omega)) (cA_V hts kw_568 kw_3 kw_565 kw_566 kw_567 hdX4_membersOff ⟨Nat.le_of_ble_eq_true rfl, Nat.le_of_ble_eq_true rfl⟩) rfl rfl rfl hl.1 rfl (Nat.le_of_ble_eq_true rfl) dX4_needed_29 ⟨Nat.le_of_ble_eq_true rfl, Nat.le_of_ble_eq_true rfl⟩ hP hD hS hA (pm_nil _) (fun r29 u29 H locs hp29 hP hD hS => ?_)
          have hP : va_P G.1 vwCl (tkw G ad a r) H := wp_pm (pm_nil _).symm hP
          have hD : va_D A (tkw G ad a r) := wd_pm (pm_nil _).symm hD
          subst hp29
          refine nv_zeq (x := mof (r 0) (r 1) (a 0) (a 1) (a 3) (a 7) (nd (2 ^ (a 3) - 1) (a 9)) k) (tgt := 41) hx hb dX4_needed_32 (by decide) (by have := mof_le (r 0) (r 1) (a 0) (a 1) (a 3) (a 7) (nd (2 ^ a 3 - 1) (a 9)) k; omega) (fun c32 => ?_) (fun c32 => ?_)
          · refine lv_iinc (v := (nI (k + 1))) (lv' := [(2, .int (nI (k + 1))), (0, .ref (ad 0)), (1, .int (nI (neN (r 0) (r 1) (a 0) (a 1) (a 3) (a 7) (a 8) (nd (2 ^ a 3 - 1) (a 9)) k)))]) hx hb dX4_needed_41 hl (k := 2) rfl (qn_inc _) (by decide) rfl (fun ls hl => ?_)
            refine lv_goto (tgt := 4) hx hb dX4_needed_44 (by decide) ?_
            exact ih4 (k + 1) (neN (r 0) (r 1) (a 0) (a 1) (a 3) (a 7) (a 8) (nd (2 ^ a 3 - 1) (a 9)) k) (by omega) (by first | (rw [neN, if_pos ⟨c20, c32⟩]; done) | (rw [neN, if_neg (fun h => h.2 c32)]; done) | (rw [neN, if_neg (fun h => by rw [c20] at h; exact absurd h.1 (by decide))]; done)) (by omega) _ _ hP hD hS ls (lv_sub hl [1, 2, 0] rfl)
          · refine lv_iload_n hx hb dX4_needed_35 rfl (lv_at hl 1 rfl) ?_
            refine lv_iconst (v := (nI 1)) hx hb dX4_needed_36 (by decide) ?_
            refine lv_iload_n hx hb dX4_needed_37 rfl (lv_at hl 2 rfl) ?_
            refine lv_ishl hx hb dX4_needed_38 (ti (y := (nI (2 ^ k))) (qn_sh1 (by omega)) ?_)
            refine lv_ior hx hb dX4_needed_39 (ti (y := (nI ((neN (r 0) (r 1) (a 0) (a 1) (a 3) (a 7) (a 8) (nd (2 ^ a 3 - 1) (a 9)) k) ||| (2 ^ k)))) (qn_or _ _) ?_)
            refine lv_istore_n (lv' := [(1, .int (nI ((neN (r 0) (r 1) (a 0) (a 1) (a 3) (a 7) (a 8) (nd (2 ^ a 3 - 1) (a 9)) k) ||| (2 ^ k)))), (0, .ref (ad 0)), (2, .int (nI k))]) hx hb dX4_needed_40 rfl hl (by decide) rfl (fun ls hl => ?_)
            refine lv_iinc (v := (nI (k + 1))) (lv' := [(2, .int (nI (k + 1))), (1, .int (nI ((neN (r 0) (r 1) (a 0) (a 1) (a 3) (a 7) (a 8) (nd (2 ^ a 3 - 1) (a 9)) k) ||| (2 ^ k)))), (0, .ref (ad 0))]) hx hb dX4_needed_41 hl (k := 2) rfl (qn_inc _) (by decide) rfl (fun ls hl => ?_)
            refine lv_goto (tgt := 4) hx hb dX4_needed_44 (by decide) ?_
            exact ih4 (k + 1) ((neN (r 0) (r 1) (a 0) (a 1) (a 3) (a 7) (a 8) (nd (2 ^ a 3 - 1) (a 9)) k) ||| (2 ^ k)) (by omega) (by first | (rw [neN, if_pos ⟨c20, c32⟩]; done) | (rw [neN, if_neg (fun h => h.2 c32)]; done) | (rw [neN, if_neg (fun h => by rw [c20] at h; exact absurd h.1 (by decide))]; done)) (by omega) _ _ hP hD hS ls (lv_sub hl [2, 1, 0] rfl)
  exact lp4 _ 0 0 (Nat.lt_succ_self _) rfl (Nat.zero_le _) _ _ hP hD hS ls (lv_sub hl [2, 1, 0] rfl)

theorem hdX4_markOf : hdOK yX4_markOf 1 := by decide +kernel
set_option maxHeartbeats 4000000 in
set_option maxRecDepth 100000 in
theorem mX4_markOf (l : Launch) (G : GG) (ad : Nat → Nat) (a : Nat → Nat) (r : Nat → Nat → Nat) (v : Nat) (hT : TB a r) (hv : v < 2 ^ 31) : Mi l yX4_markOf cX4_markOf 3 (some .int) (rmN 0 0) G [.ref (ad 0), .int (nI v)] (tkw G ad a r) (fun (r9 : Int32) (_ : Unit) => r9 = (oN (mkF (r 3) v (a 10)))) (fun (_ : Unit) => tkw G ad a r) := by
  refine Mi.of (cc := cX4_markOf) (nL := 3) (by decide) (Nat.le_of_ble_eq_true rfl) ?_
  intro p e s m below meth c A ls F hr hlocks hnm hX hA hD hP hS hl
  have F : CallFix p m c cX4_markOf 3 s [.ref (ad 0), .int (nI v)].toArray wA RX4 := F
  obtain ⟨hx, hb, hml, hown, hts⟩ := id F
  have hl : lv_has ls 3 [(0, .ref (ad 0)), (1, .int (nI v))] := hl
  obtain ⟨t0, t1, t2, t3, t4, t5, t6, t7, t8, t9, t10, t11, t12⟩ := id hT
  refine lv_iconst (v := (nI 0)) hx hb dX4_markOf_0 (by decide) ?_
  refine lv_istore_n (lv' := [(2, .int (nI 0)), (0, .ref (ad 0)), (1, .int (nI v))]) hx hb dX4_markOf_1 rfl hl (by decide) rfl (fun ls hl => ?_)
  have lp2 : ∀ (n2 : Nat) (k : Nat), (a 10 - k) < n2 → (k ≤ a 10) → (mkF (r 3) v k = none) → ∀ (H : Heap) (locs : List Loc), va_P G.1 vwCl (tkw G ad a r) H → va_D A (tkw G ad a r) → va_S A s.heap H locs → ∀ (ls : Array Slot), lv_has ls 3 [(0, .ref (ad 0)), (1, .int (nI v)), (2, .int (nI k))] → WI p l e (rmN 0 0) s m [.ref (ad 0), .int (nI v)] below meth c H locs G A (fun (r9 : Int32) (_ : Unit) => r9 = (oN (mkF (r 3) v (a 10)))) (fun (_ : Unit) => tkw G ad a r) (F0 m 2 ls []) := by
    intro n2
    induction n2 with
    | zero => intro k h9; exact absurd h9 (Nat.not_lt_zero _)
    | succ n2 ih2 =>
      intro k hm2  hk hq H locs hP hD hS ls hl
      refine lv_iload_n hx hb dX4_markOf_2 rfl (lv_at hl 2 rfl) ?_
      refine lv_aload_n hx hb dX4_markOf_3 rfl (lv_at hl 0 rfl) ?_
      refine va_get (D := G.1) (ci := 3) (v := .int (nI (a 10))) (C := RX4) (T := TX4) (N := 12) hx hb hts inA4 hown hX.1 hP 0 rfl rfl 10 (by decide) (hts _ kw_103) (fun _ h9 => h9) rfl dX4_markOf_4 ?_
      refine nv_ge (x := k) (y := a 10) (tgt := 28) hx hb dX4_markOf_7 (by decide) (by omega) (by omega) (fun c7 => ?_) (fun c7 => ?_)
      · refine lv_bipush (v := (-9)) hx hb dX4_markOf_28 (by decide) ?_
        exact re_i (v := (-9)) hx hb hr hlocks hS () hP hD (by have e9 : k = a 10 := (by omega); rw [← e9, hq]; rfl) dX4_markOf_30
      · refine lv_aload_n hx hb dX4_markOf_10 rfl (lv_at hl 0 rfl) ?_
        refine va_get (D := G.1) (ci := 3) (v := .ref (ad 4)) (C := RX4) (T := TX4) (N := 12) hx hb hts inA4 hown hX.1 hP 0 rfl rfl 11 (by decide) (hts _ kw_106) (fun _ h9 => h9) rfl dX4_markOf_11 ?_
        refine lv_iload_n hx hb dX4_markOf_14 rfl (lv_at hl 2 rfl) ?_
        refine nv_ald (f := r 3) (k := k) hx hb hX hP 4 rfl (by omega) (by decide) dX4_markOf_15 ?_
        refine lv_iload_n hx hb dX4_markOf_16 rfl (lv_at hl 1 rfl) ?_
        refine nv_ne (x := (r 3) k) (y := v) (tgt := 22) hx hb dX4_markOf_17 (by decide) (by have := t12 k; omega) (by omega) (fun c17 => ?_) (fun c17 => ?_)
        · refine lv_iinc (v := (nI (k + 1))) (lv' := [(2, .int (nI (k + 1))), (0, .ref (ad 0)), (1, .int (nI v))]) hx hb dX4_markOf_22 hl (k := 2) rfl (qn_inc _) (by decide) rfl (fun ls hl => ?_)
          refine lv_goto (tgt := 2) hx hb dX4_markOf_25 (by decide) ?_
          exact ih2 (k + 1) (by omega) (by omega) (by rw [mkF, hq]; exact if_neg c17) _ _ hP hD hS ls (lv_sub hl [1, 2, 0] rfl)
        · refine lv_iload_n hx hb dX4_markOf_20 rfl (lv_at hl 2 rfl) ?_
          exact re_i (v := (nI k)) hx hb hr hlocks hS () hP hD (by rw [mkF_some (k := k + 1) (j := k) (by omega) (by rw [mkF, hq]; exact if_pos c17)]; rfl) dX4_markOf_21
  exact lp2 _ 0 (Nat.lt_succ_self _) (Nat.zero_le _) rfl _ _ hP hD hS ls (lv_sub hl [1, 2, 0] rfl)

theorem hdX4_turnMark : hdOK yX4_turnMark 1 := by decide +kernel
set_option maxHeartbeats 4000000 in
set_option maxRecDepth 100000 in
theorem mX4_turnMark_yes (l : Launch) (G : GG) (ad : Nat → Nat) (a : Nat → Nat) (r : Nat → Nat → Nat) (v j : Nat) (hT : TB a r) (hv : v < 2 ^ 31) (hj : mkF (r 3) v (a 10) = some j) : Mv l yX4_turnMark cX4_turnMark 3 none (rmN 1 26) G [.ref (ad 0), .int (nI v)] (tkw G ad a r) (fun (_ : Unit) => True) (fun (_ : Unit) => tkw G ad (va_up a 10 (a 10 - 1)) (va_up r 3 (va_cpy (r 3) (r 3) (j + 1) j (a 10 - 1 - j)))) := by
  refine Mv.of (cc := cX4_turnMark) (nL := 3) (by decide) (Nat.le_of_ble_eq_true rfl) ?_
  intro p e s m below meth c A ls F hr hlocks hnm hX hA hD hP hS hl
  have F : CallFix p m c cX4_turnMark 3 s [.ref (ad 0), .int (nI v)].toArray wA RX4 := F
  obtain ⟨hx, hb, hml, hown, hts⟩ := id F
  have hl : lv_has ls 3 [(0, .ref (ad 0)), (1, .int (nI v))] := hl
  obtain ⟨t0, t1, t2, t3, t4, t5, t6, t7, t8, t9, t10, t11, t12⟩ := id hT
  have hj2 := mkF_lt hj
  refine lv_aload_n hx hb dX4_turnMark_0 rfl (lv_at hl 0 rfl) ?_
  refine lv_iload_n hx hb dX4_turnMark_1 rfl (lv_at hl 1 rfl) ?_
  refine ca_Vi (ci := 3) (q := (RX4, TX4, 12)) (rest := []) (wr := ([] : va_W)) F hX (mX4_markOf l G ad a r v hT (by omega)) (cA_V hts kw_463 kw_3 kw_460 kw_461 kw_462 hdX4_markOf ⟨Nat.le_of_ble_eq_true rfl, Nat.le_of_ble_eq_true rfl⟩) rfl rfl rfl hl.1 rfl (Nat.le_of_ble_eq_true rfl) dX4_turnMark_2 ⟨Nat.le_of_ble_eq_true rfl, Nat.le_of_ble_eq_true rfl⟩ hP hD hS hA (pm_nil _) (fun r2 u2 H locs hp2 hP hD hS => ?_)
  have hP : va_P G.1 vwCl (tkw G ad a r) H := wp_pm (pm_nil _).symm hP
  have hD : va_D A (tkw G ad a r) := wd_pm (pm_nil _).symm hD
  subst hp2
  refine ti (y := (nI j)) (by rw [hj]; rfl) ?_
  refine lv_istore_n (lv' := [(2, .int (nI j)), (0, .ref (ad 0)), (1, .int (nI v))]) hx hb dX4_turnMark_5 rfl hl (by decide) rfl (fun ls hl => ?_)
  refine lv_iload_n hx hb dX4_turnMark_6 rfl (lv_at hl 0 rfl) ?_
  refine nv_zlt (x := j) (tgt := 44) hx hb dX4_turnMark_7 (by decide) (by omega) ?_
  refine lv_aload_n hx hb dX4_turnMark_10 rfl (lv_at hl 1 rfl) ?_
  refine lv_dup hx hb dX4_turnMark_11 rfl ?_
  refine va_get (D := G.1) (ci := 3) (v := .int (nI (a 10))) (C := RX4) (T := TX4) (N := 12) hx hb hts inA4 hown hX.1 hP 0 rfl rfl 10 (by decide) (hts _ kw_103) (fun _ h9 => h9) rfl dX4_turnMark_12 ?_
  refine lv_iconst (v := (nI 1)) hx hb dX4_turnMark_15 (by decide) ?_
  refine lv_isub hx hb dX4_turnMark_16 (ti (y := (nI ((a 10) - 1))) (pk_sub (by omega)) ?_)
  refine va_put (D := G.1) (ci := 3) (v := .int (nI ((a 10) - 1))) (ty := .int) (C := RX4) (T := TX4) (N := 12) hx hb hts inA4 tyX4 tyX4_ok nmX4 hown hX.1 hP hD hS 0 rfl rfl 10 (by decide) (hts _ kw_103) (fun _ h9 => h9) rfl (by decide +kernel) rfl rfl (Nat.le_of_ble_eq_true rfl) dX4_turnMark_17 (fun H locs hP hD hS => ?_)
  have hP : va_P G.1 vwCl (tkw G ad (va_up a 10 ((a 10) - 1)) r) H := hP
  have hD : va_D A (tkw G ad (va_up a 10 ((a 10) - 1)) r) := hD
  refine lv_aload_n hx hb dX4_turnMark_20 rfl (lv_at hl 1 rfl) ?_
  refine va_get (D := G.1) (ci := 3) (v := .ref (ad 4)) (C := RX4) (T := TX4) (N := 12) hx hb hts inA4 hown hX.1 hP 0 rfl rfl 11 (by decide) (hts _ kw_106) (fun _ h9 => h9) rfl dX4_turnMark_21 ?_
  refine lv_iload_n hx hb dX4_turnMark_24 rfl (lv_at hl 0 rfl) ?_
  refine lv_iconst (v := (nI 1)) hx hb dX4_turnMark_25 (by decide) ?_
  refine lv_iadd hx hb dX4_turnMark_26 (ti (y := (nI (j + 1))) (nI_add _ _) ?_)
  refine lv_aload_n hx hb dX4_turnMark_27 rfl (lv_at hl 1 rfl) ?_
  refine va_get (D := G.1) (ci := 3) (v := .ref (ad 4)) (C := RX4) (T := TX4) (N := 12) hx hb hts inA4 hown hX.1 hP 0 rfl rfl 11 (by decide) (hts _ kw_106) (fun _ h9 => h9) rfl dX4_turnMark_28 ?_
  refine lv_iload_n hx hb dX4_turnMark_31 rfl (lv_at hl 0 rfl) ?_
  refine lv_aload_n hx hb dX4_turnMark_32 rfl (lv_at hl 1 rfl) ?_
  refine va_get (D := G.1) (ci := 3) (v := .int (nI ((a 10) - 1))) (C := RX4) (T := TX4) (N := 12) hx hb hts inA4 hown hX.1 hP 0 rfl rfl 10 (by decide) (hts _ kw_103) (fun _ h9 => h9) rfl dX4_turnMark_33 ?_
  refine lv_iload_n hx hb dX4_turnMark_36 rfl (lv_at hl 0 rfl) ?_
  refine lv_isub hx hb dX4_turnMark_37 (ti (y := (nI (((a 10) - 1) - j))) (pk_sub (by omega)) ?_)
  refine nv_cpy (rest := []) (f := r 3) (g := r 3) (sp := j + 1) (dp := j) (n := ((a 10) - 1) - j) F hl.1 hX kw_374 kw_376 kw_375 kw_13 hP hD hS 4 4 rfl rfl (by omega) (by omega) (by decide) (by decide) (by decide) (Nat.le_of_ble_eq_true rfl) dX4_turnMark_38 (fun H locs hP hD hS => ?_)
  have hP : va_P G.1 vwCl (tkw G ad (va_up a 10 ((a 10) - 1)) (va_up r 3 (va_cpy (r 3) (r 3) (j + 1) j (((a 10) - 1) - j)))) H := hP
  have hD : va_D A (tkw G ad (va_up a 10 ((a 10) - 1)) (va_up r 3 (va_cpy (r 3) (r 3) (j + 1) j (((a 10) - 1) - j)))) := hD
  refine lv_goto (tgt := 73) hx hb dX4_turnMark_41 (by decide) ?_
  exact re_v hx hb hr hlocks hS () hP hD trivial dX4_turnMark_73

set_option maxHeartbeats 4000000 in
set_option maxRecDepth 100000 in
theorem mX4_turnMark_no (l : Launch) (G : GG) (ad : Nat → Nat) (a : Nat → Nat) (r : Nat → Nat → Nat) (v : Nat) (hT : TB a r) (hv : v < 2 ^ 31) (hj : mkF (r 3) v (a 10) = none) (hc : a 10 < 7) : Mv l yX4_turnMark cX4_turnMark 3 none (rmN 1 26) G [.ref (ad 0), .int (nI v)] (tkw G ad a r) (fun (_ : Unit) => True) (fun (_ : Unit) => tkw G ad (va_up a 10 (a 10 + 1)) (va_up r 3 (va_up (r 3) (a 10) v))) := by
  refine Mv.of (cc := cX4_turnMark) (nL := 3) (by decide) (Nat.le_of_ble_eq_true rfl) ?_
  intro p e s m below meth c A ls F hr hlocks hnm hX hA hD hP hS hl
  have F : CallFix p m c cX4_turnMark 3 s [.ref (ad 0), .int (nI v)].toArray wA RX4 := F
  obtain ⟨hx, hb, hml, hown, hts⟩ := id F
  have hl : lv_has ls 3 [(0, .ref (ad 0)), (1, .int (nI v))] := hl
  obtain ⟨t0, t1, t2, t3, t4, t5, t6, t7, t8, t9, t10, t11, t12⟩ := id hT
  refine lv_aload_n hx hb dX4_turnMark_0 rfl (lv_at hl 0 rfl) ?_
  refine lv_iload_n hx hb dX4_turnMark_1 rfl (lv_at hl 1 rfl) ?_
  refine ca_Vi (ci := 3) (q := (RX4, TX4, 12)) (rest := []) (wr := ([] : va_W)) F hX (mX4_markOf l G ad a r v hT (by omega)) (cA_V hts kw_463 kw_3 kw_460 kw_461 kw_462 hdX4_markOf ⟨Nat.le_of_ble_eq_true rfl, Nat.le_of_ble_eq_true rfl⟩) rfl rfl rfl hl.1 rfl (Nat.le_of_ble_eq_true rfl) dX4_turnMark_2 ⟨Nat.le_of_ble_eq_true rfl, Nat.le_of_ble_eq_true rfl⟩ hP hD hS hA (pm_nil _) (fun r2 u2 H locs hp2 hP hD hS => ?_)
  have hP : va_P G.1 vwCl (tkw G ad a r) H := wp_pm (pm_nil _).symm hP
  have hD : va_D A (tkw G ad a r) := wd_pm (pm_nil _).symm hD
  subst hp2
  refine ti (y := (-9)) (by rw [hj]; rfl) ?_
  refine lv_istore_n (lv' := [(2, .int (-9)), (0, .ref (ad 0)), (1, .int (nI v))]) hx hb dX4_turnMark_5 rfl hl (by decide) rfl (fun ls hl => ?_)
  refine lv_iload_n hx hb dX4_turnMark_6 rfl (lv_at hl 0 rfl) ?_
  refine lv_if_lt (x := (-9)) (tgt := 44) hx hb dX4_turnMark_7 (by decide) (fun c7 => ?_) (fun c7 => ?_)
  · refine lv_aload_n hx hb dX4_turnMark_44 rfl (lv_at hl 1 rfl) ?_
    refine va_get (D := G.1) (ci := 3) (v := .int (nI (a 10))) (C := RX4) (T := TX4) (N := 12) hx hb hts inA4 hown hX.1 hP 0 rfl rfl 10 (by decide) (hts _ kw_103) (fun _ h9 => h9) rfl dX4_turnMark_45 ?_
    refine lv_bipush (v := (nI 7)) hx hb dX4_turnMark_48 (by decide) ?_
    refine nv_ge (x := a 10) (y := 7) (tgt := 73) hx hb dX4_turnMark_50 (by decide) (by omega) (by decide) (fun c50 => ?_) (fun c50 => ?_)
    · exact absurd c50 (by omega)
    · refine lv_aload_n hx hb dX4_turnMark_53 rfl (lv_at hl 1 rfl) ?_
      refine va_get (D := G.1) (ci := 3) (v := .ref (ad 4)) (C := RX4) (T := TX4) (N := 12) hx hb hts inA4 hown hX.1 hP 0 rfl rfl 11 (by decide) (hts _ kw_106) (fun _ h9 => h9) rfl dX4_turnMark_54 ?_
      refine lv_aload_n hx hb dX4_turnMark_57 rfl (lv_at hl 1 rfl) ?_
      refine va_get (D := G.1) (ci := 3) (v := .int (nI (a 10))) (C := RX4) (T := TX4) (N := 12) hx hb hts inA4 hown hX.1 hP 0 rfl rfl 10 (by decide) (hts _ kw_103) (fun _ h9 => h9) rfl dX4_turnMark_58 ?_
      refine lv_iload_n hx hb dX4_turnMark_61 rfl (lv_at hl 2 rfl) ?_
      refine nv_ast (f := r 3) (k := a 10) (v := v) hx hb hX hP hD hS 4 rfl (by omega) (by decide) dX4_turnMark_62 (fun H locs hP hD hS => ?_)
      have hP : va_P G.1 vwCl (tkw G ad a (va_up r 3 (va_up (r 3) (a 10) v))) H := hP
      have hD : va_D A (tkw G ad a (va_up r 3 (va_up (r 3) (a 10) v))) := hD
      refine lv_aload_n hx hb dX4_turnMark_63 rfl (lv_at hl 1 rfl) ?_
      refine lv_dup hx hb dX4_turnMark_64 rfl ?_
      refine va_get (D := G.1) (ci := 3) (v := .int (nI (a 10))) (C := RX4) (T := TX4) (N := 12) hx hb hts inA4 hown hX.1 hP 0 rfl rfl 10 (by decide) (hts _ kw_103) (fun _ h9 => h9) rfl dX4_turnMark_65 ?_
      refine lv_iconst (v := (nI 1)) hx hb dX4_turnMark_68 (by decide) ?_
      refine lv_iadd hx hb dX4_turnMark_69 (ti (y := (nI ((a 10) + 1))) (nI_add _ _) ?_)
      refine va_put (D := G.1) (ci := 3) (v := .int (nI ((a 10) + 1))) (ty := .int) (C := RX4) (T := TX4) (N := 12) hx hb hts inA4 tyX4 tyX4_ok nmX4 hown hX.1 hP hD hS 0 rfl rfl 10 (by decide) (hts _ kw_103) (fun _ h9 => h9) rfl (by decide +kernel) rfl rfl (Nat.le_of_ble_eq_true rfl) dX4_turnMark_70 (fun H locs hP hD hS => ?_)
      have hP : va_P G.1 vwCl (tkw G ad (va_up a 10 ((a 10) + 1)) (va_up r 3 (va_up (r 3) (a 10) v))) H := hP
      have hD : va_D A (tkw G ad (va_up a 10 ((a 10) + 1)) (va_up r 3 (va_up (r 3) (a 10) v))) := hD
      exact re_v hx hb hr hlocks hS () hP hD trivial dX4_turnMark_73
  · exact absurd (by decide) c7

theorem hdX4_prune : hdOK yX4_prune 0 := by decide +kernel
set_option maxHeartbeats 4000000 in
set_option maxRecDepth 100000 in
theorem mX4_prune (l : Launch) (G : GG) (ad : Nat → Nat) (a : Nat → Nat) (r : Nat → Nat → Nat) (hT : TB a r) : Mv l yX4_prune cX4_prune 5 none (rmN 2 44) G [.ref (ad 0)] (tkw G ad a r) (fun (_ : Unit) => True) (fun (_ : Unit) => tkw G ad (va_up a 8 (prN (r 0) (r 1) (a 7 ||| 2 ^ a 1) (a 3) (a 0) (fun x => bts x 12) (a 0) (a 8))) r) := by
  refine Mv.of (cc := cX4_prune) (nL := 5) (by decide) (Nat.le_of_ble_eq_true rfl) ?_
  intro p e s m below meth c A ls F hr hlocks hnm hX hA hD hP hS hl
  have F : CallFix p m c cX4_prune 5 s [.ref (ad 0)].toArray wA RX4 := F
  obtain ⟨hx, hb, hml, hown, hts⟩ := id F
  have hl : lv_has ls 5 [(0, .ref (ad 0))] := hl
  obtain ⟨t0, t1, t2, t3, t4, t5, t6, t7, t8, t9, t10, t11, t12⟩ := id hT
  have hsv : a 7 ||| 2 ^ a 1 < 128 := or_lt (n := 7) t8 (pw_lt (by omega))
  refine lv_aload_n hx hb dX4_prune_0 rfl (lv_at hl 0 rfl) ?_
  refine va_get (D := G.1) (ci := 3) (v := .int (nI (a 7))) (C := RX4) (T := TX4) (N := 12) hx hb hts inA4 hown hX.1 hP 0 rfl rfl 7 (by decide) (hts _ kw_94) (fun _ h9 => h9) rfl dX4_prune_1 ?_
  refine lv_iconst (v := (nI 1)) hx hb dX4_prune_4 (by decide) ?_
  refine lv_aload_n hx hb dX4_prune_5 rfl (lv_at hl 0 rfl) ?_
  refine va_get (D := G.1) (ci := 3) (v := .int (nI (a 1))) (C := RX4) (T := TX4) (N := 12) hx hb hts inA4 hown hX.1 hP 0 rfl rfl 1 (by decide) (hts _ kw_69) (fun _ h9 => h9) rfl dX4_prune_6 ?_
  refine lv_ishl hx hb dX4_prune_9 (ti (y := (nI (2 ^ (a 1)))) (qn_sh1 (by omega)) ?_)
  refine lv_ior hx hb dX4_prune_10 (ti (y := (nI ((a 7) ||| (2 ^ (a 1))))) (qn_or _ _) ?_)
  refine lv_istore_n (lv' := [(1, .int (nI ((a 7) ||| (2 ^ (a 1))))), (0, .ref (ad 0))]) hx hb dX4_prune_11 rfl hl (by decide) rfl (fun ls hl => ?_)
  refine lv_iconst (v := (nI 0)) hx hb dX4_prune_12 (by decide) ?_
  refine lv_istore_n (lv' := [(2, .int (nI 0)), (1, .int (nI ((a 7) ||| (2 ^ (a 1))))), (0, .ref (ad 0))]) hx hb dX4_prune_13 rfl hl (by decide) rfl (fun ls hl => ?_)
  have lp14 : ∀ (n14 : Nat) (q : Nat) (t : Nat), (a 0 - q) < n14 → t = prN (r 0) (r 1) (a 7 ||| 2 ^ a 1) (a 3) (a 0) (fun x => bts x 12) q (a 8) → (q ≤ a 0) → ∀ (H : Heap) (locs : List Loc), va_P G.1 vwCl (tkw G ad (va_up a 8 t) r) H → va_D A (tkw G ad (va_up a 8 t) r) → va_S A s.heap H locs → ∀ (ls : Array Slot), lv_has ls 5 [(0, .ref (ad 0)), (1, .int (nI (a 7 ||| 2 ^ a 1))), (2, .int (nI q))] → WV p l e (rmN 2 44) s m [.ref (ad 0)] below meth c H locs G A (fun (_ : Unit) => True) (fun (_ : Unit) => tkw G ad (va_up a 8 (prN (r 0) (r 1) (a 7 ||| 2 ^ a 1) (a 3) (a 0) (fun x => bts x 12) (a 0) (a 8))) r) (F0 m 14 ls []) := by
    intro n14
    induction n14 with
    | zero => intro q t h9; exact absurd h9 (Nat.not_lt_zero _)
    | succ n14 ih14 =>
      intro q t hm14 e_t hq H locs hP hD hS ls hl
      subst e_t
      refine lv_iload_n hx hb dX4_prune_14 rfl (lv_at hl 2 rfl) ?_
      refine lv_aload_n hx hb dX4_prune_15 rfl (lv_at hl 0 rfl) ?_
      refine va_get (D := G.1) (ci := 3) (v := .int (nI (a 0))) (C := RX4) (T := TX4) (N := 12) hx hb hts inA4 hown hX.1 hP 0 rfl rfl 0 (by decide) (hts _ kw_62) (fun _ h9 => h9) rfl dX4_prune_16 ?_
      refine nv_ge (x := q) (y := a 0) (tgt := 86) hx hb dX4_prune_19 (by decide) (by omega) (by omega) (fun c19 => ?_) (fun c19 => ?_)
      · have e9 : q = a 0 := (by omega)
        rw [e9] at hP hD
        exact re_v hx hb hr hlocks hS () hP hD trivial dX4_prune_86
      · refine lv_iconst (v := (nI 0)) hx hb dX4_prune_22 (by decide) ?_
        refine lv_istore_n (lv' := [(3, .int (nI 0)), (0, .ref (ad 0)), (1, .int (nI (a 7 ||| 2 ^ a 1))), (2, .int (nI q))]) hx hb dX4_prune_23 rfl hl (by decide) rfl (fun ls hl => ?_)
        have lp24 : ∀ (n24 : Nat) (v : Nat) (t : Nat), (a 0 - v) < n24 → t = prR (r 0) (r 1) (a 7 ||| 2 ^ a 1) (a 3) (fun x => bts x 12) v (prN (r 0) (r 1) (a 7 ||| 2 ^ a 1) (a 3) (a 0) (fun x => bts x 12) q (a 8)) → (v ≤ a 0) → ∀ (H : Heap) (locs : List Loc), va_P G.1 vwCl (tkw G ad (va_up a 8 t) r) H → va_D A (tkw G ad (va_up a 8 t) r) → va_S A s.heap H locs → ∀ (ls : Array Slot), lv_has ls 5 [(0, .ref (ad 0)), (1, .int (nI (a 7 ||| 2 ^ a 1))), (2, .int (nI q)), (3, .int (nI v))] → WV p l e (rmN 2 44) s m [.ref (ad 0)] below meth c H locs G A (fun (_ : Unit) => True) (fun (_ : Unit) => tkw G ad (va_up a 8 (prN (r 0) (r 1) (a 7 ||| 2 ^ a 1) (a 3) (a 0) (fun x => bts x 12) (a 0) (a 8))) r) (F0 m 24 ls []) := by
          intro n24
          induction n24 with
          | zero => intro v t h9; exact absurd h9 (Nat.not_lt_zero _)
          | succ n24 ih24 =>
            intro v t hm24 e_t hv H locs hP hD hS ls hl
            subst e_t
            refine lv_iload_n hx hb dX4_prune_24 rfl (lv_at hl 3 rfl) ?_
            refine lv_aload_n hx hb dX4_prune_25 rfl (lv_at hl 0 rfl) ?_
            refine va_get (D := G.1) (ci := 3) (v := .int (nI (a 0))) (C := RX4) (T := TX4) (N := 12) hx hb hts inA4 hown hX.1 hP 0 rfl rfl 0 (by decide) (hts _ kw_62) (fun _ h9 => h9) rfl dX4_prune_26 ?_
            refine nv_ge (x := v) (y := a 0) (tgt := 80) hx hb dX4_prune_29 (by decide) (by omega) (by omega) (fun c29 => ?_) (fun c29 => ?_)
            · refine lv_iinc (v := (nI (q + 1))) (lv' := [(2, .int (nI (q + 1))), (0, .ref (ad 0)), (1, .int (nI (a 7 ||| 2 ^ a 1))), (3, .int (nI v))]) hx hb dX4_prune_80 hl (k := 2) rfl (qn_inc _) (by decide) rfl (fun ls hl => ?_)
              refine lv_goto (tgt := 14) hx hb dX4_prune_83 (by decide) ?_
              exact ih14 (q + 1) (prR (r 0) (r 1) (a 7 ||| 2 ^ a 1) (a 3) (fun x => bts x 12) v (prN (r 0) (r 1) (a 7 ||| 2 ^ a 1) (a 3) (a 0) (fun x => bts x 12) q (a 8))) (by omega) (by have e9 : v = a 0 := (by omega); rw [e9]; rfl) (by omega) _ _ hP hD hS ls (lv_sub hl [1, 2, 0] rfl)
            · refine lv_aload_n hx hb dX4_prune_32 rfl (lv_at hl 0 rfl) ?_
              refine lv_iload_n hx hb dX4_prune_33 rfl (lv_at hl 3 rfl) ?_
              have hT2 := hT.tr (t := prR (r 0) (r 1) (a 7 ||| 2 ^ a 1) (a 3) (fun x => bts x 12) v (prN (r 0) (r 1) (a 7 ||| 2 ^ a 1) (a 3) (a 0) (fun x => bts x 12) q (a 8))) (by have h1 := prR_le (r 0) (r 1) (a 7 ||| 2 ^ a 1) (a 3) (fun x => bts x 12) (prN (r 0) (r 1) (a 7 ||| 2 ^ a 1) (a 3) (a 0) (fun x => bts x 12) q (a 8)) v; have h2 := prN_le (r 0) (r 1) (a 7 ||| 2 ^ a 1) (a 3) (a 0) (fun x => bts x 12) (a 8) q; omega)
              refine ca_Vi (ci := 3) (q := (RX4, TX4, 12)) (rest := []) (wr := ([] : va_W)) F hX (mX4_linksAt l G ad (va_up a 8 (prR (r 0) (r 1) (a 7 ||| 2 ^ a 1) (a 3) (fun x => bts x 12) v (prN (r 0) (r 1) (a 7 ||| 2 ^ a 1) (a 3) (a 0) (fun x => bts x 12) q (a 8)))) r v hT2 (by omega)) (cA_V hts kw_350 kw_3 kw_347 kw_348 kw_349 hdX4_linksAt ⟨Nat.le_of_ble_eq_true rfl, Nat.le_of_ble_eq_true rfl⟩) rfl rfl rfl hl.1 rfl (Nat.le_of_ble_eq_true rfl) dX4_prune_34 ⟨Nat.le_of_ble_eq_true rfl, Nat.le_of_ble_eq_true rfl⟩ hP hD hS hA (pm_nil _) (fun r34 u34 H locs hp34 hP hD hS => ?_)
              have hP : va_P G.1 vwCl (tkw G ad (va_up a 8 (prR (r 0) (r 1) (a 7 ||| 2 ^ a 1) (a 3) (fun x => bts x 12) v (prN (r 0) (r 1) (a 7 ||| 2 ^ a 1) (a 3) (a 0) (fun x => bts x 12) q (a 8)))) r) H := wp_pm (pm_nil _).symm hP
              have hD : va_D A (tkw G ad (va_up a 8 (prR (r 0) (r 1) (a 7 ||| 2 ^ a 1) (a 3) (fun x => bts x 12) v (prN (r 0) (r 1) (a 7 ||| 2 ^ a 1) (a 3) (a 0) (fun x => bts x 12) q (a 8)))) r) := wd_pm (pm_nil _).symm hD
              subst hp34
              refine lv_aload_n hx hb dX4_prune_37 rfl (lv_at hl 0 rfl) ?_
              refine va_get (D := G.1) (ci := 3) (v := .int (nI (prR (r 0) (r 1) (a 7 ||| 2 ^ a 1) (a 3) (fun x => bts x 12) v (prN (r 0) (r 1) (a 7 ||| 2 ^ a 1) (a 3) (a 0) (fun x => bts x 12) q (a 8))))) (C := RX4) (T := TX4) (N := 12) hx hb hts inA4 hown hX.1 hP 0 rfl rfl 8 (by decide) (hts _ kw_98) (fun _ h9 => h9) rfl dX4_prune_38 ?_
              refine lv_iand hx hb dX4_prune_41 (ti (y := (nI ((lkA (r 0) (r 1) v (a 3)) &&& (prR (r 0) (r 1) (a 7 ||| 2 ^ a 1) (a 3) (fun x => bts x 12) v (prN (r 0) (r 1) (a 7 ||| 2 ^ a 1) (a 3) (a 0) (fun x => bts x 12) q (a 8)))))) (qn_and _ _) ?_)
              refine lv_istore (lv' := [(4, .int (nI ((lkA (r 0) (r 1) v (a 3)) &&& (prR (r 0) (r 1) (a 7 ||| 2 ^ a 1) (a 3) (fun x => bts x 12) v (prN (r 0) (r 1) (a 7 ||| 2 ^ a 1) (a 3) (a 0) (fun x => bts x 12) q (a 8)))))), (0, .ref (ad 0)), (1, .int (nI (a 7 ||| 2 ^ a 1))), (2, .int (nI q)), (3, .int (nI v))]) hx hb dX4_prune_42 hl (by decide) rfl (fun ls hl => ?_)
              refine lv_iload_n hx hb dX4_prune_44 rfl (lv_at hl 2 rfl) ?_
              refine lv_iload_n hx hb dX4_prune_45 rfl (lv_at hl 4 rfl) ?_
              refine ca_Ni (rest := []) (wr := tkw G ad (va_up a 8 (prR (r 0) (r 1) (a 7 ||| 2 ^ a 1) (a 3) (fun x => bts x 12) v (prN (r 0) (r 1) (a 7 ||| 2 ^ a 1) (a 3) (a 0) (fun x => bts x 12) q (a 8)))) r) F hX (mX7_has l G (a 7 ||| 2 ^ a 1) v (by omega) (by omega)) ⟨cA_N hts kw_357 kw_1 hX.2.2.2.2.2.2.2.2.2.2.1 hdX7_has ⟨Nat.le_of_ble_eq_true rfl, Nat.le_of_ble_eq_true rfl⟩, hts _ kw_356, trivial⟩ rfl hl.1 rfl (Nat.le_of_ble_eq_true rfl) dX4_prune_46 ⟨Nat.le_of_ble_eq_true rfl, Nat.le_of_ble_eq_true rfl⟩ hP hD hS hA (List.Perm.refl _) (fun r46 u46 H locs hp46 hP hD hS => ?_)
              have hP : va_P G.1 vwCl (tkw G ad (va_up a 8 (prR (r 0) (r 1) (a 7 ||| 2 ^ a 1) (a 3) (fun x => bts x 12) v (prN (r 0) (r 1) (a 7 ||| 2 ^ a 1) (a 3) (a 0) (fun x => bts x 12) q (a 8)))) r) H := hP
              have hD : va_D A (tkw G ad (va_up a 8 (prR (r 0) (r 1) (a 7 ||| 2 ^ a 1) (a 3) (fun x => bts x 12) v (prN (r 0) (r 1) (a 7 ||| 2 ^ a 1) (a 3) (a 0) (fun x => bts x 12) q (a 8)))) r) := hD
              subst hp46
              refine bv_ne (b := (a 7 ||| 2 ^ a 1).testBit v) (tgt := 74) hx hb dX4_prune_49 (by decide) (fun c49 => ?_) (fun c49 => ?_)
              · refine lv_iinc (v := (nI (v + 1))) (lv' := [(3, .int (nI (v + 1))), (4, .int (nI ((lkA (r 0) (r 1) v (a 3)) &&& (prR (r 0) (r 1) (a 7 ||| 2 ^ a 1) (a 3) (fun x => bts x 12) v (prN (r 0) (r 1) (a 7 ||| 2 ^ a 1) (a 3) (a 0) (fun x => bts x 12) q (a 8)))))), (0, .ref (ad 0)), (1, .int (nI (a 7 ||| 2 ^ a 1))), (2, .int (nI q))]) hx hb dX4_prune_74 hl (k := 4) rfl (qn_inc _) (by decide) rfl (fun ls hl => ?_)
                refine lv_goto (tgt := 24) hx hb dX4_prune_77 (by decide) ?_
                exact ih24 (v + 1) (prR (r 0) (r 1) (a 7 ||| 2 ^ a 1) (a 3) (fun x => bts x 12) v (prN (r 0) (r 1) (a 7 ||| 2 ^ a 1) (a 3) (a 0) (fun x => bts x 12) q (a 8))) (by omega) (by first | (rw [prR, prS, if_pos ⟨c49, c58⟩]; done) | (rw [prR, prS, if_neg (fun h => c58 h.2)]; done) | (rw [prR, prS, if_neg (fun h => by rw [c49] at h; exact absurd h.1 (by decide))]; done)) (by omega) _ _ hP hD hS ls (lv_sub hl [2, 3, 4, 0] rfl)
              · refine lv_iload hx hb dX4_prune_52 (lv_at hl 0 rfl) ?_
                refine ca_Si (rest := []) (wr := tkw G ad (va_up a 8 (prR (r 0) (r 1) (a 7 ||| 2 ^ a 1) (a 3) (fun x => bts x 12) v (prN (r 0) (r 1) (a 7 ||| 2 ^ a 1) (a 3) (a 0) (fun x => bts x 12) q (a 8)))) r) F hX (mJ6_bitCount_0f7a4 l G ((lkA (r 0) (r 1) v (a 3)) &&& (prR (r 0) (r 1) (a 7 ||| 2 ^ a 1) (a 3) (fun x => bts x 12) v (prN (r 0) (r 1) (a 7 ||| 2 ^ a 1) (a 3) (a 0) (fun x => bts x 12) q (a 8)))) (Nat.lt_of_le_of_lt Nat.and_le_left (Nat.lt_of_lt_of_le (lkA_lt (r 0) (r 1) v (a 3)) (pw12 t4)))) (cA_S hts kw_503 kw_16 kw_501 kw_502 hdJ6_bitCount_0f7a4 ⟨Nat.le_of_ble_eq_true rfl, Nat.le_of_ble_eq_true rfl⟩) rfl hl.1 rfl (Nat.le_of_ble_eq_true rfl) dX4_prune_54 ⟨Nat.le_of_ble_eq_true rfl, Nat.le_of_ble_eq_true rfl⟩ hP hD hS hA (List.Perm.refl _) (fun r54 u54 H locs hp54 hP hD hS => ?_)
                have hP : va_P G.1 vwCl (tkw G ad (va_up a 8 (prR (r 0) (r 1) (a 7 ||| 2 ^ a 1) (a 3) (fun x => bts x 12) v (prN (r 0) (r 1) (a 7 ||| 2 ^ a 1) (a 3) (a 0) (fun x => bts x 12) q (a 8)))) r) H := hP
                have hD : va_D A (tkw G ad (va_up a 8 (prR (r 0) (r 1) (a 7 ||| 2 ^ a 1) (a 3) (fun x => bts x 12) v (prN (r 0) (r 1) (a 7 ||| 2 ^ a 1) (a 3) (a 0) (fun x => bts x 12) q (a 8)))) r) := hD
                subst hp54
                refine lv_iconst (v := (nI 1)) hx hb dX4_prune_57 (by decide) ?_
                refine nv_ne (x := bts ((lkA (r 0) (r 1) v (a 3)) &&& (prR (r 0) (r 1) (a 7 ||| 2 ^ a 1) (a 3) (fun x => bts x 12) v (prN (r 0) (r 1) (a 7 ||| 2 ^ a 1) (a 3) (a 0) (fun x => bts x 12) q (a 8)))) 12) (y := 1) (tgt := 74) hx hb dX4_prune_58 (by decide) (by have := bts_le (lkA (r 0) (r 1) v (a 3) &&& prR (r 0) (r 1) (a 7 ||| 2 ^ a 1) (a 3) (fun x => bts x 12) v (prN (r 0) (r 1) (a 7 ||| 2 ^ a 1) (a 3) (a 0) (fun x => bts x 12) q (a 8))) 12; omega) (by decide) (fun c58 => ?_) (fun c58 => ?_)
                · refine lv_iinc (v := (nI (v + 1))) (lv' := [(3, .int (nI (v + 1))), (4, .int (nI ((lkA (r 0) (r 1) v (a 3)) &&& (prR (r 0) (r 1) (a 7 ||| 2 ^ a 1) (a 3) (fun x => bts x 12) v (prN (r 0) (r 1) (a 7 ||| 2 ^ a 1) (a 3) (a 0) (fun x => bts x 12) q (a 8)))))), (0, .ref (ad 0)), (1, .int (nI (a 7 ||| 2 ^ a 1))), (2, .int (nI q))]) hx hb dX4_prune_74 hl (k := 4) rfl (qn_inc _) (by decide) rfl (fun ls hl => ?_)
                  refine lv_goto (tgt := 24) hx hb dX4_prune_77 (by decide) ?_
                  exact ih24 (v + 1) (prR (r 0) (r 1) (a 7 ||| 2 ^ a 1) (a 3) (fun x => bts x 12) v (prN (r 0) (r 1) (a 7 ||| 2 ^ a 1) (a 3) (a 0) (fun x => bts x 12) q (a 8))) (by omega) (by first | (rw [prR, prS, if_pos ⟨c49, c58⟩]; done) | (rw [prR, prS, if_neg (fun h => c58 h.2)]; done) | (rw [prR, prS, if_neg (fun h => by rw [c49] at h; exact absurd h.1 (by decide))]; done)) (by omega) _ _ hP hD hS ls (lv_sub hl [2, 3, 4, 0] rfl)
                · refine lv_aload_n hx hb dX4_prune_61 rfl (lv_at hl 1 rfl) ?_
                  refine lv_dup hx hb dX4_prune_62 rfl ?_
                  refine va_get (D := G.1) (ci := 3) (v := .int (nI (prR (r 0) (r 1) (a 7 ||| 2 ^ a 1) (a 3) (fun x => bts x 12) v (prN (r 0) (r 1) (a 7 ||| 2 ^ a 1) (a 3) (a 0) (fun x => bts x 12) q (a 8))))) (C := RX4) (T := TX4) (N := 12) hx hb hts inA4 hown hX.1 hP 0 rfl rfl 8 (by decide) (hts _ kw_98) (fun _ h9 => h9) rfl dX4_prune_63 ?_
                  refine lv_iload hx hb dX4_prune_66 (lv_at hl 0 rfl) ?_
                  refine lv_iconst (v := (-1)) hx hb dX4_prune_68 (by decide) ?_
                  refine lv_ixor hx hb dX4_prune_69 ?_
                  refine lv_iand hx hb dX4_prune_70 (ti (y := (nI (nd (prR (r 0) (r 1) (a 7 ||| 2 ^ a 1) (a 3) (fun x => bts x 12) v (prN (r 0) (r 1) (a 7 ||| 2 ^ a 1) (a 3) (a 0) (fun x => bts x 12) q (a 8))) ((lkA (r 0) (r 1) v (a 3)) &&& (prR (r 0) (r 1) (a 7 ||| 2 ^ a 1) (a 3) (fun x => bts x 12) v (prN (r 0) (r 1) (a 7 ||| 2 ^ a 1) (a 3) (a 0) (fun x => bts x 12) q (a 8))))))) (qn_andn _ _) ?_)
                  refine va_put (D := G.1) (ci := 3) (v := .int (nI (nd (prR (r 0) (r 1) (a 7 ||| 2 ^ a 1) (a 3) (fun x => bts x 12) v (prN (r 0) (r 1) (a 7 ||| 2 ^ a 1) (a 3) (a 0) (fun x => bts x 12) q (a 8))) ((lkA (r 0) (r 1) v (a 3)) &&& (prR (r 0) (r 1) (a 7 ||| 2 ^ a 1) (a 3) (fun x => bts x 12) v (prN (r 0) (r 1) (a 7 ||| 2 ^ a 1) (a 3) (a 0) (fun x => bts x 12) q (a 8))))))) (ty := .int) (C := RX4) (T := TX4) (N := 12) hx hb hts inA4 tyX4 tyX4_ok nmX4 hown hX.1 hP hD hS 0 rfl rfl 8 (by decide) (hts _ kw_98) (fun _ h9 => h9) rfl (by decide +kernel) rfl rfl (Nat.le_of_ble_eq_true rfl) dX4_prune_71 (fun H locs hP hD hS => ?_)
                  have hP : va_P G.1 vwCl (tkw G ad (va_up a 8 (nd (prR (r 0) (r 1) (a 7 ||| 2 ^ a 1) (a 3) (fun x => bts x 12) v (prN (r 0) (r 1) (a 7 ||| 2 ^ a 1) (a 3) (a 0) (fun x => bts x 12) q (a 8))) ((lkA (r 0) (r 1) v (a 3)) &&& (prR (r 0) (r 1) (a 7 ||| 2 ^ a 1) (a 3) (fun x => bts x 12) v (prN (r 0) (r 1) (a 7 ||| 2 ^ a 1) (a 3) (a 0) (fun x => bts x 12) q (a 8)))))) r) H := hP
                  have hD : va_D A (tkw G ad (va_up a 8 (nd (prR (r 0) (r 1) (a 7 ||| 2 ^ a 1) (a 3) (fun x => bts x 12) v (prN (r 0) (r 1) (a 7 ||| 2 ^ a 1) (a 3) (a 0) (fun x => bts x 12) q (a 8))) ((lkA (r 0) (r 1) v (a 3)) &&& (prR (r 0) (r 1) (a 7 ||| 2 ^ a 1) (a 3) (fun x => bts x 12) v (prN (r 0) (r 1) (a 7 ||| 2 ^ a 1) (a 3) (a 0) (fun x => bts x 12) q (a 8)))))) r) := hD
                  refine lv_iinc (v := (nI (v + 1))) (lv' := [(3, .int (nI (v + 1))), (4, .int (nI ((lkA (r 0) (r 1) v (a 3)) &&& (prR (r 0) (r 1) (a 7 ||| 2 ^ a 1) (a 3) (fun x => bts x 12) v (prN (r 0) (r 1) (a 7 ||| 2 ^ a 1) (a 3) (a 0) (fun x => bts x 12) q (a 8)))))), (0, .ref (ad 0)), (1, .int (nI (a 7 ||| 2 ^ a 1))), (2, .int (nI q))]) hx hb dX4_prune_74 hl (k := 4) rfl (qn_inc _) (by decide) rfl (fun ls hl => ?_)
                  refine lv_goto (tgt := 24) hx hb dX4_prune_77 (by decide) ?_
                  exact ih24 (v + 1) (nd (prR (r 0) (r 1) (a 7 ||| 2 ^ a 1) (a 3) (fun x => bts x 12) v (prN (r 0) (r 1) (a 7 ||| 2 ^ a 1) (a 3) (a 0) (fun x => bts x 12) q (a 8))) ((lkA (r 0) (r 1) v (a 3)) &&& (prR (r 0) (r 1) (a 7 ||| 2 ^ a 1) (a 3) (fun x => bts x 12) v (prN (r 0) (r 1) (a 7 ||| 2 ^ a 1) (a 3) (a 0) (fun x => bts x 12) q (a 8))))) (by omega) (by first | (rw [prR, prS, if_pos ⟨c49, c58⟩]; done) | (rw [prR, prS, if_neg (fun h => c58 h.2)]; done) | (rw [prR, prS, if_neg (fun h => by rw [c49] at h; exact absurd h.1 (by decide))]; done)) (by omega) _ _ hP hD hS ls (lv_sub hl [2, 3, 4, 0] rfl)
        exact lp24 _ 0 (prN (r 0) (r 1) (a 7 ||| 2 ^ a 1) (a 3) (a 0) (fun x => bts x 12) q (a 8)) (Nat.lt_succ_self _) rfl (Nat.zero_le _) _ _ hP hD hS ls (lv_sub hl [1, 2, 3, 0] rfl)
  exact lp14 _ 0 (a 8) (Nat.lt_succ_self _) rfl (Nat.zero_le _) _ _ hP hD hS ls (lv_sub hl [2, 1, 0] rfl)

theorem hdX4_beAsAtFirst : hdOK yX4_beAsAtFirst 0 := by decide +kernel
set_option maxHeartbeats 4000000 in
set_option maxRecDepth 100000 in
theorem mX4_beAsAtFirst (l : Launch) (G : GG) (ad : Nat → Nat) (a : Nat → Nat) (r : Nat → Nat → Nat)  : Mv l yX4_beAsAtFirst cX4_beAsAtFirst 1 none (rmN 0 0) G [.ref (ad 0)] (tkw G ad a r) (fun (_ : Unit) => True) (fun (_ : Unit) => tkw G ad (va_up (va_up (va_up (va_up (va_up (va_up (va_up (va_up a 0 2) 1 0) 2 0) 3 0) 7 0) 8 0) 9 0) 10 0) r) := by
  refine Mv.of (cc := cX4_beAsAtFirst) (nL := 1) (by decide) (Nat.le_of_ble_eq_true rfl) ?_
  intro p e s m below meth c A ls F hr hlocks hnm hX hA hD hP hS hl
  have F : CallFix p m c cX4_beAsAtFirst 1 s [.ref (ad 0)].toArray wA RX4 := F
  obtain ⟨hx, hb, hml, hown, hts⟩ := id F
  have hl : lv_has ls 1 [(0, .ref (ad 0))] := hl
  refine lv_aload_n hx hb dX4_beAsAtFirst_0 rfl (lv_at hl 0 rfl) ?_
  refine lv_iconst (v := (nI 2)) hx hb dX4_beAsAtFirst_1 (by decide) ?_
  refine va_put (D := G.1) (ci := 3) (v := .int (nI 2)) (ty := .int) (C := RX4) (T := TX4) (N := 12) hx hb hts inA4 tyX4 tyX4_ok nmX4 hown hX.1 hP hD hS 0 rfl rfl 0 (by decide) (hts _ kw_62) (fun _ h9 => h9) rfl (by decide +kernel) rfl rfl (Nat.le_of_ble_eq_true rfl) dX4_beAsAtFirst_2 (fun H locs hP hD hS => ?_)
  have hP : va_P G.1 vwCl (tkw G ad (va_up a 0 2) r) H := hP
  have hD : va_D A (tkw G ad (va_up a 0 2) r) := hD
  refine lv_aload_n hx hb dX4_beAsAtFirst_5 rfl (lv_at hl 0 rfl) ?_
  refine lv_iconst (v := (nI 0)) hx hb dX4_beAsAtFirst_6 (by decide) ?_
  refine va_put (D := G.1) (ci := 3) (v := .int (nI 0)) (ty := .int) (C := RX4) (T := TX4) (N := 12) hx hb hts inA4 tyX4 tyX4_ok nmX4 hown hX.1 hP hD hS 0 rfl rfl 1 (by decide) (hts _ kw_69) (fun _ h9 => h9) rfl (by decide +kernel) rfl rfl (Nat.le_of_ble_eq_true rfl) dX4_beAsAtFirst_7 (fun H locs hP hD hS => ?_)
  have hP : va_P G.1 vwCl (tkw G ad (va_up (va_up a 0 2) 1 0) r) H := hP
  have hD : va_D A (tkw G ad (va_up (va_up a 0 2) 1 0) r) := hD
  refine lv_aload_n hx hb dX4_beAsAtFirst_10 rfl (lv_at hl 0 rfl) ?_
  refine lv_iconst (v := (nI 0)) hx hb dX4_beAsAtFirst_11 (by decide) ?_
  refine va_put (D := G.1) (ci := 3) (v := .int (nI 0)) (ty := .int) (C := RX4) (T := TX4) (N := 12) hx hb hts inA4 tyX4 tyX4_ok nmX4 hown hX.1 hP hD hS 0 rfl rfl 2 (by decide) (hts _ kw_72) (fun _ h9 => h9) rfl (by decide +kernel) rfl rfl (Nat.le_of_ble_eq_true rfl) dX4_beAsAtFirst_12 (fun H locs hP hD hS => ?_)
  have hP : va_P G.1 vwCl (tkw G ad (va_up (va_up (va_up a 0 2) 1 0) 2 0) r) H := hP
  have hD : va_D A (tkw G ad (va_up (va_up (va_up a 0 2) 1 0) 2 0) r) := hD
  refine lv_aload_n hx hb dX4_beAsAtFirst_15 rfl (lv_at hl 0 rfl) ?_
  refine lv_iconst (v := (nI 0)) hx hb dX4_beAsAtFirst_16 (by decide) ?_
  refine va_put (D := G.1) (ci := 3) (v := .int (nI 0)) (ty := .int) (C := RX4) (T := TX4) (N := 12) hx hb hts inA4 tyX4 tyX4_ok nmX4 hown hX.1 hP hD hS 0 rfl rfl 3 (by decide) (hts _ kw_76) (fun _ h9 => h9) rfl (by decide +kernel) rfl rfl (Nat.le_of_ble_eq_true rfl) dX4_beAsAtFirst_17 (fun H locs hP hD hS => ?_)
  have hP : va_P G.1 vwCl (tkw G ad (va_up (va_up (va_up (va_up a 0 2) 1 0) 2 0) 3 0) r) H := hP
  have hD : va_D A (tkw G ad (va_up (va_up (va_up (va_up a 0 2) 1 0) 2 0) 3 0) r) := hD
  refine lv_aload_n hx hb dX4_beAsAtFirst_20 rfl (lv_at hl 0 rfl) ?_
  refine lv_iconst (v := (nI 0)) hx hb dX4_beAsAtFirst_21 (by decide) ?_
  refine va_put (D := G.1) (ci := 3) (v := .int (nI 0)) (ty := .int) (C := RX4) (T := TX4) (N := 12) hx hb hts inA4 tyX4 tyX4_ok nmX4 hown hX.1 hP hD hS 0 rfl rfl 7 (by decide) (hts _ kw_94) (fun _ h9 => h9) rfl (by decide +kernel) rfl rfl (Nat.le_of_ble_eq_true rfl) dX4_beAsAtFirst_22 (fun H locs hP hD hS => ?_)
  have hP : va_P G.1 vwCl (tkw G ad (va_up (va_up (va_up (va_up (va_up a 0 2) 1 0) 2 0) 3 0) 7 0) r) H := hP
  have hD : va_D A (tkw G ad (va_up (va_up (va_up (va_up (va_up a 0 2) 1 0) 2 0) 3 0) 7 0) r) := hD
  refine lv_aload_n hx hb dX4_beAsAtFirst_25 rfl (lv_at hl 0 rfl) ?_
  refine lv_iconst (v := (nI 0)) hx hb dX4_beAsAtFirst_26 (by decide) ?_
  refine va_put (D := G.1) (ci := 3) (v := .int (nI 0)) (ty := .int) (C := RX4) (T := TX4) (N := 12) hx hb hts inA4 tyX4 tyX4_ok nmX4 hown hX.1 hP hD hS 0 rfl rfl 8 (by decide) (hts _ kw_98) (fun _ h9 => h9) rfl (by decide +kernel) rfl rfl (Nat.le_of_ble_eq_true rfl) dX4_beAsAtFirst_27 (fun H locs hP hD hS => ?_)
  have hP : va_P G.1 vwCl (tkw G ad (va_up (va_up (va_up (va_up (va_up (va_up a 0 2) 1 0) 2 0) 3 0) 7 0) 8 0) r) H := hP
  have hD : va_D A (tkw G ad (va_up (va_up (va_up (va_up (va_up (va_up a 0 2) 1 0) 2 0) 3 0) 7 0) 8 0) r) := hD
  refine lv_aload_n hx hb dX4_beAsAtFirst_30 rfl (lv_at hl 0 rfl) ?_
  refine lv_iconst (v := (nI 0)) hx hb dX4_beAsAtFirst_31 (by decide) ?_
  refine va_put (D := G.1) (ci := 3) (v := .int (nI 0)) (ty := .int) (C := RX4) (T := TX4) (N := 12) hx hb hts inA4 tyX4 tyX4_ok nmX4 hown hX.1 hP hD hS 0 rfl rfl 9 (by decide) (hts _ kw_100) (fun _ h9 => h9) rfl (by decide +kernel) rfl rfl (Nat.le_of_ble_eq_true rfl) dX4_beAsAtFirst_32 (fun H locs hP hD hS => ?_)
  have hP : va_P G.1 vwCl (tkw G ad (va_up (va_up (va_up (va_up (va_up (va_up (va_up a 0 2) 1 0) 2 0) 3 0) 7 0) 8 0) 9 0) r) H := hP
  have hD : va_D A (tkw G ad (va_up (va_up (va_up (va_up (va_up (va_up (va_up a 0 2) 1 0) 2 0) 3 0) 7 0) 8 0) 9 0) r) := hD
  refine lv_aload_n hx hb dX4_beAsAtFirst_35 rfl (lv_at hl 0 rfl) ?_
  refine lv_iconst (v := (nI 0)) hx hb dX4_beAsAtFirst_36 (by decide) ?_
  refine va_put (D := G.1) (ci := 3) (v := .int (nI 0)) (ty := .int) (C := RX4) (T := TX4) (N := 12) hx hb hts inA4 tyX4 tyX4_ok nmX4 hown hX.1 hP hD hS 0 rfl rfl 10 (by decide) (hts _ kw_103) (fun _ h9 => h9) rfl (by decide +kernel) rfl rfl (Nat.le_of_ble_eq_true rfl) dX4_beAsAtFirst_37 (fun H locs hP hD hS => ?_)
  have hP : va_P G.1 vwCl (tkw G ad (va_up (va_up (va_up (va_up (va_up (va_up (va_up (va_up a 0 2) 1 0) 2 0) 3 0) 7 0) 8 0) 9 0) 10 0) r) H := hP
  have hD : va_D A (tkw G ad (va_up (va_up (va_up (va_up (va_up (va_up (va_up (va_up a 0 2) 1 0) 2 0) 3 0) 7 0) 8 0) 9 0) 10 0) r) := hD
  exact re_v hx hb hr hlocks hS () hP hD trivial dX4_beAsAtFirst_40

theorem hdX4_become : hdOK yX4_become 1 := by decide +kernel
set_option maxHeartbeats 4000000 in
set_option maxRecDepth 100000 in
theorem mX4_become (l : Launch) (G : GG) (ad : Nat → Nat) (a : Nat → Nat) (r : Nat → Nat → Nat) (ad2 : Nat → Nat) (a2 : Nat → Nat) (r2 : Nat → Nat → Nat)  : Mv l yX4_become cX4_become 2 none (rmN 1 26) G [.ref (ad 0), .ref (ad2 0)] (tkw G ad a r ++ (tkw G ad2 a2 r2)) (fun (_ : Unit) => True) (fun (_ : Unit) => tkw G ad a2 r2 ++ (tkw G ad2 a2 r2)) := by
  refine Mv.of (cc := cX4_become) (nL := 2) (by decide) (Nat.le_of_ble_eq_true rfl) ?_
  intro p e s m below meth c A ls F hr hlocks hnm hX hA hD hP hS hl
  have F : CallFix p m c cX4_become 2 s [.ref (ad 0), .ref (ad2 0)].toArray wA RX4 := F
  obtain ⟨hx, hb, hml, hown, hts⟩ := id F
  have hl : lv_has ls 2 [(0, .ref (ad 0)), (1, .ref (ad2 0))] := hl
  refine lv_aload_n hx hb dX4_become_0 rfl (lv_at hl 0 rfl) ?_
  refine lv_aload_n hx hb dX4_become_1 rfl (lv_at hl 1 rfl) ?_
  refine va_get (D := G.1) (ci := 3) (v := .int (nI (a2 0))) (C := RX4) (T := TX4) (N := 12) hx hb hts inA4 hown hX.1 hP 5 rfl rfl 0 (by decide) (hts _ kw_62) (fun _ h9 => h9) rfl dX4_become_2 ?_
  refine va_put (D := G.1) (ci := 3) (v := .int (nI (a2 0))) (ty := .int) (C := RX4) (T := TX4) (N := 12) hx hb hts inA4 tyX4 tyX4_ok nmX4 hown hX.1 hP hD hS 0 rfl rfl 0 (by decide) (hts _ kw_62) (fun _ h9 => h9) rfl (by decide +kernel) rfl rfl (Nat.le_of_ble_eq_true rfl) dX4_become_5 (fun H locs hP hD hS => ?_)
  have hP : va_P G.1 vwCl (tkw G ad (va_up a 0 (a2 0)) r ++ (tkw G ad2 a2 r2)) H := hP
  have hD : va_D A (tkw G ad (va_up a 0 (a2 0)) r ++ (tkw G ad2 a2 r2)) := hD
  refine lv_aload_n hx hb dX4_become_8 rfl (lv_at hl 0 rfl) ?_
  refine lv_aload_n hx hb dX4_become_9 rfl (lv_at hl 1 rfl) ?_
  refine va_get (D := G.1) (ci := 3) (v := .int (nI (a2 1))) (C := RX4) (T := TX4) (N := 12) hx hb hts inA4 hown hX.1 hP 5 rfl rfl 1 (by decide) (hts _ kw_69) (fun _ h9 => h9) rfl dX4_become_10 ?_
  refine va_put (D := G.1) (ci := 3) (v := .int (nI (a2 1))) (ty := .int) (C := RX4) (T := TX4) (N := 12) hx hb hts inA4 tyX4 tyX4_ok nmX4 hown hX.1 hP hD hS 0 rfl rfl 1 (by decide) (hts _ kw_69) (fun _ h9 => h9) rfl (by decide +kernel) rfl rfl (Nat.le_of_ble_eq_true rfl) dX4_become_13 (fun H locs hP hD hS => ?_)
  have hP : va_P G.1 vwCl (tkw G ad (va_up (va_up a 0 (a2 0)) 1 (a2 1)) r ++ (tkw G ad2 a2 r2)) H := hP
  have hD : va_D A (tkw G ad (va_up (va_up a 0 (a2 0)) 1 (a2 1)) r ++ (tkw G ad2 a2 r2)) := hD
  refine lv_aload_n hx hb dX4_become_16 rfl (lv_at hl 0 rfl) ?_
  refine lv_aload_n hx hb dX4_become_17 rfl (lv_at hl 1 rfl) ?_
  refine va_get (D := G.1) (ci := 3) (v := .int (nI (a2 2))) (C := RX4) (T := TX4) (N := 12) hx hb hts inA4 hown hX.1 hP 5 rfl rfl 2 (by decide) (hts _ kw_72) (fun _ h9 => h9) rfl dX4_become_18 ?_
  refine va_put (D := G.1) (ci := 3) (v := .int (nI (a2 2))) (ty := .int) (C := RX4) (T := TX4) (N := 12) hx hb hts inA4 tyX4 tyX4_ok nmX4 hown hX.1 hP hD hS 0 rfl rfl 2 (by decide) (hts _ kw_72) (fun _ h9 => h9) rfl (by decide +kernel) rfl rfl (Nat.le_of_ble_eq_true rfl) dX4_become_21 (fun H locs hP hD hS => ?_)
  have hP : va_P G.1 vwCl (tkw G ad (va_up (va_up (va_up a 0 (a2 0)) 1 (a2 1)) 2 (a2 2)) r ++ (tkw G ad2 a2 r2)) H := hP
  have hD : va_D A (tkw G ad (va_up (va_up (va_up a 0 (a2 0)) 1 (a2 1)) 2 (a2 2)) r ++ (tkw G ad2 a2 r2)) := hD
  refine lv_aload_n hx hb dX4_become_24 rfl (lv_at hl 0 rfl) ?_
  refine lv_aload_n hx hb dX4_become_25 rfl (lv_at hl 1 rfl) ?_
  refine va_get (D := G.1) (ci := 3) (v := .int (nI (a2 3))) (C := RX4) (T := TX4) (N := 12) hx hb hts inA4 hown hX.1 hP 5 rfl rfl 3 (by decide) (hts _ kw_76) (fun _ h9 => h9) rfl dX4_become_26 ?_
  refine va_put (D := G.1) (ci := 3) (v := .int (nI (a2 3))) (ty := .int) (C := RX4) (T := TX4) (N := 12) hx hb hts inA4 tyX4 tyX4_ok nmX4 hown hX.1 hP hD hS 0 rfl rfl 3 (by decide) (hts _ kw_76) (fun _ h9 => h9) rfl (by decide +kernel) rfl rfl (Nat.le_of_ble_eq_true rfl) dX4_become_29 (fun H locs hP hD hS => ?_)
  have hP : va_P G.1 vwCl (tkw G ad (va_up (va_up (va_up (va_up a 0 (a2 0)) 1 (a2 1)) 2 (a2 2)) 3 (a2 3)) r ++ (tkw G ad2 a2 r2)) H := hP
  have hD : va_D A (tkw G ad (va_up (va_up (va_up (va_up a 0 (a2 0)) 1 (a2 1)) 2 (a2 2)) 3 (a2 3)) r ++ (tkw G ad2 a2 r2)) := hD
  refine lv_aload_n hx hb dX4_become_32 rfl (lv_at hl 1 rfl) ?_
  refine va_get (D := G.1) (ci := 3) (v := .ref (ad2 1)) (C := RX4) (T := TX4) (N := 12) hx hb hts inA4 hown hX.1 hP 5 rfl rfl 4 (by decide) (hts _ kw_82) (fun _ h9 => h9) rfl dX4_become_33 ?_
  refine lv_iconst (v := (nI 0)) hx hb dX4_become_36 (by decide) ?_
  refine lv_aload_n hx hb dX4_become_37 rfl (lv_at hl 0 rfl) ?_
  refine va_get (D := G.1) (ci := 3) (v := .ref (ad 1)) (C := RX4) (T := TX4) (N := 12) hx hb hts inA4 hown hX.1 hP 0 rfl rfl 4 (by decide) (hts _ kw_82) (fun _ h9 => h9) rfl dX4_become_38 ?_
  refine lv_iconst (v := (nI 0)) hx hb dX4_become_41 (by decide) ?_
  refine lv_bipush (v := (nI 12)) hx hb dX4_become_42 (by decide) ?_
  refine nv_cpyF (rest := []) (f := r2 0) (g := r 0) F hl.1 hX kw_374 kw_376 kw_375 kw_13 hP hD hS 6 1 rfl rfl (by decide) (by decide) (Nat.le_of_ble_eq_true rfl) dX4_become_44 (fun H locs hP hD hS => ?_)
  have hP : va_P G.1 vwCl (tkw G ad (va_up (va_up (va_up (va_up a 0 (a2 0)) 1 (a2 1)) 2 (a2 2)) 3 (a2 3)) (va_up r 0 (r2 0)) ++ (tkw G ad2 a2 r2)) H := hP
  have hD : va_D A (tkw G ad (va_up (va_up (va_up (va_up a 0 (a2 0)) 1 (a2 1)) 2 (a2 2)) 3 (a2 3)) (va_up r 0 (r2 0)) ++ (tkw G ad2 a2 r2)) := hD
  refine lv_aload_n hx hb dX4_become_47 rfl (lv_at hl 1 rfl) ?_
  refine va_get (D := G.1) (ci := 3) (v := .ref (ad2 2)) (C := RX4) (T := TX4) (N := 12) hx hb hts inA4 hown hX.1 hP 5 rfl rfl 5 (by decide) (hts _ kw_85) (fun _ h9 => h9) rfl dX4_become_48 ?_
  refine lv_iconst (v := (nI 0)) hx hb dX4_become_51 (by decide) ?_
  refine lv_aload_n hx hb dX4_become_52 rfl (lv_at hl 0 rfl) ?_
  refine va_get (D := G.1) (ci := 3) (v := .ref (ad 2)) (C := RX4) (T := TX4) (N := 12) hx hb hts inA4 hown hX.1 hP 0 rfl rfl 5 (by decide) (hts _ kw_85) (fun _ h9 => h9) rfl dX4_become_53 ?_
  refine lv_iconst (v := (nI 0)) hx hb dX4_become_56 (by decide) ?_
  refine lv_bipush (v := (nI 12)) hx hb dX4_become_57 (by decide) ?_
  refine nv_cpyF (rest := []) (f := r2 1) (g := r 1) F hl.1 hX kw_374 kw_376 kw_375 kw_13 hP hD hS 7 2 rfl rfl (by decide) (by decide) (Nat.le_of_ble_eq_true rfl) dX4_become_59 (fun H locs hP hD hS => ?_)
  have hP : va_P G.1 vwCl (tkw G ad (va_up (va_up (va_up (va_up a 0 (a2 0)) 1 (a2 1)) 2 (a2 2)) 3 (a2 3)) (va_up (va_up r 0 (r2 0)) 1 (r2 1)) ++ (tkw G ad2 a2 r2)) H := hP
  have hD : va_D A (tkw G ad (va_up (va_up (va_up (va_up a 0 (a2 0)) 1 (a2 1)) 2 (a2 2)) 3 (a2 3)) (va_up (va_up r 0 (r2 0)) 1 (r2 1)) ++ (tkw G ad2 a2 r2)) := hD
  refine lv_aload_n hx hb dX4_become_62 rfl (lv_at hl 1 rfl) ?_
  refine va_get (D := G.1) (ci := 3) (v := .ref (ad2 3)) (C := RX4) (T := TX4) (N := 12) hx hb hts inA4 hown hX.1 hP 5 rfl rfl 6 (by decide) (hts _ kw_88) (fun _ h9 => h9) rfl dX4_become_63 ?_
  refine lv_iconst (v := (nI 0)) hx hb dX4_become_66 (by decide) ?_
  refine lv_aload_n hx hb dX4_become_67 rfl (lv_at hl 0 rfl) ?_
  refine va_get (D := G.1) (ci := 3) (v := .ref (ad 3)) (C := RX4) (T := TX4) (N := 12) hx hb hts inA4 hown hX.1 hP 0 rfl rfl 6 (by decide) (hts _ kw_88) (fun _ h9 => h9) rfl dX4_become_68 ?_
  refine lv_iconst (v := (nI 0)) hx hb dX4_become_71 (by decide) ?_
  refine lv_bipush (v := (nI 12)) hx hb dX4_become_72 (by decide) ?_
  refine nv_cpyF (rest := []) (f := r2 2) (g := r 2) F hl.1 hX kw_374 kw_376 kw_375 kw_13 hP hD hS 8 3 rfl rfl (by decide) (by decide) (Nat.le_of_ble_eq_true rfl) dX4_become_74 (fun H locs hP hD hS => ?_)
  have hP : va_P G.1 vwCl (tkw G ad (va_up (va_up (va_up (va_up a 0 (a2 0)) 1 (a2 1)) 2 (a2 2)) 3 (a2 3)) (va_up (va_up (va_up r 0 (r2 0)) 1 (r2 1)) 2 (r2 2)) ++ (tkw G ad2 a2 r2)) H := hP
  have hD : va_D A (tkw G ad (va_up (va_up (va_up (va_up a 0 (a2 0)) 1 (a2 1)) 2 (a2 2)) 3 (a2 3)) (va_up (va_up (va_up r 0 (r2 0)) 1 (r2 1)) 2 (r2 2)) ++ (tkw G ad2 a2 r2)) := hD
  refine lv_aload_n hx hb dX4_become_77 rfl (lv_at hl 0 rfl) ?_
  refine lv_aload_n hx hb dX4_become_78 rfl (lv_at hl 1 rfl) ?_
  refine va_get (D := G.1) (ci := 3) (v := .int (nI (a2 7))) (C := RX4) (T := TX4) (N := 12) hx hb hts inA4 hown hX.1 hP 5 rfl rfl 7 (by decide) (hts _ kw_94) (fun _ h9 => h9) rfl dX4_become_79 ?_
  refine va_put (D := G.1) (ci := 3) (v := .int (nI (a2 7))) (ty := .int) (C := RX4) (T := TX4) (N := 12) hx hb hts inA4 tyX4 tyX4_ok nmX4 hown hX.1 hP hD hS 0 rfl rfl 7 (by decide) (hts _ kw_94) (fun _ h9 => h9) rfl (by decide +kernel) rfl rfl (Nat.le_of_ble_eq_true rfl) dX4_become_82 (fun H locs hP hD hS => ?_)
  have hP : va_P G.1 vwCl (tkw G ad (va_up (va_up (va_up (va_up (va_up a 0 (a2 0)) 1 (a2 1)) 2 (a2 2)) 3 (a2 3)) 7 (a2 7)) (va_up (va_up (va_up r 0 (r2 0)) 1 (r2 1)) 2 (r2 2)) ++ (tkw G ad2 a2 r2)) H := hP
  have hD : va_D A (tkw G ad (va_up (va_up (va_up (va_up (va_up a 0 (a2 0)) 1 (a2 1)) 2 (a2 2)) 3 (a2 3)) 7 (a2 7)) (va_up (va_up (va_up r 0 (r2 0)) 1 (r2 1)) 2 (r2 2)) ++ (tkw G ad2 a2 r2)) := hD
  refine lv_aload_n hx hb dX4_become_85 rfl (lv_at hl 0 rfl) ?_
  refine lv_aload_n hx hb dX4_become_86 rfl (lv_at hl 1 rfl) ?_
  refine va_get (D := G.1) (ci := 3) (v := .int (nI (a2 8))) (C := RX4) (T := TX4) (N := 12) hx hb hts inA4 hown hX.1 hP 5 rfl rfl 8 (by decide) (hts _ kw_98) (fun _ h9 => h9) rfl dX4_become_87 ?_
  refine va_put (D := G.1) (ci := 3) (v := .int (nI (a2 8))) (ty := .int) (C := RX4) (T := TX4) (N := 12) hx hb hts inA4 tyX4 tyX4_ok nmX4 hown hX.1 hP hD hS 0 rfl rfl 8 (by decide) (hts _ kw_98) (fun _ h9 => h9) rfl (by decide +kernel) rfl rfl (Nat.le_of_ble_eq_true rfl) dX4_become_90 (fun H locs hP hD hS => ?_)
  have hP : va_P G.1 vwCl (tkw G ad (va_up (va_up (va_up (va_up (va_up (va_up a 0 (a2 0)) 1 (a2 1)) 2 (a2 2)) 3 (a2 3)) 7 (a2 7)) 8 (a2 8)) (va_up (va_up (va_up r 0 (r2 0)) 1 (r2 1)) 2 (r2 2)) ++ (tkw G ad2 a2 r2)) H := hP
  have hD : va_D A (tkw G ad (va_up (va_up (va_up (va_up (va_up (va_up a 0 (a2 0)) 1 (a2 1)) 2 (a2 2)) 3 (a2 3)) 7 (a2 7)) 8 (a2 8)) (va_up (va_up (va_up r 0 (r2 0)) 1 (r2 1)) 2 (r2 2)) ++ (tkw G ad2 a2 r2)) := hD
  refine lv_aload_n hx hb dX4_become_93 rfl (lv_at hl 0 rfl) ?_
  refine lv_aload_n hx hb dX4_become_94 rfl (lv_at hl 1 rfl) ?_
  refine va_get (D := G.1) (ci := 3) (v := .int (nI (a2 9))) (C := RX4) (T := TX4) (N := 12) hx hb hts inA4 hown hX.1 hP 5 rfl rfl 9 (by decide) (hts _ kw_100) (fun _ h9 => h9) rfl dX4_become_95 ?_
  refine va_put (D := G.1) (ci := 3) (v := .int (nI (a2 9))) (ty := .int) (C := RX4) (T := TX4) (N := 12) hx hb hts inA4 tyX4 tyX4_ok nmX4 hown hX.1 hP hD hS 0 rfl rfl 9 (by decide) (hts _ kw_100) (fun _ h9 => h9) rfl (by decide +kernel) rfl rfl (Nat.le_of_ble_eq_true rfl) dX4_become_98 (fun H locs hP hD hS => ?_)
  have hP : va_P G.1 vwCl (tkw G ad (va_up (va_up (va_up (va_up (va_up (va_up (va_up a 0 (a2 0)) 1 (a2 1)) 2 (a2 2)) 3 (a2 3)) 7 (a2 7)) 8 (a2 8)) 9 (a2 9)) (va_up (va_up (va_up r 0 (r2 0)) 1 (r2 1)) 2 (r2 2)) ++ (tkw G ad2 a2 r2)) H := hP
  have hD : va_D A (tkw G ad (va_up (va_up (va_up (va_up (va_up (va_up (va_up a 0 (a2 0)) 1 (a2 1)) 2 (a2 2)) 3 (a2 3)) 7 (a2 7)) 8 (a2 8)) 9 (a2 9)) (va_up (va_up (va_up r 0 (r2 0)) 1 (r2 1)) 2 (r2 2)) ++ (tkw G ad2 a2 r2)) := hD
  refine lv_aload_n hx hb dX4_become_101 rfl (lv_at hl 0 rfl) ?_
  refine lv_aload_n hx hb dX4_become_102 rfl (lv_at hl 1 rfl) ?_
  refine va_get (D := G.1) (ci := 3) (v := .int (nI (a2 10))) (C := RX4) (T := TX4) (N := 12) hx hb hts inA4 hown hX.1 hP 5 rfl rfl 10 (by decide) (hts _ kw_103) (fun _ h9 => h9) rfl dX4_become_103 ?_
  refine va_put (D := G.1) (ci := 3) (v := .int (nI (a2 10))) (ty := .int) (C := RX4) (T := TX4) (N := 12) hx hb hts inA4 tyX4 tyX4_ok nmX4 hown hX.1 hP hD hS 0 rfl rfl 10 (by decide) (hts _ kw_103) (fun _ h9 => h9) rfl (by decide +kernel) rfl rfl (Nat.le_of_ble_eq_true rfl) dX4_become_106 (fun H locs hP hD hS => ?_)
  have hP : va_P G.1 vwCl (tkw G ad (va_up (va_up (va_up (va_up (va_up (va_up (va_up (va_up a 0 (a2 0)) 1 (a2 1)) 2 (a2 2)) 3 (a2 3)) 7 (a2 7)) 8 (a2 8)) 9 (a2 9)) 10 (a2 10)) (va_up (va_up (va_up r 0 (r2 0)) 1 (r2 1)) 2 (r2 2)) ++ (tkw G ad2 a2 r2)) H := hP
  have hD : va_D A (tkw G ad (va_up (va_up (va_up (va_up (va_up (va_up (va_up (va_up a 0 (a2 0)) 1 (a2 1)) 2 (a2 2)) 3 (a2 3)) 7 (a2 7)) 8 (a2 8)) 9 (a2 9)) 10 (a2 10)) (va_up (va_up (va_up r 0 (r2 0)) 1 (r2 1)) 2 (r2 2)) ++ (tkw G ad2 a2 r2)) := hD
  refine lv_aload_n hx hb dX4_become_109 rfl (lv_at hl 1 rfl) ?_
  refine va_get (D := G.1) (ci := 3) (v := .ref (ad2 4)) (C := RX4) (T := TX4) (N := 12) hx hb hts inA4 hown hX.1 hP 5 rfl rfl 11 (by decide) (hts _ kw_106) (fun _ h9 => h9) rfl dX4_become_110 ?_
  refine lv_iconst (v := (nI 0)) hx hb dX4_become_113 (by decide) ?_
  refine lv_aload_n hx hb dX4_become_114 rfl (lv_at hl 0 rfl) ?_
  refine va_get (D := G.1) (ci := 3) (v := .ref (ad 4)) (C := RX4) (T := TX4) (N := 12) hx hb hts inA4 hown hX.1 hP 0 rfl rfl 11 (by decide) (hts _ kw_106) (fun _ h9 => h9) rfl dX4_become_115 ?_
  refine lv_iconst (v := (nI 0)) hx hb dX4_become_118 (by decide) ?_
  refine lv_bipush (v := (nI 7)) hx hb dX4_become_119 (by decide) ?_
  refine nv_cpyF (rest := []) (f := r2 3) (g := r 3) F hl.1 hX kw_374 kw_376 kw_375 kw_13 hP hD hS 9 4 rfl rfl (by decide) (by decide) (Nat.le_of_ble_eq_true rfl) dX4_become_121 (fun H locs hP hD hS => ?_)
  have hP : va_P G.1 vwCl (tkw G ad (va_up (va_up (va_up (va_up (va_up (va_up (va_up (va_up a 0 (a2 0)) 1 (a2 1)) 2 (a2 2)) 3 (a2 3)) 7 (a2 7)) 8 (a2 8)) 9 (a2 9)) 10 (a2 10)) (va_up (va_up (va_up (va_up r 0 (r2 0)) 1 (r2 1)) 2 (r2 2)) 3 (r2 3)) ++ (tkw G ad2 a2 r2)) H := hP
  have hD : va_D A (tkw G ad (va_up (va_up (va_up (va_up (va_up (va_up (va_up (va_up a 0 (a2 0)) 1 (a2 1)) 2 (a2 2)) 3 (a2 3)) 7 (a2 7)) 8 (a2 8)) 9 (a2 9)) 10 (a2 10)) (va_up (va_up (va_up (va_up r 0 (r2 0)) 1 (r2 1)) 2 (r2 2)) 3 (r2 3)) ++ (tkw G ad2 a2 r2)) := hD
  exact re_v hx hb hr hlocks hS () hP hD trivial dX4_become_124

