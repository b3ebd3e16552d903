theorem hdX8_in : hdOK yX8_in 3 := by decide +kernel
set_option maxHeartbeats 4000000 in
set_option maxRecDepth 100000 in
theorem mX8_in (l : Launch) (G : GG) (x y w : Int32)  : Mi l yX8_in cX8_in 3 (some .boolean) (rmN 0 0) G [.int x, .int y, .int w] (([] : va_W)) (fun (r9 : Int32) (_ : Unit) => r9 = (bI (decide (y ≤ x ∧ x ≤ w)))) (fun (_ : Unit) => ([] : va_W)) := by
  refine Mi.of (cc := cX8_in) (nL := 3) (by decide) (Nat.le_of_ble_eq_true rfl) ?_
  intro p e s m below meth c A ls F hr hlocks hnm hX hA hD hP hS hl
  have F : CallFix p m c cX8_in 3 s [.int x, .int y, .int w].toArray wA RX8 := F
  obtain ⟨hx, hb, hml, hown, hts⟩ := id F
  have hl : lv_has ls 3 [(0, .int x), (1, .int y), (2, .int w)] := hl
  refine lv_iload_n hx hb dX8_in_0 rfl (lv_at hl 0 rfl) ?_
  refine lv_iload_n hx hb dX8_in_1 rfl (lv_at hl 1 rfl) ?_
  refine lv_icmp_lt (x := x) (y := y) (tgt := 14) hx hb dX8_in_2 (by decide) (fun c2 => ?_) (fun c2 => ?_)
  · refine lv_iconst (v := (nI 0)) hx hb dX8_in_14 (by decide) ?_
    exact re_z (v := (nI 0)) hx hb hr hlocks hS () hP hD (by rw [decide_eq_false (fun h => absurd c2 (Int32.not_lt.mpr h.1))]; rfl) (by decide) dX8_in_15
  · refine lv_iload_n hx hb dX8_in_5 rfl (lv_at hl 0 rfl) ?_
    refine lv_iload_n hx hb dX8_in_6 rfl (lv_at hl 2 rfl) ?_
    refine lv_icmp_gt (x := x) (y := w) (tgt := 14) hx hb dX8_in_7 (by decide) (fun c7 => ?_) (fun c7 => ?_)
    · refine lv_iconst (v := (nI 0)) hx hb dX8_in_14 (by decide) ?_
      exact re_z (v := (nI 0)) hx hb hr hlocks hS () hP hD (by rw [decide_eq_false (fun h => absurd c7 (Int32.not_lt.mpr h.2))]; rfl) (by decide) dX8_in_15
    · refine lv_iconst (v := (nI 1)) hx hb dX8_in_10 (by decide) ?_
      refine lv_goto (tgt := 15) hx hb dX8_in_11 (by decide) ?_
      exact re_z (v := (nI 1)) hx hb hr hlocks hS () hP hD (by rw [decide_eq_true ⟨Int32.not_lt.mp c2, Int32.not_lt.mp c7⟩]; rfl) (by decide) dX8_in_15

theorem qb1_t {a k : Nat} (h : a / 2 ^ k &&& 1 = 1) : a.testBit k = true := qb_t (by omega)
theorem qb1_f {a k : Nat} (h : a / 2 ^ k &&& 1 ≠ 1) : a.testBit k = false := by
  apply qb_f
  have := Nat.and_le_right (n := a / 2 ^ k) (m := 1)
  omega

theorem hdX8_has : hdOK yX8_has 2 := by decide +kernel
set_option maxHeartbeats 4000000 in
set_option maxRecDepth 100000 in
theorem mX8_has (l : Launch) (G : GG) (set k : Nat) (hs : set < 2 ^ 31) (hk : k < 32) : Mi l yX8_has cX8_has 2 (some .boolean) (rmN 0 0) G [.int (nI set), .int (nI k)] (([] : va_W)) (fun (r9 : Int32) (_ : Unit) => r9 = (bI (set.testBit k))) (fun (_ : Unit) => ([] : va_W)) := by
  refine Mi.of (cc := cX8_has) (nL := 2) (by decide) (Nat.le_of_ble_eq_true rfl) ?_
  intro p e s m below meth c A ls F hr hlocks hnm hX hA hD hP hS hl
  have F : CallFix p m c cX8_has 2 s [.int (nI set), .int (nI k)].toArray wA RX8 := F
  obtain ⟨hx, hb, hml, hown, hts⟩ := id F
  have hl : lv_has ls 2 [(0, .int (nI set)), (1, .int (nI k))] := hl
  refine lv_iload_n hx hb dX8_has_0 rfl (lv_at hl 0 rfl) ?_
  refine lv_iload_n hx hb dX8_has_1 rfl (lv_at hl 1 rfl) ?_
  refine lv_ishr hx hb dX8_has_2 (ti (y := (nI (set / 2 ^ k))) (qn_shr hs hk) ?_)
  refine lv_iconst (v := (nI 1)) hx hb dX8_has_3 (by decide) ?_
  refine lv_iand hx hb dX8_has_4 (ti (y := (nI ((set / 2 ^ k) &&& 1))) (qn_and _ _) ?_)
  refine lv_iconst (v := (nI 1)) hx hb dX8_has_5 (by decide) ?_
  refine nv_ne (x := (set / 2 ^ k) &&& 1) (y := 1) (tgt := 13) hx hb dX8_has_6 (by decide) (qb_one _) (by decide) (fun c6 => ?_) (fun c6 => ?_)
  · refine lv_iconst (v := (nI 0)) hx hb dX8_has_13 (by decide) ?_
    exact re_z (v := (nI 0)) hx hb hr hlocks hS () hP hD (by rw [qb1_f c6]; rfl) (by decide) dX8_has_14
  · refine lv_iconst (v := (nI 1)) hx hb dX8_has_9 (by decide) ?_
    refine lv_goto (tgt := 14) hx hb dX8_has_10 (by decide) ?_
    exact re_z (v := (nI 1)) hx hb hr hlocks hS () hP hD (by rw [qb1_t c6]; rfl) (by decide) dX8_has_14

theorem hdX8_bits : hdOK yX8_bits 1 := by decide +kernel
set_option maxHeartbeats 4000000 in
set_option maxRecDepth 100000 in
theorem mX8_bits (l : Launch) (G : GG) (set : Nat) (hs : set < 2 ^ 31) : Mi l yX8_bits cX8_bits 3 (some .int) (rmN 0 0) G [.int (nI set)] (([] : va_W)) (fun (r9 : Int32) (_ : Unit) => r9 = (nI (bts set 12))) (fun (_ : Unit) => ([] : va_W)) := by
  refine Mi.of (cc := cX8_bits) (nL := 3) (by decide) (Nat.le_of_ble_eq_true rfl) ?_
  intro p e s m below meth c A ls F hr hlocks hnm hX hA hD hP hS hl
  have F : CallFix p m c cX8_bits 3 s [.int (nI set)].toArray wA RX8 := F
  obtain ⟨hx, hb, hml, hown, hts⟩ := id F
  have hl : lv_has ls 3 [(0, .int (nI set))] := hl
  refine lv_iconst (v := (nI 0)) hx hb dX8_bits_0 (by decide) ?_
  refine lv_istore_n (lv' := [(1, .int (nI 0)), (0, .int (nI set))]) hx hb dX8_bits_1 rfl hl (by decide) rfl (fun ls hl => ?_)
  refine lv_iconst (v := (nI 0)) hx hb dX8_bits_2 (by decide) ?_
  refine lv_istore_n (lv' := [(2, .int (nI 0)), (1, .int (nI 0)), (0, .int (nI set))]) hx hb dX8_bits_3 rfl hl (by decide) rfl (fun ls hl => ?_)
  have lp4 : ∀ (n4 : Nat) (k : Nat) (n : Nat), (12 - k) < n4 → n = bts set k → (k ≤ 12) → ∀ (H : Heap) (locs : List Loc), va_P G.1 vwCl (([] : va_W)) H → va_D A (([] : va_W)) → va_S A s.heap H locs → ∀ (ls : Array Slot), lv_has ls 3 [(0, .int (nI set)), (1, .int (nI n)), (2, .int (nI k))] → WI p l e (rmN 0 0) s m [.int (nI set)] below meth c H locs G A (fun (r9 : Int32) (_ : Unit) => r9 = (nI (bts set 12))) (fun (_ : Unit) => ([] : va_W)) (F0 m 4 ls []) := by
    intro n4
    induction n4 with
    | zero => intro k n h9; exact absurd h9 (Nat.not_lt_zero _)
    | succ n4 ih4 =>
      intro k n hm4 e_n hk H locs hP hD hS ls hl
      subst e_n
      refine lv_iload_n hx hb dX8_bits_4 rfl (lv_at hl 2 rfl) ?_
      refine lv_bipush (v := (nI 12)) hx hb dX8_bits_5 (by decide) ?_
      refine nv_ge (x := k) (y := 12) (tgt := 24) hx hb dX8_bits_7 (by decide) (by omega) (by decide) (fun c7 => ?_) (fun c7 => ?_)
      · refine lv_iload_n hx hb dX8_bits_24 rfl (lv_at hl 1 rfl) ?_
        exact re_i (v := (nI (bts set k))) hx hb hr hlocks hS () hP hD (by have e9 : k = 12 := (by omega); rw [e9]) dX8_bits_25
      · refine lv_iload_n hx hb dX8_bits_10 rfl (lv_at hl 1 rfl) ?_
        refine lv_iload_n hx hb dX8_bits_11 rfl (lv_at hl 0 rfl) ?_
        refine lv_iload_n hx hb dX8_bits_12 rfl (lv_at hl 2 rfl) ?_
        refine lv_ishr hx hb dX8_bits_13 (ti (y := (nI (set / 2 ^ k))) (qn_shr hs (by omega)) ?_)
        refine lv_iconst (v := (nI 1)) hx hb dX8_bits_14 (by decide) ?_
        refine lv_iand hx hb dX8_bits_15 (ti (y := (nI ((set / 2 ^ k) &&& 1))) (qn_and _ _) ?_)
        refine lv_iadd hx hb dX8_bits_16 (ti (y := (nI ((bts set k) + ((set / 2 ^ k) &&& 1)))) (nI_add _ _) ?_)
        refine lv_istore_n (lv' := [(1, .int (nI ((bts set k) + ((set / 2 ^ k) &&& 1)))), (0, .int (nI set)), (2, .int (nI k))]) hx hb dX8_bits_17 rfl hl (by decide) rfl (fun ls hl => ?_)
        refine lv_iinc (v := (nI (k + 1))) (lv' := [(2, .int (nI (k + 1))), (1, .int (nI ((bts set k) + ((set / 2 ^ k) &&& 1)))), (0, .int (nI set))]) hx hb dX8_bits_18 hl (k := 2) rfl (qn_inc _) (by decide) rfl (fun ls hl => ?_)
        refine lv_goto (tgt := 4) hx hb dX8_bits_21 (by decide) ?_
        exact ih4 (k + 1) ((bts set k) + ((set / 2 ^ k) &&& 1)) (by omega) (by rw [bts, qn_bit]) (by omega) _ _ hP hD hS ls (lv_sub hl [2, 1, 0] rfl)
  exact lp4 _ 0 0 (Nat.lt_succ_self _) rfl (Nat.zero_le _) _ _ hP hD hS ls (lv_sub hl [2, 1, 0] rfl)

theorem hdX8_costOf : hdOK yX8_costOf 1 := by decide +kernel
set_option maxHeartbeats 4000000 in
set_option maxRecDepth 100000 in
theorem mX8_costOf (l : Launch) (G : GG) (ad : Nat → Nat) (z : Nat → Nat) (fo : Option Nat) (sv : Nat → Nat) (d : Nat → Int32) (pa ke : Nat → Nat) (ik fa : Nat → Int32) (te aw : Nat → Nat) (set : Nat) (hB : SB sv) (hs : set < 2 ^ 31) : Mi l yX8_costOf cX8_costOf 4 (some .int) (rmN 1 21) G [.ref (ad 0), .int (nI set)] (mow G ad z fo sv d pa ke ik fa te aw) (fun (r9 : Int32) (_ : Unit) => r9 = (nI (cst (sc sv) set (sv 1)))) (fun (_ : Unit) => mow G ad z fo sv d pa ke ik fa te aw) := by
  refine Mi.of (cc := cX8_costOf) (nL := 4) (by decide) (Nat.le_of_ble_eq_true rfl) ?_
  intro p e s m below meth c A ls F hr hlocks hnm hX hA hD hP hS hl
  have F : CallFix p m c cX8_costOf 4 s [.ref (ad 0), .int (nI set)].toArray wA RX8 := F
  obtain ⟨hx, hb, hml, hown, hts⟩ := id F
  have hl : lv_has ls 4 [(0, .ref (ad 0)), (1, .int (nI set))] := hl
  obtain ⟨⟨b0, b1, b2, b3, b4, b5, b6, b7, b8⟩, g1, g2, g3, g4⟩ := id hB
  have gf : ∀ j, sf sv j < 10 := fun j => g1 (16 + j) (by omega)
  have gg : ∀ j, sg sv j < 10 := fun j => g1 (28 + j) (by omega)
  have gc : ∀ j, sc sv j ≤ 9 := fun j => by have := g1 (40 + j) (by omega); unfold sc; omega
  have gf7 : ∀ j, j < 12 → sf sv j < 7 := g2
  have gg7 : ∀ j, j < 12 → sg sv j < 7 := g3
  refine lv_iconst (v := (nI 0)) hx hb dX8_costOf_0 (by decide) ?_
  refine lv_istore_n (lv' := [(2, .int (nI 0)), (0, .ref (ad 0)), (1, .int (nI set))]) hx hb dX8_costOf_1 rfl hl (by decide) rfl (fun ls hl => ?_)
  refine lv_iconst (v := (nI 0)) hx hb dX8_costOf_2 (by decide) ?_
  refine lv_istore_n (lv' := [(3, .int (nI 0)), (2, .int (nI 0)), (0, .ref (ad 0)), (1, .int (nI set))]) hx hb dX8_costOf_3 rfl hl (by decide) rfl (fun ls hl => ?_)
  have lp4 : ∀ (n4 : Nat) (k : Nat) (n : Nat), (sv 1 - k) < n4 → n = cst (sc sv) set k → (k ≤ sv 1) → ∀ (H : Heap) (locs : List Loc), va_P G.1 vwCl (mow G ad z fo sv d pa ke ik fa te aw) H → va_D A (mow G ad z fo sv d pa ke ik fa te aw) → va_S A s.heap H locs → ∀ (ls : Array Slot), lv_has ls 4 [(0, .ref (ad 0)), (1, .int (nI set)), (2, .int (nI n)), (3, .int (nI k))] → WI p l e (rmN 1 21) s m [.ref (ad 0), .int (nI set)] below meth c H locs G A (fun (r9 : Int32) (_ : Unit) => r9 = (nI (cst (sc sv) set (sv 1)))) (fun (_ : Unit) => mow G ad z fo sv d pa ke ik fa te aw) (F0 m 4 ls []) := by
    intro n4
    induction n4 with
    | zero => intro k n h9; exact absurd h9 (Nat.not_lt_zero _)
    | succ n4 ih4 =>
      intro k n hm4 e_n hk H locs hP hD hS ls hl
      subst e_n
      refine lv_iload_n hx hb dX8_costOf_4 rfl (lv_at hl 3 rfl) ?_
      refine lv_aload_n hx hb dX8_costOf_5 rfl (lv_at hl 0 rfl) ?_
      refine va_get (D := G.1) (ci := 7) (v := .ref (ad 1)) (C := RX8) (T := TX8) (N := 17) hx hb hts inA8 hown hX.1 hP 0 rfl rfl 1 (by decide) (hts _ kw_681) (fun _ h9 => h9) rfl dX8_costOf_6 ?_
      refine lv_iconst (v := (nI 1)) hx hb dX8_costOf_9 (by decide) ?_
      refine nv_ald (f := sv) (k := 1) hx hb hX hP 1 rfl (by omega) (by decide) dX8_costOf_10 ?_
      refine nv_ge (x := k) (y := sv 1) (tgt := 44) hx hb dX8_costOf_11 (by decide) (by omega) (by omega) (fun c11 => ?_) (fun c11 => ?_)
      · refine lv_iload_n hx hb dX8_costOf_44 rfl (lv_at hl 2 rfl) ?_
        exact re_i (v := (nI (cst (sc sv) set k))) hx hb hr hlocks hS () hP hD (by have e9 : k = sv 1 := (by omega); rw [e9]) dX8_costOf_45
      · refine lv_iload_n hx hb dX8_costOf_14 rfl (lv_at hl 2 rfl) ?_
        refine lv_iload_n hx hb dX8_costOf_15 rfl (lv_at hl 1 rfl) ?_
        refine lv_iload_n hx hb dX8_costOf_16 rfl (lv_at hl 3 rfl) ?_
        refine ca_Si (rest := [.int (nI (cst (sc sv) set k))]) (wr := mow G ad z fo sv d pa ke ik fa te aw) F hX (mX8_has l G set k (by omega) (by omega)) (cA_S hts kw_801 kw_8 kw_799 kw_800 hdX8_has ⟨Nat.le_of_ble_eq_true rfl, Nat.le_of_ble_eq_true rfl⟩) rfl hl.1 rfl (Nat.le_of_ble_eq_true rfl) dX8_costOf_17 ⟨Nat.le_of_ble_eq_true rfl, Nat.le_of_ble_eq_true rfl⟩ hP hD hS hA (List.Perm.refl _) (fun r17 u17 H locs hp17 hP hD hS => ?_)
        have hP : va_P G.1 vwCl (mow G ad z fo sv d pa ke ik fa te aw) H := hP
        have hD : va_D A (mow G ad z fo sv d pa ke ik fa te aw) := hD
        subst hp17
        refine bv_eq (b := set.testBit k) (tgt := 35) hx hb dX8_costOf_20 (by decide) (fun c20 => ?_) (fun c20 => ?_)
        · refine lv_iconst (v := (nI 0)) hx hb dX8_costOf_35 (by decide) ?_
          refine lv_iadd hx hb dX8_costOf_36 (ti (y := (nI ((cst (sc sv) set k) + 0))) (nI_add _ _) ?_)
          refine lv_istore_n (lv' := [(2, .int (nI ((cst (sc sv) set k) + 0))), (0, .ref (ad 0)), (1, .int (nI set)), (3, .int (nI k))]) hx hb dX8_costOf_37 rfl hl (by decide) rfl (fun ls hl => ?_)
          refine lv_iinc (v := (nI (k + 1))) (lv' := [(3, .int (nI (k + 1))), (2, .int (nI ((cst (sc sv) set k) + 0))), (0, .ref (ad 0)), (1, .int (nI set))]) hx hb dX8_costOf_38 hl (k := 3) rfl (qn_inc _) (by decide) rfl (fun ls hl => ?_)
          refine lv_goto (tgt := 4) hx hb dX8_costOf_41 (by decide) ?_
          exact ih4 (k + 1) ((cst (sc sv) set k) + 0) (by omega) (by rw [cst, Nat.add_zero]; exact (if_neg (by rw [c20]; decide)).symm) (by omega) _ _ hP hD hS ls (lv_sub hl [2, 3, 1, 0] rfl)
        · refine lv_aload_n hx hb dX8_costOf_23 rfl (lv_at hl 0 rfl) ?_
          refine va_get (D := G.1) (ci := 7) (v := .ref (ad 1)) (C := RX8) (T := TX8) (N := 17) hx hb hts inA8 hown hX.1 hP 0 rfl rfl 1 (by decide) (hts _ kw_681) (fun _ h9 => h9) rfl dX8_costOf_24 ?_
          refine lv_bipush (v := (nI 40)) hx hb dX8_costOf_27 (by decide) ?_
          refine lv_iload_n hx hb dX8_costOf_29 rfl (lv_at hl 3 rfl) ?_
          refine lv_iadd hx hb dX8_costOf_30 (ti (y := (nI (40 + k))) (nI_add _ _) ?_)
          refine nv_ald (f := sv) (k := 40 + k) hx hb hX hP 1 rfl (by omega) (by decide) dX8_costOf_31 ?_
          refine ti (y := (nI (sc sv k))) rfl ?_
          refine lv_goto (tgt := 36) hx hb dX8_costOf_32 (by decide) ?_
          refine lv_iadd hx hb dX8_costOf_36 (ti (y := (nI ((cst (sc sv) set k) + (sc sv k)))) (nI_add _ _) ?_)
          refine lv_istore_n (lv' := [(2, .int (nI ((cst (sc sv) set k) + (sc sv k)))), (0, .ref (ad 0)), (1, .int (nI set)), (3, .int (nI k))]) hx hb dX8_costOf_37 rfl hl (by decide) rfl (fun ls hl => ?_)
          refine lv_iinc (v := (nI (k + 1))) (lv' := [(3, .int (nI (k + 1))), (2, .int (nI ((cst (sc sv) set k) + (sc sv k)))), (0, .ref (ad 0)), (1, .int (nI set))]) hx hb dX8_costOf_38 hl (k := 3) rfl (qn_inc _) (by decide) rfl (fun ls hl => ?_)
          refine lv_goto (tgt := 4) hx hb dX8_costOf_41 (by decide) ?_
          exact ih4 (k + 1) ((cst (sc sv) set k) + (sc sv k)) (by omega) (by rw [cst]; exact (if_pos c20).symm) (by omega) _ _ hP hD hS ls (lv_sub hl [2, 3, 1, 0] rfl)
  exact lp4 _ 0 0 (Nat.lt_succ_self _) rfl (Nat.zero_le _) _ _ hP hD hS ls (lv_sub hl [2, 3, 1, 0] rfl)

theorem hdX8_beyond : hdOK yX8_beyond 2 := by decide +kernel
set_option maxHeartbeats 4000000 in
set_option maxRecDepth 100000 in
theorem mX8_beyond (l : Launch) (G : GG) (ad : Nat → Nat) (z : Nat → Nat) (fo : Option Nat) (sv : Nat → Nat) (d : Nat → Int32) (pa ke : Nat → Nat) (ik fa : Nat → Int32) (te aw : Nat → Nat) (k v : Nat) (hB : SB sv) (hk : k < 12) (hv : v < 2 ^ 31) : Mi l yX8_beyond cX8_beyond 3 (some .int) (rmN 0 0) G [.ref (ad 0), .int (nI k), .int (nI v)] (mow G ad z fo sv d pa ke ik fa te aw) (fun (r9 : Int32) (_ : Unit) => r9 = (oN (byO (sf sv) (sg sv) k v))) (fun (_ : Unit) => mow G ad z fo sv d pa ke ik fa te aw) := by
  refine Mi.of (cc := cX8_beyond) (nL := 3) (by decide) (Nat.le_of_ble_eq_true rfl) ?_
  intro p e s m below meth c A ls F hr hlocks hnm hX hA hD hP hS hl
  have F : CallFix p m c cX8_beyond 3 s [.ref (ad 0), .int (nI k), .int (nI v)].toArray wA RX8 := F
  obtain ⟨hx, hb, hml, hown, hts⟩ := id F
  have hl : lv_has ls 3 [(0, .ref (ad 0)), (1, .int (nI k)), (2, .int (nI v))] := hl
  obtain ⟨⟨b0, b1, b2, b3, b4, b5, b6, b7, b8⟩, g1, g2, g3, g4⟩ := id hB
  have gf : ∀ j, sf sv j < 10 := fun j => g1 (16 + j) (by omega)
  have gg : ∀ j, sg sv j < 10 := fun j => g1 (28 + j) (by omega)
  have gc : ∀ j, sc sv j ≤ 9 := fun j => by have := g1 (40 + j) (by omega); unfold sc; omega
  have gf7 : ∀ j, j < 12 → sf sv j < 7 := g2
  have gg7 : ∀ j, j < 12 → sg sv j < 7 := g3
  refine lv_aload_n hx hb dX8_beyond_0 rfl (lv_at hl 0 rfl) ?_
  refine va_get (D := G.1) (ci := 7) (v := .ref (ad 1)) (C := RX8) (T := TX8) (N := 17) hx hb hts inA8 hown hX.1 hP 0 rfl rfl 1 (by decide) (hts _ kw_681) (fun _ h9 => h9) rfl dX8_beyond_1 ?_
  refine lv_bipush (v := (nI 16)) hx hb dX8_beyond_4 (by decide) ?_
  refine lv_iload_n hx hb dX8_beyond_6 rfl (lv_at hl 1 rfl) ?_
  refine lv_iadd hx hb dX8_beyond_7 (ti (y := (nI (16 + k))) (nI_add _ _) ?_)
  refine nv_ald (f := sv) (k := 16 + k) hx hb hX hP 1 rfl (by omega) (by decide) dX8_beyond_8 ?_
  refine ti (y := (nI (sf sv k))) rfl ?_
  refine lv_iload_n hx hb dX8_beyond_9 rfl (lv_at hl 2 rfl) ?_
  refine nv_ne (x := sf sv k) (y := v) (tgt := 25) hx hb dX8_beyond_10 (by decide) (by have := gf k; omega) (by omega) (fun c10 => ?_) (fun c10 => ?_)
  · refine lv_aload_n hx hb dX8_beyond_25 rfl (lv_at hl 0 rfl) ?_
    refine va_get (D := G.1) (ci := 7) (v := .ref (ad 1)) (C := RX8) (T := TX8) (N := 17) hx hb hts inA8 hown hX.1 hP 0 rfl rfl 1 (by decide) (hts _ kw_681) (fun _ h9 => h9) rfl dX8_beyond_26 ?_
    refine lv_bipush (v := (nI 28)) hx hb dX8_beyond_29 (by decide) ?_
    refine lv_iload_n hx hb dX8_beyond_31 rfl (lv_at hl 1 rfl) ?_
    refine lv_iadd hx hb dX8_beyond_32 (ti (y := (nI (28 + k))) (nI_add _ _) ?_)
    refine nv_ald (f := sv) (k := 28 + k) hx hb hX hP 1 rfl (by omega) (by decide) dX8_beyond_33 ?_
    refine ti (y := (nI (sg sv k))) rfl ?_
    refine lv_iload_n hx hb dX8_beyond_34 rfl (lv_at hl 2 rfl) ?_
    refine nv_ne (x := sg sv k) (y := v) (tgt := 50) hx hb dX8_beyond_35 (by decide) (by have := gg k; omega) (by omega) (fun c35 => ?_) (fun c35 => ?_)
    · refine lv_bipush (v := (-9)) hx hb dX8_beyond_50 (by decide) ?_
      exact re_i (v := (-9)) hx hb hr hlocks hS () hP hD (by rw [byO, if_neg c10, if_neg c35]; rfl) dX8_beyond_52
    · refine lv_aload_n hx hb dX8_beyond_38 rfl (lv_at hl 0 rfl) ?_
      refine va_get (D := G.1) (ci := 7) (v := .ref (ad 1)) (C := RX8) (T := TX8) (N := 17) hx hb hts inA8 hown hX.1 hP 0 rfl rfl 1 (by decide) (hts _ kw_681) (fun _ h9 => h9) rfl dX8_beyond_39 ?_
      refine lv_bipush (v := (nI 16)) hx hb dX8_beyond_42 (by decide) ?_
      refine lv_iload_n hx hb dX8_beyond_44 rfl (lv_at hl 1 rfl) ?_
      refine lv_iadd hx hb dX8_beyond_45 (ti (y := (nI (16 + k))) (nI_add _ _) ?_)
      refine nv_ald (f := sv) (k := 16 + k) hx hb hX hP 1 rfl (by omega) (by decide) dX8_beyond_46 ?_
      refine ti (y := (nI (sf sv k))) rfl ?_
      refine lv_goto (tgt := 52) hx hb dX8_beyond_47 (by decide) ?_
      exact re_i (v := (nI (sf sv k))) hx hb hr hlocks hS () hP hD (by rw [byO, if_neg c10, if_pos c35]; rfl) dX8_beyond_52
  · refine lv_aload_n hx hb dX8_beyond_13 rfl (lv_at hl 0 rfl) ?_
    refine va_get (D := G.1) (ci := 7) (v := .ref (ad 1)) (C := RX8) (T := TX8) (N := 17) hx hb hts inA8 hown hX.1 hP 0 rfl rfl 1 (by decide) (hts _ kw_681) (fun _ h9 => h9) rfl dX8_beyond_14 ?_
    refine lv_bipush (v := (nI 28)) hx hb dX8_beyond_17 (by decide) ?_
    refine lv_iload_n hx hb dX8_beyond_19 rfl (lv_at hl 1 rfl) ?_
    refine lv_iadd hx hb dX8_beyond_20 (ti (y := (nI (28 + k))) (nI_add _ _) ?_)
    refine nv_ald (f := sv) (k := 28 + k) hx hb hX hP 1 rfl (by omega) (by decide) dX8_beyond_21 ?_
    refine ti (y := (nI (sg sv k))) rfl ?_
    refine lv_goto (tgt := 52) hx hb dX8_beyond_22 (by decide) ?_
    exact re_i (v := (nI (sg sv k))) hx hb hr hlocks hS () hP hD (by rw [byO, if_pos c10]; rfl) dX8_beyond_52

theorem hdX8_nodesOf : hdOK yX8_nodesOf 1 := by decide +kernel
set_option maxHeartbeats 4000000 in
set_option maxRecDepth 100000 in
theorem mX8_nodesOf (l : Launch) (G : GG) (ad : Nat → Nat) (z : Nat → Nat) (fo : Option Nat) (sv : Nat → Nat) (d : Nat → Int32) (pa ke : Nat → Nat) (ik fa : Nat → Int32) (te aw : Nat → Nat) (lk : Nat) (hB : SB sv) (hs : lk < 2 ^ 31) : Mi l yX8_nodesOf cX8_nodesOf 6 (some .int) (rmN 1 21) G [.ref (ad 0), .int (nI lk)] (mow G ad z fo sv d pa ke ik fa te aw) (fun (r9 : Int32) (_ : Unit) => r9 = (nI (clo (sf sv) (sg sv) lk (sv 1) (sv 2)))) (fun (_ : Unit) => mow G ad z fo sv d pa ke ik fa te aw) := by
  refine Mi.of (cc := cX8_nodesOf) (nL := 6) (by decide) (Nat.le_of_ble_eq_true rfl) ?_
  intro p e s m below meth c A ls F hr hlocks hnm hX hA hD hP hS hl
  have F : CallFix p m c cX8_nodesOf 6 s [.ref (ad 0), .int (nI lk)].toArray wA RX8 := F
  obtain ⟨hx, hb, hml, hown, hts⟩ := id F
  have hl : lv_has ls 6 [(0, .ref (ad 0)), (1, .int (nI lk))] := hl
  obtain ⟨⟨b0, b1, b2, b3, b4, b5, b6, b7, b8⟩, g1, g2, g3, g4⟩ := id hB
  have gf : ∀ j, sf sv j < 10 := fun j => g1 (16 + j) (by omega)
  have gg : ∀ j, sg sv j < 10 := fun j => g1 (28 + j) (by omega)
  have gc : ∀ j, sc sv j ≤ 9 := fun j => by have := g1 (40 + j) (by omega); unfold sc; omega
  have gf7 : ∀ j, j < 12 → sf sv j < 7 := g2
  have gg7 : ∀ j, j < 12 → sg sv j < 7 := g3
  have hz : 2 ^ (sv 2) < 1024 := pw_lt (n := 10) (by omega)
  refine lv_iconst (v := (nI 1)) hx hb dX8_nodesOf_0 (by decide) ?_
  refine lv_aload_n hx hb dX8_nodesOf_1 rfl (lv_at hl 0 rfl) ?_
  refine va_get (D := G.1) (ci := 7) (v := .ref (ad 1)) (C := RX8) (T := TX8) (N := 17) hx hb hts inA8 hown hX.1 hP 0 rfl rfl 1 (by decide) (hts _ kw_681) (fun _ h9 => h9) rfl dX8_nodesOf_2 ?_
  refine lv_iconst (v := (nI 2)) hx hb dX8_nodesOf_5 (by decide) ?_
  refine nv_ald (f := sv) (k := 2) hx hb hX hP 1 rfl (by omega) (by decide) dX8_nodesOf_6 ?_
  refine lv_ishl hx hb dX8_nodesOf_7 (ti (y := (nI (2 ^ (sv 2)))) (qn_sh1 (by omega)) ?_)
  refine lv_istore_n (lv' := [(2, .int (nI (2 ^ (sv 2)))), (0, .ref (ad 0)), (1, .int (nI lk))]) hx hb dX8_nodesOf_8 rfl hl (by decide) rfl (fun ls hl => ?_)
  refine lv_iconst (v := (nI 0)) hx hb dX8_nodesOf_9 (by decide) ?_
  refine lv_istore_n (lv' := [(3, .int (nI 0)), (2, .int (nI (2 ^ (sv 2)))), (0, .ref (ad 0)), (1, .int (nI lk))]) hx hb dX8_nodesOf_10 rfl hl (by decide) rfl (fun ls hl => ?_)
  have lp11 : ∀ (n11 : Nat) (q : Nat) (was : Nat) (x : Nat), (2 * (1024 - x) + (if was = x then 0 else 1)) < n11 → x = hgn (sf sv) (sg sv) lk (sv 1) q (2 ^ (sv 2)) → (was < 1024) → (was = hgn (sf sv) (sg sv) lk (sv 1) q (2 ^ (sv 2)) → hgr (sf sv) (sg sv) lk (sv 1) (hgn (sf sv) (sg sv) lk (sv 1) q (2 ^ (sv 2))) = hgn (sf sv) (sg sv) lk (sv 1) q (2 ^ (sv 2))) → ∀ (H : Heap) (locs : List Loc), va_P G.1 vwCl (mow G ad z fo sv d pa ke ik fa te aw) H → va_D A (mow G ad z fo sv d pa ke ik fa te aw) → va_S A s.heap H locs → ∀ (ls : Array Slot), lv_has ls 6 [(0, .ref (ad 0)), (1, .int (nI lk)), (2, .int (nI x)), (3, .int (nI was))] → WI p l e (rmN 1 21) s m [.ref (ad 0), .int (nI lk)] below meth c H locs G A (fun (r9 : Int32) (_ : Unit) => r9 = (nI (clo (sf sv) (sg sv) lk (sv 1) (sv 2)))) (fun (_ : Unit) => mow G ad z fo sv d pa ke ik fa te aw) (F0 m 11 ls []) := by
    intro n11
    induction n11 with
    | zero => intro q was x h9; exact absurd h9 (Nat.not_lt_zero _)
    | succ n11 ih11 =>
      intro q was x hm11 e_x hw9 hfix H locs hP hD hS ls hl
      subst e_x
      refine lv_iload_n hx hb dX8_nodesOf_11 rfl (lv_at hl 3 rfl) ?_
      refine lv_iload_n hx hb dX8_nodesOf_12 rfl (lv_at hl 2 rfl) ?_
      refine nv_eq (x := was) (y := (hgn (sf sv) (sg sv) lk (sv 1) q (2 ^ (sv 2)))) (tgt := 128) hx hb dX8_nodesOf_13 (by decide) (by omega) (by have := hgn_lt10 gf gg (set := lk) (L := sv 1) hz q; omega) (fun c13 => ?_) (fun c13 => ?_)
      · refine lv_iload_n hx hb dX8_nodesOf_128 rfl (lv_at hl 2 rfl) ?_
        exact re_i (v := (nI (hgn (sf sv) (sg sv) lk (sv 1) q (2 ^ (sv 2))))) hx hb hr hlocks hS () hP hD (by rw [clo_of gf gg (by omega) (hfix c13)]) dX8_nodesOf_129
      · refine lv_iload_n hx hb dX8_nodesOf_16 rfl (lv_at hl 2 rfl) ?_
        refine lv_istore_n (lv' := [(3, .int (nI (hgn (sf sv) (sg sv) lk (sv 1) q (2 ^ (sv 2))))), (0, .ref (ad 0)), (1, .int (nI lk)), (2, .int (nI (hgn (sf sv) (sg sv) lk (sv 1) q (2 ^ (sv 2)))))]) hx hb dX8_nodesOf_17 rfl hl (by decide) rfl (fun ls hl => ?_)
        refine lv_iconst (v := (nI 0)) hx hb dX8_nodesOf_18 (by decide) ?_
        refine lv_istore (lv' := [(4, .int (nI 0)), (3, .int (nI (hgn (sf sv) (sg sv) lk (sv 1) q (2 ^ (sv 2))))), (0, .ref (ad 0)), (1, .int (nI lk)), (2, .int (nI (hgn (sf sv) (sg sv) lk (sv 1) q (2 ^ (sv 2)))))]) hx hb dX8_nodesOf_19 hl (by decide) rfl (fun ls hl => ?_)
        have lp21 : ∀ (n21 : Nat) (k : Nat) (y : Nat), (sv 1 - k) < n21 → y = hgr (sf sv) (sg sv) lk k (hgn (sf sv) (sg sv) lk (sv 1) q (2 ^ (sv 2))) → (k ≤ sv 1) → ∀ (H : Heap) (locs : List Loc), va_P G.1 vwCl (mow G ad z fo sv d pa ke ik fa te aw) H → va_D A (mow G ad z fo sv d pa ke ik fa te aw) → va_S A s.heap H locs → ∀ (ls : Array Slot), lv_has ls 6 [(0, .ref (ad 0)), (1, .int (nI lk)), (2, .int (nI y)), (3, .int (nI (hgn (sf sv) (sg sv) lk (sv 1) q (2 ^ (sv 2))))), (4, .int (nI k))] → WI p l e (rmN 1 21) s m [.ref (ad 0), .int (nI lk)] below meth c H locs G A (fun (r9 : Int32) (_ : Unit) => r9 = (nI (clo (sf sv) (sg sv) lk (sv 1) (sv 2)))) (fun (_ : Unit) => mow G ad z fo sv d pa ke ik fa te aw) (F0 m 21 ls []) := by
          intro n21
          induction n21 with
          | zero => intro k y h9; exact absurd h9 (Nat.not_lt_zero _)
          | succ n21 ih21 =>
            intro k y hm21 e_y hk H locs hP hD hS ls hl
            subst e_y
            refine lv_iload hx hb dX8_nodesOf_21 (lv_at hl 4 rfl) ?_
            refine lv_aload_n hx hb dX8_nodesOf_23 rfl (lv_at hl 0 rfl) ?_
            refine va_get (D := G.1) (ci := 7) (v := .ref (ad 1)) (C := RX8) (T := TX8) (N := 17) hx hb hts inA8 hown hX.1 hP 0 rfl rfl 1 (by decide) (hts _ kw_681) (fun _ h9 => h9) rfl dX8_nodesOf_24 ?_
            refine lv_iconst (v := (nI 1)) hx hb dX8_nodesOf_27 (by decide) ?_
            refine nv_ald (f := sv) (k := 1) hx hb hX hP 1 rfl (by omega) (by decide) dX8_nodesOf_28 ?_
            refine nv_ge (x := k) (y := sv 1) (tgt := 125) hx hb dX8_nodesOf_29 (by decide) (by omega) (by omega) (fun c29 => ?_) (fun c29 => ?_)
            · refine lv_goto (tgt := 11) hx hb dX8_nodesOf_125 (by decide) ?_
              exact ih11 (q + 1) (hgn (sf sv) (sg sv) lk (sv 1) q (2 ^ (sv 2))) (hgr (sf sv) (sg sv) lk k (hgn (sf sv) (sg sv) lk (sv 1) q (2 ^ (sv 2)))) (by have h1 := hgr_ge (sf sv) (sg sv) lk (hgn (sf sv) (sg sv) lk (sv 1) q (2 ^ (sv 2))) k; have h2 := hgr_lt10 gf gg (set := lk) (hgn_lt10 gf gg (set := lk) (L := sv 1) hz q) k; have h3 := hgn_lt10 gf gg (set := lk) (L := sv 1) hz q; rw [if_neg c13] at hm11; split <;> omega) (by have e9 : k = sv 1 := (by omega); rw [e9]; rfl) (hgn_lt10 gf gg hz q) (fun h => by show hgr _ _ _ _ (hgr _ _ _ _ (hgn _ _ _ _ q _)) = hgr _ _ _ _ (hgn _ _ _ _ q _); have h2 : hgn (sf sv) (sg sv) lk (sv 1) q (2 ^ (sv 2)) = hgr (sf sv) (sg sv) lk (sv 1) (hgn (sf sv) (sg sv) lk (sv 1) q (2 ^ (sv 2))) := h; rw [← h2, ← h2]) _ _ hP hD hS ls (lv_sub hl [0, 1, 2, 3] rfl)
            · refine lv_iload_n hx hb dX8_nodesOf_32 rfl (lv_at hl 1 rfl) ?_
              refine lv_iload hx hb dX8_nodesOf_33 (lv_at hl 4 rfl) ?_
              refine ca_Si (rest := []) (wr := mow G ad z fo sv d pa ke ik fa te aw) F hX (mX8_has l G lk k (by omega) (by omega)) (cA_S hts kw_801 kw_8 kw_799 kw_800 hdX8_has ⟨Nat.le_of_ble_eq_true rfl, Nat.le_of_ble_eq_true rfl⟩) rfl hl.1 rfl (Nat.le_of_ble_eq_true rfl) dX8_nodesOf_35 ⟨Nat.le_of_ble_eq_true rfl, Nat.le_of_ble_eq_true rfl⟩ hP hD hS hA (List.Perm.refl _) (fun r35 u35 H locs hp35 hP hD hS => ?_)
              have hP : va_P G.1 vwCl (mow G ad z fo sv d pa ke ik fa te aw) H := hP
              have hD : va_D A (mow G ad z fo sv d pa ke ik fa te aw) := hD
              subst hp35
              refine bv_eq (b := lk.testBit k) (tgt := 79) hx hb dX8_nodesOf_38 (by decide) (fun c38 => ?_) (fun c38 => ?_)
              · refine lv_iconst (v := (nI 0)) hx hb dX8_nodesOf_79 (by decide) ?_
                refine lv_istore (lv' := [(5, .int (nI 0)), (0, .ref (ad 0)), (1, .int (nI lk)), (2, .int (nI (hgr (sf sv) (sg sv) lk k (hgn (sf sv) (sg sv) lk (sv 1) q (2 ^ (sv 2)))))), (3, .int (nI (hgn (sf sv) (sg sv) lk (sv 1) q (2 ^ (sv 2))))), (4, .int (nI k))]) hx hb dX8_nodesOf_80 hl (by decide) rfl (fun ls hl => ?_)
                refine lv_iload_n hx hb dX8_nodesOf_82 rfl (lv_at hl 3 rfl) ?_
                refine lv_iload hx hb dX8_nodesOf_83 (lv_at hl 0 rfl) ?_
                refine nv_zeq (x := 0) (tgt := 116) hx hb dX8_nodesOf_85 (by decide) (by decide) (fun _ => ?_) (fun h9 => absurd h9 (by decide))
                refine lv_iconst (v := (nI 0)) hx hb dX8_nodesOf_116 (by decide) ?_
                refine lv_ior hx hb dX8_nodesOf_117 (ti (y := (nI ((hgr (sf sv) (sg sv) lk k (hgn (sf sv) (sg sv) lk (sv 1) q (2 ^ (sv 2)))) ||| 0))) (qn_or _ _) ?_)
                refine lv_istore_n (lv' := [(2, .int (nI ((hgr (sf sv) (sg sv) lk k (hgn (sf sv) (sg sv) lk (sv 1) q (2 ^ (sv 2)))) ||| 0))), (5, .int (nI 0)), (0, .ref (ad 0)), (1, .int (nI lk)), (3, .int (nI (hgn (sf sv) (sg sv) lk (sv 1) q (2 ^ (sv 2))))), (4, .int (nI k))]) hx hb dX8_nodesOf_118 rfl hl (by decide) rfl (fun ls hl => ?_)
                refine lv_iinc (v := (nI (k + 1))) (lv' := [(4, .int (nI (k + 1))), (2, .int (nI ((hgr (sf sv) (sg sv) lk k (hgn (sf sv) (sg sv) lk (sv 1) q (2 ^ (sv 2)))) ||| 0))), (5, .int (nI 0)), (0, .ref (ad 0)), (1, .int (nI lk)), (3, .int (nI (hgn (sf sv) (sg sv) lk (sv 1) q (2 ^ (sv 2)))))]) hx hb dX8_nodesOf_119 hl (k := 5) rfl (qn_inc _) (by decide) rfl (fun ls hl => ?_)
                refine lv_goto (tgt := 21) hx hb dX8_nodesOf_122 (by decide) ?_
                exact ih21 (k + 1) ((hgr (sf sv) (sg sv) lk k (hgn (sf sv) (sg sv) lk (sv 1) q (2 ^ (sv 2)))) ||| 0) (by omega) (by rw [Nat.or_zero, hgr]; exact (if_neg (fun h => absurd (c38.symm.trans h.1) (by decide))).symm) (by omega) _ _ hP hD hS ls (lv_sub hl [3, 4, 1, 5, 0] rfl)
              · refine lv_iload_n hx hb dX8_nodesOf_41 rfl (lv_at hl 2 rfl) ?_
                refine lv_aload_n hx hb dX8_nodesOf_42 rfl (lv_at hl 0 rfl) ?_
                refine va_get (D := G.1) (ci := 7) (v := .ref (ad 1)) (C := RX8) (T := TX8) (N := 17) hx hb hts inA8 hown hX.1 hP 0 rfl rfl 1 (by decide) (hts _ kw_681) (fun _ h9 => h9) rfl dX8_nodesOf_43 ?_
                refine lv_bipush (v := (nI 16)) hx hb dX8_nodesOf_46 (by decide) ?_
                refine lv_iload hx hb dX8_nodesOf_48 (lv_at hl 4 rfl) ?_
                refine lv_iadd hx hb dX8_nodesOf_50 (ti (y := (nI (16 + k))) (nI_add _ _) ?_)
                refine nv_ald (f := sv) (k := 16 + k) hx hb hX hP 1 rfl (by omega) (by decide) dX8_nodesOf_51 ?_
                refine ti (y := (nI (sf sv k))) rfl ?_
                refine ca_Si (rest := []) (wr := mow G ad z fo sv d pa ke ik fa te aw) F hX (mX8_has l G (hgr (sf sv) (sg sv) lk k (hgn (sf sv) (sg sv) lk (sv 1) q (2 ^ (sv 2)))) (sf sv k) (by have h1 := hgr_lt10 gf gg (set := lk) (hgn_lt10 gf gg (set := lk) (L := sv 1) hz q) k; omega) (by have := gf k; omega)) (cA_S hts kw_801 kw_8 kw_799 kw_800 hdX8_has ⟨Nat.le_of_ble_eq_true rfl, Nat.le_of_ble_eq_true rfl⟩) rfl hl.1 rfl (Nat.le_of_ble_eq_true rfl) dX8_nodesOf_52 ⟨Nat.le_of_ble_eq_true rfl, Nat.le_of_ble_eq_true rfl⟩ hP hD hS hA (List.Perm.refl _) (fun r52 u52 H locs hp52 hP hD hS => ?_)
                have hP : va_P G.1 vwCl (mow G ad z fo sv d pa ke ik fa te aw) H := hP
                have hD : va_D A (mow G ad z fo sv d pa ke ik fa te aw) := hD
                subst hp52
                refine bv_ne (b := (hgr (sf sv) (sg sv) lk k (hgn (sf sv) (sg sv) lk (sv 1) q (2 ^ (sv 2)))).testBit (sf sv k)) (tgt := 75) hx hb dX8_nodesOf_55 (by decide) (fun c55 => ?_) (fun c55 => ?_)
                · refine lv_iconst (v := (nI 1)) hx hb dX8_nodesOf_75 (by decide) ?_
                  refine lv_goto (tgt := 80) hx hb dX8_nodesOf_76 (by decide) ?_
                  refine lv_istore (lv' := [(5, .int (nI 1)), (0, .ref (ad 0)), (1, .int (nI lk)), (2, .int (nI (hgr (sf sv) (sg sv) lk k (hgn (sf sv) (sg sv) lk (sv 1) q (2 ^ (sv 2)))))), (3, .int (nI (hgn (sf sv) (sg sv) lk (sv 1) q (2 ^ (sv 2))))), (4, .int (nI k))]) hx hb dX8_nodesOf_80 hl (by decide) rfl (fun ls hl => ?_)
                  refine lv_iload_n hx hb dX8_nodesOf_82 rfl (lv_at hl 3 rfl) ?_
                  refine lv_iload hx hb dX8_nodesOf_83 (lv_at hl 0 rfl) ?_
                  refine nv_zeq (x := 1) (tgt := 116) hx hb dX8_nodesOf_85 (by decide) (by decide) (fun h9 => absurd h9 (by decide)) (fun _ => ?_)
                  refine lv_iconst (v := (nI 1)) hx hb dX8_nodesOf_88 (by decide) ?_
                  refine lv_aload_n hx hb dX8_nodesOf_89 rfl (lv_at hl 1 rfl) ?_
                  refine va_get (D := G.1) (ci := 7) (v := .ref (ad 1)) (C := RX8) (T := TX8) (N := 17) hx hb hts inA8 hown hX.1 hP 0 rfl rfl 1 (by decide) (hts _ kw_681) (fun _ h9 => h9) rfl dX8_nodesOf_90 ?_
                  refine lv_bipush (v := (nI 16)) hx hb dX8_nodesOf_93 (by decide) ?_
                  refine lv_iload hx hb dX8_nodesOf_95 (lv_at hl 5 rfl) ?_
                  refine lv_iadd hx hb dX8_nodesOf_97 (ti (y := (nI (16 + k))) (nI_add _ _) ?_)
                  refine nv_ald (f := sv) (k := 16 + k) hx hb hX hP 1 rfl (by omega) (by decide) dX8_nodesOf_98 ?_
                  refine ti (y := (nI (sf sv k))) rfl ?_
                  refine lv_ishl hx hb dX8_nodesOf_99 (ti (y := (nI (2 ^ (sf sv k)))) (qn_sh1 (by have := gf k; omega)) ?_)
                  refine lv_iconst (v := (nI 1)) hx hb dX8_nodesOf_100 (by decide) ?_
                  refine lv_aload_n hx hb dX8_nodesOf_101 rfl (lv_at hl 1 rfl) ?_
                  refine va_get (D := G.1) (ci := 7) (v := .ref (ad 1)) (C := RX8) (T := TX8) (N := 17) hx hb hts inA8 hown hX.1 hP 0 rfl rfl 1 (by decide) (hts _ kw_681) (fun _ h9 => h9) rfl dX8_nodesOf_102 ?_
                  refine lv_bipush (v := (nI 28)) hx hb dX8_nodesOf_105 (by decide) ?_
                  refine lv_iload hx hb dX8_nodesOf_107 (lv_at hl 5 rfl) ?_
                  refine lv_iadd hx hb dX8_nodesOf_109 (ti (y := (nI (28 + k))) (nI_add _ _) ?_)
                  refine nv_ald (f := sv) (k := 28 + k) hx hb hX hP 1 rfl (by omega) (by decide) dX8_nodesOf_110 ?_
                  refine ti (y := (nI (sg sv k))) rfl ?_
                  refine lv_ishl hx hb dX8_nodesOf_111 (ti (y := (nI (2 ^ (sg sv k)))) (qn_sh1 (by have := gg k; omega)) ?_)
                  refine lv_ior hx hb dX8_nodesOf_112 (ti (y := (nI ((2 ^ (sf sv k)) ||| (2 ^ (sg sv k))))) (qn_or _ _) ?_)
                  refine lv_goto (tgt := 117) hx hb dX8_nodesOf_113 (by decide) ?_
                  refine lv_ior hx hb dX8_nodesOf_117 (ti (y := (nI ((hgr (sf sv) (sg sv) lk k (hgn (sf sv) (sg sv) lk (sv 1) q (2 ^ (sv 2)))) ||| ((2 ^ (sf sv k)) ||| (2 ^ (sg sv k)))))) (qn_or _ _) ?_)
                  refine lv_istore_n (lv' := [(2, .int (nI ((hgr (sf sv) (sg sv) lk k (hgn (sf sv) (sg sv) lk (sv 1) q (2 ^ (sv 2)))) ||| ((2 ^ (sf sv k)) ||| (2 ^ (sg sv k)))))), (5, .int (nI 1)), (0, .ref (ad 0)), (1, .int (nI lk)), (3, .int (nI (hgn (sf sv) (sg sv) lk (sv 1) q (2 ^ (sv 2))))), (4, .int (nI k))]) hx hb dX8_nodesOf_118 rfl hl (by decide) rfl (fun ls hl => ?_)
                  refine lv_iinc (v := (nI (k + 1))) (lv' := [(4, .int (nI (k + 1))), (2, .int (nI ((hgr (sf sv) (sg sv) lk k (hgn (sf sv) (sg sv) lk (sv 1) q (2 ^ (sv 2)))) ||| ((2 ^ (sf sv k)) ||| (2 ^ (sg sv k)))))), (5, .int (nI 1)), (0, .ref (ad 0)), (1, .int (nI lk)), (3, .int (nI (hgn (sf sv) (sg sv) lk (sv 1) q (2 ^ (sv 2)))))]) hx hb dX8_nodesOf_119 hl (k := 5) rfl (qn_inc _) (by decide) rfl (fun ls hl => ?_)
                  refine lv_goto (tgt := 21) hx hb dX8_nodesOf_122 (by decide) ?_
                  exact ih21 (k + 1) ((hgr (sf sv) (sg sv) lk k (hgn (sf sv) (sg sv) lk (sv 1) q (2 ^ (sv 2)))) ||| ((2 ^ (sf sv k)) ||| (2 ^ (sg sv k)))) (by omega) (by rw [hgr]; exact (if_pos ⟨c38, ed_and.mpr (Or.inl c55)⟩).symm) (by omega) _ _ hP hD hS ls (lv_sub hl [3, 4, 1, 5, 0] rfl)
                · refine lv_iload_n hx hb dX8_nodesOf_58 rfl (lv_at hl 2 rfl) ?_
                  refine lv_aload_n hx hb dX8_nodesOf_59 rfl (lv_at hl 0 rfl) ?_
                  refine va_get (D := G.1) (ci := 7) (v := .ref (ad 1)) (C := RX8) (T := TX8) (N := 17) hx hb hts inA8 hown hX.1 hP 0 rfl rfl 1 (by decide) (hts _ kw_681) (fun _ h9 => h9) rfl dX8_nodesOf_60 ?_
                  refine lv_bipush (v := (nI 28)) hx hb dX8_nodesOf_63 (by decide) ?_
                  refine lv_iload hx hb dX8_nodesOf_65 (lv_at hl 4 rfl) ?_
                  refine lv_iadd hx hb dX8_nodesOf_67 (ti (y := (nI (28 + k))) (nI_add _ _) ?_)
                  refine nv_ald (f := sv) (k := 28 + k) hx hb hX hP 1 rfl (by omega) (by decide) dX8_nodesOf_68 ?_
                  refine ti (y := (nI (sg sv k))) rfl ?_
                  refine ca_Si (rest := []) (wr := mow G ad z fo sv d pa ke ik fa te aw) F hX (mX8_has l G (hgr (sf sv) (sg sv) lk k (hgn (sf sv) (sg sv) lk (sv 1) q (2 ^ (sv 2)))) (sg sv k) (by have h1 := hgr_lt10 gf gg (set := lk) (hgn_lt10 gf gg (set := lk) (L := sv 1) hz q) k; omega) (by have := gg k; omega)) (cA_S hts kw_801 kw_8 kw_799 kw_800 hdX8_has ⟨Nat.le_of_ble_eq_true rfl, Nat.le_of_ble_eq_true rfl⟩) rfl hl.1 rfl (Nat.le_of_ble_eq_true rfl) dX8_nodesOf_69 ⟨Nat.le_of_ble_eq_true rfl, Nat.le_of_ble_eq_true rfl⟩ hP hD hS hA (List.Perm.refl _) (fun r69 u69 H locs hp69 hP hD hS => ?_)
                  have hP : va_P G.1 vwCl (mow G ad z fo sv d pa ke ik fa te aw) H := hP
                  have hD : va_D A (mow G ad z fo sv d pa ke ik fa te aw) := hD
                  subst hp69
                  refine bv_eq (b := (hgr (sf sv) (sg sv) lk k (hgn (sf sv) (sg sv) lk (sv 1) q (2 ^ (sv 2)))).testBit (sg sv k)) (tgt := 79) hx hb dX8_nodesOf_72 (by decide) (fun c72 => ?_) (fun c72 => ?_)
                  · refine lv_iconst (v := (nI 0)) hx hb dX8_nodesOf_79 (by decide) ?_
                    refine lv_istore (lv' := [(5, .int (nI 0)), (0, .ref (ad 0)), (1, .int (nI lk)), (2, .int (nI (hgr (sf sv) (sg sv) lk k (hgn (sf sv) (sg sv) lk (sv 1) q (2 ^ (sv 2)))))), (3, .int (nI (hgn (sf sv) (sg sv) lk (sv 1) q (2 ^ (sv 2))))), (4, .int (nI k))]) hx hb dX8_nodesOf_80 hl (by decide) rfl (fun ls hl => ?_)
                    refine lv_iload_n hx hb dX8_nodesOf_82 rfl (lv_at hl 3 rfl) ?_
                    refine lv_iload hx hb dX8_nodesOf_83 (lv_at hl 0 rfl) ?_
                    refine nv_zeq (x := 0) (tgt := 116) hx hb dX8_nodesOf_85 (by decide) (by decide) (fun _ => ?_) (fun h9 => absurd h9 (by decide))
                    refine lv_iconst (v := (nI 0)) hx hb dX8_nodesOf_116 (by decide) ?_
                    refine lv_ior hx hb dX8_nodesOf_117 (ti (y := (nI ((hgr (sf sv) (sg sv) lk k (hgn (sf sv) (sg sv) lk (sv 1) q (2 ^ (sv 2)))) ||| 0))) (qn_or _ _) ?_)
                    refine lv_istore_n (lv' := [(2, .int (nI ((hgr (sf sv) (sg sv) lk k (hgn (sf sv) (sg sv) lk (sv 1) q (2 ^ (sv 2)))) ||| 0))), (5, .int (nI 0)), (0, .ref (ad 0)), (1, .int (nI lk)), (3, .int (nI (hgn (sf sv) (sg sv) lk (sv 1) q (2 ^ (sv 2))))), (4, .int (nI k))]) hx hb dX8_nodesOf_118 rfl hl (by decide) rfl (fun ls hl => ?_)
                    refine lv_iinc (v := (nI (k + 1))) (lv' := [(4, .int (nI (k + 1))), (2, .int (nI ((hgr (sf sv) (sg sv) lk k (hgn (sf sv) (sg sv) lk (sv 1) q (2 ^ (sv 2)))) ||| 0))), (5, .int (nI 0)), (0, .ref (ad 0)), (1, .int (nI lk)), (3, .int (nI (hgn (sf sv) (sg sv) lk (sv 1) q (2 ^ (sv 2)))))]) hx hb dX8_nodesOf_119 hl (k := 5) rfl (qn_inc _) (by decide) rfl (fun ls hl => ?_)
                    refine lv_goto (tgt := 21) hx hb dX8_nodesOf_122 (by decide) ?_
                    exact ih21 (k + 1) ((hgr (sf sv) (sg sv) lk k (hgn (sf sv) (sg sv) lk (sv 1) q (2 ^ (sv 2)))) ||| 0) (by omega) (by rw [Nat.or_zero, hgr]; exact (if_neg (fun h => (ed_and.mp h.2).elim (fun h => absurd (c55.symm.trans h) (by decide)) (fun h => absurd (c72.symm.trans h) (by decide)))).symm) (by omega) _ _ hP hD hS ls (lv_sub hl [3, 4, 1, 5, 0] rfl)
                  · refine lv_iconst (v := (nI 1)) hx hb dX8_nodesOf_75 (by decide) ?_
                    refine lv_goto (tgt := 80) hx hb dX8_nodesOf_76 (by decide) ?_
                    refine lv_istore (lv' := [(5, .int (nI 1)), (0, .ref (ad 0)), (1, .int (nI lk)), (2, .int (nI (hgr (sf sv) (sg sv) lk k (hgn (sf sv) (sg sv) lk (sv 1) q (2 ^ (sv 2)))))), (3, .int (nI (hgn (sf sv) (sg sv) lk (sv 1) q (2 ^ (sv 2))))), (4, .int (nI k))]) hx hb dX8_nodesOf_80 hl (by decide) rfl (fun ls hl => ?_)
                    refine lv_iload_n hx hb dX8_nodesOf_82 rfl (lv_at hl 3 rfl) ?_
                    refine lv_iload hx hb dX8_nodesOf_83 (lv_at hl 0 rfl) ?_
                    refine nv_zeq (x := 1) (tgt := 116) hx hb dX8_nodesOf_85 (by decide) (by decide) (fun h9 => absurd h9 (by decide)) (fun _ => ?_)
                    refine lv_iconst (v := (nI 1)) hx hb dX8_nodesOf_88 (by decide) ?_
                    refine lv_aload_n hx hb dX8_nodesOf_89 rfl (lv_at hl 1 rfl) ?_
                    refine va_get (D := G.1) (ci := 7) (v := .ref (ad 1)) (C := RX8) (T := TX8) (N := 17) hx hb hts inA8 hown hX.1 hP 0 rfl rfl 1 (by decide) (hts _ kw_681) (fun _ h9 => h9) rfl dX8_nodesOf_90 ?_
                    refine lv_bipush (v := (nI 16)) hx hb dX8_nodesOf_93 (by decide) ?_
                    refine lv_iload hx hb dX8_nodesOf_95 (lv_at hl 5 rfl) ?_
                    refine lv_iadd hx hb dX8_nodesOf_97 (ti (y := (nI (16 + k))) (nI_add _ _) ?_)
                    refine nv_ald (f := sv) (k := 16 + k) hx hb hX hP 1 rfl (by omega) (by decide) dX8_nodesOf_98 ?_
                    refine ti (y := (nI (sf sv k))) rfl ?_
                    refine lv_ishl hx hb dX8_nodesOf_99 (ti (y := (nI (2 ^ (sf sv k)))) (qn_sh1 (by have := gf k; omega)) ?_)
                    refine lv_iconst (v := (nI 1)) hx hb dX8_nodesOf_100 (by decide) ?_
                    refine lv_aload_n hx hb dX8_nodesOf_101 rfl (lv_at hl 1 rfl) ?_
                    refine va_get (D := G.1) (ci := 7) (v := .ref (ad 1)) (C := RX8) (T := TX8) (N := 17) hx hb hts inA8 hown hX.1 hP 0 rfl rfl 1 (by decide) (hts _ kw_681) (fun _ h9 => h9) rfl dX8_nodesOf_102 ?_
                    refine lv_bipush (v := (nI 28)) hx hb dX8_nodesOf_105 (by decide) ?_
                    refine lv_iload hx hb dX8_nodesOf_107 (lv_at hl 5 rfl) ?_
                    refine lv_iadd hx hb dX8_nodesOf_109 (ti (y := (nI (28 + k))) (nI_add _ _) ?_)
                    refine nv_ald (f := sv) (k := 28 + k) hx hb hX hP 1 rfl (by omega) (by decide) dX8_nodesOf_110 ?_
                    refine ti (y := (nI (sg sv k))) rfl ?_
                    refine lv_ishl hx hb dX8_nodesOf_111 (ti (y := (nI (2 ^ (sg sv k)))) (qn_sh1 (by have := gg k; omega)) ?_)
                    refine lv_ior hx hb dX8_nodesOf_112 (ti (y := (nI ((2 ^ (sf sv k)) ||| (2 ^ (sg sv k))))) (qn_or _ _) ?_)
                    refine lv_goto (tgt := 117) hx hb dX8_nodesOf_113 (by decide) ?_
                    refine lv_ior hx hb dX8_nodesOf_117 (ti (y := (nI ((hgr (sf sv) (sg sv) lk k (hgn (sf sv) (sg sv) lk (sv 1) q (2 ^ (sv 2)))) ||| ((2 ^ (sf sv k)) ||| (2 ^ (sg sv k)))))) (qn_or _ _) ?_)
                    refine lv_istore_n (lv' := [(2, .int (nI ((hgr (sf sv) (sg sv) lk k (hgn (sf sv) (sg sv) lk (sv 1) q (2 ^ (sv 2)))) ||| ((2 ^ (sf sv k)) ||| (2 ^ (sg sv k)))))), (5, .int (nI 1)), (0, .ref (ad 0)), (1, .int (nI lk)), (3, .int (nI (hgn (sf sv) (sg sv) lk (sv 1) q (2 ^ (sv 2))))), (4, .int (nI k))]) hx hb dX8_nodesOf_118 rfl hl (by decide) rfl (fun ls hl => ?_)
                    refine lv_iinc (v := (nI (k + 1))) (lv' := [(4, .int (nI (k + 1))), (2, .int (nI ((hgr (sf sv) (sg sv) lk k (hgn (sf sv) (sg sv) lk (sv 1) q (2 ^ (sv 2)))) ||| ((2 ^ (sf sv k)) ||| (2 ^ (sg sv k)))))), (5, .int (nI 1)), (0, .ref (ad 0)), (1, .int (nI lk)), (3, .int (nI (hgn (sf sv) (sg sv) lk (sv 1) q (2 ^ (sv 2)))))]) hx hb dX8_nodesOf_119 hl (k := 5) rfl (qn_inc _) (by decide) rfl (fun ls hl => ?_)
                    refine lv_goto (tgt := 21) hx hb dX8_nodesOf_122 (by decide) ?_
                    exact ih21 (k + 1) ((hgr (sf sv) (sg sv) lk k (hgn (sf sv) (sg sv) lk (sv 1) q (2 ^ (sv 2)))) ||| ((2 ^ (sf sv k)) ||| (2 ^ (sg sv k)))) (by omega) (by rw [hgr]; exact (if_pos ⟨c38, ed_and.mpr (Or.inr c72)⟩).symm) (by omega) _ _ hP hD hS ls (lv_sub hl [3, 4, 1, 5, 0] rfl)
        exact lp21 _ 0 (hgn (sf sv) (sg sv) lk (sv 1) q (2 ^ (sv 2))) (Nat.lt_succ_self _) rfl (Nat.zero_le _) _ _ hP hD hS ls (lv_sub hl [2, 3, 4, 1, 0] rfl)
  exact lp11 _ 0 0 (2 ^ (sv 2)) (Nat.lt_succ_self _) rfl (by omega) (fun h => absurd h (by show ¬ 0 = 2 ^ (sv 2); have := Nat.two_pow_pos (sv 2); omega)) _ _ hP hD hS ls (lv_sub hl [2, 3, 1, 0] rfl)

