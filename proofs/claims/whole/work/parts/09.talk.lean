theorem hdX7_has : hdOK yX7_has 2 := by decide +kernel
set_option maxHeartbeats 4000000 in
set_option maxRecDepth 100000 in
theorem mX7_has (l : Launch) (G : GG) (set k : Nat) (hs : set < 2 ^ 31) (hk : k < 32) : Mi l yX7_has cX7_has 2 (some .boolean) (rmN 0 0) G [.int (nI set), .int (nI k)] (([] : va_W)) (fun (r9 : Int32) (_ : Unit) => r9 = (bI (set.testBit k))) (fun (_ : Unit) => ([] : va_W)) := by
  refine Mi.of (cc := cX7_has) (nL := 2) (by decide) (Nat.le_of_ble_eq_true rfl) ?_
  intro p e s m below meth c A ls F hr hlocks hnm hX hA hD hP hS hl
  have F : CallFix p m c cX7_has 2 s [.int (nI set), .int (nI k)].toArray wA RX7 := F
  obtain ⟨hx, hb, hml, hown, hts⟩ := id F
  have hl : lv_has ls 2 [(0, .int (nI set)), (1, .int (nI k))] := hl
  refine lv_iload_n hx hb dX7_has_0 rfl (lv_at hl 0 rfl) ?_
  refine lv_iload_n hx hb dX7_has_1 rfl (lv_at hl 1 rfl) ?_
  refine lv_ishr hx hb dX7_has_2 (ti (y := (nI (set / 2 ^ k))) (qn_shr hs hk) ?_)
  refine lv_iconst (v := (nI 1)) hx hb dX7_has_3 (by decide) ?_
  refine lv_iand hx hb dX7_has_4 (ti (y := (nI ((set / 2 ^ k) &&& 1))) (qn_and _ _) ?_)
  refine nv_zeq (x := (set / 2 ^ k) &&& 1) (tgt := 12) hx hb dX7_has_5 (by decide) (qb_one _) (fun c5 => ?_) (fun c5 => ?_)
  · refine lv_iconst (v := (nI 0)) hx hb dX7_has_12 (by decide) ?_
    exact re_z (v := (nI 0)) hx hb hr hlocks hS () hP hD (by first | (rw [qb_f c5]; rfl) | (rw [qb_t c5]; rfl)) (by decide) dX7_has_13
  · refine lv_iconst (v := (nI 1)) hx hb dX7_has_8 (by decide) ?_
    refine lv_goto (tgt := 13) hx hb dX7_has_9 (by decide) ?_
    exact re_z (v := (nI 1)) hx hb hr hlocks hS () hP hD (by first | (rw [qb_f c5]; rfl) | (rw [qb_t c5]; rfl)) (by decide) dX7_has_13

theorem hdX4_ends : hdOK yX4_ends 1 := by decide +kernel
set_option maxHeartbeats 4000000 in
set_option maxRecDepth 100000 in
theorem mX4_ends (l : Launch) (G : GG) (ad : Nat → Nat) (a : Nat → Nat) (r : Nat → Nat → Nat) (k : Nat) (hT : TB a r) (hk : k < 12) : Mi l yX4_ends cX4_ends 2 (some .int) (rmN 0 0) G [.ref (ad 0), .int (nI k)] (tkw G ad a r) (fun (r9 : Int32) (_ : Unit) => r9 = (nI (edg (r 0) (r 1) k))) (fun (_ : Unit) => tkw G ad a r) := by
  refine Mi.of (cc := cX4_ends) (nL := 2) (by decide) (Nat.le_of_ble_eq_true rfl) ?_
  intro p e s m below meth c A ls F hr hlocks hnm hX hA hD hP hS hl
  have F : CallFix p m c cX4_ends 2 s [.ref (ad 0), .int (nI k)].toArray wA RX4 := F
  obtain ⟨hx, hb, hml, hown, hts⟩ := id F
  have hl : lv_has ls 2 [(0, .ref (ad 0)), (1, .int (nI k))] := hl
  obtain ⟨t0, t1, t2, t3, t4, t5, t6, t7, t8, t9, t10, t11, t12⟩ := id hT
  refine lv_iconst (v := (nI 1)) hx hb dX4_ends_0 (by decide) ?_
  refine lv_aload_n hx hb dX4_ends_1 rfl (lv_at hl 0 rfl) ?_
  refine va_get (D := G.1) (ci := 3) (v := .ref (ad 1)) (C := RX4) (T := TX4) (N := 12) hx hb hts inA4 hown hX.1 hP 0 rfl rfl 4 (by decide) (hts _ kw_82) (fun _ h9 => h9) rfl dX4_ends_2 ?_
  refine lv_iload_n hx hb dX4_ends_5 rfl (lv_at hl 1 rfl) ?_
  refine nv_ald (f := r 0) (k := k) hx hb hX hP 1 rfl (by omega) (by decide) dX4_ends_6 ?_
  refine lv_ishl hx hb dX4_ends_7 (ti (y := (nI (2 ^ ((r 0) k)))) (qn_sh1 (by have := t5 k; omega)) ?_)
  refine lv_iconst (v := (nI 1)) hx hb dX4_ends_8 (by decide) ?_
  refine lv_aload_n hx hb dX4_ends_9 rfl (lv_at hl 0 rfl) ?_
  refine va_get (D := G.1) (ci := 3) (v := .ref (ad 2)) (C := RX4) (T := TX4) (N := 12) hx hb hts inA4 hown hX.1 hP 0 rfl rfl 5 (by decide) (hts _ kw_85) (fun _ h9 => h9) rfl dX4_ends_10 ?_
  refine lv_iload_n hx hb dX4_ends_13 rfl (lv_at hl 1 rfl) ?_
  refine nv_ald (f := r 1) (k := k) hx hb hX hP 2 rfl (by omega) (by decide) dX4_ends_14 ?_
  refine lv_ishl hx hb dX4_ends_15 (ti (y := (nI (2 ^ ((r 1) k)))) (qn_sh1 (by have := t6 k; omega)) ?_)
  refine lv_ior hx hb dX4_ends_16 (ti (y := (nI ((2 ^ ((r 0) k)) ||| (2 ^ ((r 1) k))))) (qn_or _ _) ?_)
  exact re_i (v := (nI ((2 ^ ((r 0) k)) ||| (2 ^ ((r 1) k))))) hx hb hr hlocks hS () hP hD rfl dX4_ends_17

theorem hdX4_hasNode : hdOK yX4_hasNode 1 := by decide +kernel
set_option maxHeartbeats 4000000 in
set_option maxRecDepth 100000 in
theorem mX4_hasNode (l : Launch) (G : GG) (ad : Nat → Nat) (a : Nat → Nat) (r : Nat → Nat → Nat) (k : Nat) (hT : TB a r) (hk : k < a 0) : Mi l yX4_hasNode cX4_hasNode 2 (some .boolean) (rmN 0 0) G [.ref (ad 0), .int (nI k)] (tkw G ad a r) (fun (r9 : Int32) (_ : Unit) => r9 = (bI true)) (fun (_ : Unit) => tkw G ad a r) := by
  refine Mi.of (cc := cX4_hasNode) (nL := 2) (by decide) (Nat.le_of_ble_eq_true rfl) ?_
  intro p e s m below meth c A ls F hr hlocks hnm hX hA hD hP hS hl
  have F : CallFix p m c cX4_hasNode 2 s [.ref (ad 0), .int (nI k)].toArray wA RX4 := F
  obtain ⟨hx, hb, hml, hown, hts⟩ := id F
  have hl : lv_has ls 2 [(0, .ref (ad 0)), (1, .int (nI k))] := hl
  obtain ⟨t0, t1, t2, t3, t4, t5, t6, t7, t8, t9, t10, t11, t12⟩ := id hT
  refine lv_iload_n hx hb dX4_hasNode_0 rfl (lv_at hl 1 rfl) ?_
  refine nv_zlt (x := k) (tgt := 16) hx hb dX4_hasNode_1 (by decide) (by omega) ?_
  refine lv_iload_n hx hb dX4_hasNode_4 rfl (lv_at hl 1 rfl) ?_
  refine lv_aload_n hx hb dX4_hasNode_5 rfl (lv_at hl 0 rfl) ?_
  refine va_get (D := G.1) (ci := 3) (v := .int (nI (a 0))) (C := RX4) (T := TX4) (N := 12) hx hb hts inA4 hown hX.1 hP 0 rfl rfl 0 (by decide) (hts _ kw_62) (fun _ h9 => h9) rfl dX4_hasNode_6 ?_
  refine nv_ge (x := k) (y := a 0) (tgt := 16) hx hb dX4_hasNode_9 (by decide) (by omega) (by omega) (fun c9 => ?_) (fun c9 => ?_)
  · exact absurd c9 (by omega)
  · refine lv_iconst (v := (nI 1)) hx hb dX4_hasNode_12 (by decide) ?_
    refine lv_goto (tgt := 17) hx hb dX4_hasNode_13 (by decide) ?_
    exact re_z (v := (nI 1)) hx hb hr hlocks hS () hP hD rfl (by decide) dX4_hasNode_17

set_option maxHeartbeats 4000000 in
set_option maxRecDepth 100000 in
theorem mX4_hasNode_no (l : Launch) (G : GG) (ad : Nat → Nat) (a : Nat → Nat) (r : Nat → Nat → Nat) (x : Int32) (hT : TB a r) (hk : ¬ (0 ≤ x.toInt ∧ x.toInt < a 0)) : Mi l yX4_hasNode cX4_hasNode 2 (some .boolean) (rmN 0 0) G [.ref (ad 0), .int x] (tkw G ad a r) (fun (r9 : Int32) (_ : Unit) => r9 = (bI false)) (fun (_ : Unit) => tkw G ad a r) := by
  refine Mi.of (cc := cX4_hasNode) (nL := 2) (by decide) (Nat.le_of_ble_eq_true rfl) ?_
  intro p e s m below meth c A ls F hr hlocks hnm hX hA hD hP hS hl
  have F : CallFix p m c cX4_hasNode 2 s [.ref (ad 0), .int x].toArray wA RX4 := F
  obtain ⟨hx, hb, hml, hown, hts⟩ := id F
  have hl : lv_has ls 2 [(0, .ref (ad 0)), (1, .int x)] := hl
  obtain ⟨t0, t1, t2, t3, t4, t5, t6, t7, t8, t9, t10, t11, t12⟩ := id hT
  refine lv_iload_n hx hb dX4_hasNode_0 rfl (lv_at hl 1 rfl) ?_
  refine lv_if_lt (x := x) (tgt := 16) hx hb dX4_hasNode_1 (by decide) (fun c1 => ?_) (fun c1 => ?_)
  · refine lv_iconst (v := (nI 0)) hx hb dX4_hasNode_16 (by decide) ?_
    exact re_z (v := (nI 0)) hx hb hr hlocks hS () hP hD rfl (by decide) dX4_hasNode_17
  · refine lv_iload_n hx hb dX4_hasNode_4 rfl (lv_at hl 1 rfl) ?_
    refine lv_aload_n hx hb dX4_hasNode_5 rfl (lv_at hl 0 rfl) ?_
    refine va_get (D := G.1) (ci := 3) (v := .int (nI (a 0))) (C := RX4) (T := TX4) (N := 12) hx hb hts inA4 hown hX.1 hP 0 rfl rfl 0 (by decide) (hts _ kw_62) (fun _ h9 => h9) rfl dX4_hasNode_6 ?_
    refine lv_icmp_ge (x := x) (y := (nI (a 0))) (tgt := 16) hx hb dX4_hasNode_9 (by decide) (fun c9 => ?_) (fun c9 => ?_)
    · refine lv_iconst (v := (nI 0)) hx hb dX4_hasNode_16 (by decide) ?_
      exact re_z (v := (nI 0)) hx hb hr hlocks hS () hP hD rfl (by decide) dX4_hasNode_17
    · exact absurd (out_of hk c1 (by omega)) c9

theorem hdX4_hasLink : hdOK yX4_hasLink 1 := by decide +kernel
set_option maxHeartbeats 4000000 in
set_option maxRecDepth 100000 in
theorem mX4_hasLink (l : Launch) (G : GG) (ad : Nat → Nat) (a : Nat → Nat) (r : Nat → Nat → Nat) (k : Nat) (hT : TB a r) (hk : k < a 3) : Mi l yX4_hasLink cX4_hasLink 2 (some .boolean) (rmN 0 0) G [.ref (ad 0), .int (nI k)] (tkw G ad a r) (fun (r9 : Int32) (_ : Unit) => r9 = (bI true)) (fun (_ : Unit) => tkw G ad a r) := by
  refine Mi.of (cc := cX4_hasLink) (nL := 2) (by decide) (Nat.le_of_ble_eq_true rfl) ?_
  intro p e s m below meth c A ls F hr hlocks hnm hX hA hD hP hS hl
  have F : CallFix p m c cX4_hasLink 2 s [.ref (ad 0), .int (nI k)].toArray wA RX4 := F
  obtain ⟨hx, hb, hml, hown, hts⟩ := id F
  have hl : lv_has ls 2 [(0, .ref (ad 0)), (1, .int (nI k))] := hl
  obtain ⟨t0, t1, t2, t3, t4, t5, t6, t7, t8, t9, t10, t11, t12⟩ := id hT
  refine lv_iload_n hx hb dX4_hasLink_0 rfl (lv_at hl 1 rfl) ?_
  refine nv_zlt (x := k) (tgt := 16) hx hb dX4_hasLink_1 (by decide) (by omega) ?_
  refine lv_iload_n hx hb dX4_hasLink_4 rfl (lv_at hl 1 rfl) ?_
  refine lv_aload_n hx hb dX4_hasLink_5 rfl (lv_at hl 0 rfl) ?_
  refine va_get (D := G.1) (ci := 3) (v := .int (nI (a 3))) (C := RX4) (T := TX4) (N := 12) hx hb hts inA4 hown hX.1 hP 0 rfl rfl 3 (by decide) (hts _ kw_76) (fun _ h9 => h9) rfl dX4_hasLink_6 ?_
  refine nv_ge (x := k) (y := a 3) (tgt := 16) hx hb dX4_hasLink_9 (by decide) (by omega) (by omega) (fun c9 => ?_) (fun c9 => ?_)
  · exact absurd c9 (by omega)
  · refine lv_iconst (v := (nI 1)) hx hb dX4_hasLink_12 (by decide) ?_
    refine lv_goto (tgt := 17) hx hb dX4_hasLink_13 (by decide) ?_
    exact re_z (v := (nI 1)) hx hb hr hlocks hS () hP hD rfl (by decide) dX4_hasLink_17

set_option maxHeartbeats 4000000 in
set_option maxRecDepth 100000 in
theorem mX4_hasLink_no (l : Launch) (G : GG) (ad : Nat → Nat) (a : Nat → Nat) (r : Nat → Nat → Nat) (x : Int32) (hT : TB a r) (hk : ¬ (0 ≤ x.toInt ∧ x.toInt < a 3)) : Mi l yX4_hasLink cX4_hasLink 2 (some .boolean) (rmN 0 0) G [.ref (ad 0), .int x] (tkw G ad a r) (fun (r9 : Int32) (_ : Unit) => r9 = (bI false)) (fun (_ : Unit) => tkw G ad a r) := by
  refine Mi.of (cc := cX4_hasLink) (nL := 2) (by decide) (Nat.le_of_ble_eq_true rfl) ?_
  intro p e s m below meth c A ls F hr hlocks hnm hX hA hD hP hS hl
  have F : CallFix p m c cX4_hasLink 2 s [.ref (ad 0), .int x].toArray wA RX4 := F
  obtain ⟨hx, hb, hml, hown, hts⟩ := id F
  have hl : lv_has ls 2 [(0, .ref (ad 0)), (1, .int x)] := hl
  obtain ⟨t0, t1, t2, t3, t4, t5, t6, t7, t8, t9, t10, t11, t12⟩ := id hT
  refine lv_iload_n hx hb dX4_hasLink_0 rfl (lv_at hl 1 rfl) ?_
  refine lv_if_lt (x := x) (tgt := 16) hx hb dX4_hasLink_1 (by decide) (fun c1 => ?_) (fun c1 => ?_)
  · refine lv_iconst (v := (nI 0)) hx hb dX4_hasLink_16 (by decide) ?_
    exact re_z (v := (nI 0)) hx hb hr hlocks hS () hP hD rfl (by decide) dX4_hasLink_17
  · refine lv_iload_n hx hb dX4_hasLink_4 rfl (lv_at hl 1 rfl) ?_
    refine lv_aload_n hx hb dX4_hasLink_5 rfl (lv_at hl 0 rfl) ?_
    refine va_get (D := G.1) (ci := 3) (v := .int (nI (a 3))) (C := RX4) (T := TX4) (N := 12) hx hb hts inA4 hown hX.1 hP 0 rfl rfl 3 (by decide) (hts _ kw_76) (fun _ h9 => h9) rfl dX4_hasLink_6 ?_
    refine lv_icmp_ge (x := x) (y := (nI (a 3))) (tgt := 16) hx hb dX4_hasLink_9 (by decide) (fun c9 => ?_) (fun c9 => ?_)
    · refine lv_iconst (v := (nI 0)) hx hb dX4_hasLink_16 (by decide) ?_
      exact re_z (v := (nI 0)) hx hb hr hlocks hS () hP hD rfl (by decide) dX4_hasLink_17
    · exact absurd (out_of hk c1 (by omega)) c9

theorem hdX4_isMember : hdOK yX4_isMember 1 := by decide +kernel
set_option maxHeartbeats 4000000 in
set_option maxRecDepth 100000 in
theorem mX4_isMember (l : Launch) (G : GG) (ad : Nat → Nat) (a : Nat → Nat) (r : Nat → Nat → Nat) (v : Nat) (hT : TB a r) (hv : v < 32) : Mi l yX4_isMember cX4_isMember 2 (some .boolean) (rmN 1 21) G [.ref (ad 0), .int (nI v)] (tkw G ad a r) (fun (r9 : Int32) (_ : Unit) => r9 = (bI ((a 7).testBit v))) (fun (_ : Unit) => tkw G ad a r) := by
  refine Mi.of (cc := cX4_isMember) (nL := 2) (by decide) (Nat.le_of_ble_eq_true rfl) ?_
  intro p e s m below meth c A ls F hr hlocks hnm hX hA hD hP hS hl
  have F : CallFix p m c cX4_isMember 2 s [.ref (ad 0), .int (nI v)].toArray wA RX4 := F
  obtain ⟨hx, hb, hml, hown, hts⟩ := id F
  have hl : lv_has ls 2 [(0, .ref (ad 0)), (1, .int (nI v))] := hl
  obtain ⟨t0, t1, t2, t3, t4, t5, t6, t7, t8, t9, t10, t11, t12⟩ := id hT
  refine lv_aload_n hx hb dX4_isMember_0 rfl (lv_at hl 0 rfl) ?_
  refine va_get (D := G.1) (ci := 3) (v := .int (nI (a 7))) (C := RX4) (T := TX4) (N := 12) hx hb hts inA4 hown hX.1 hP 0 rfl rfl 7 (by decide) (hts _ kw_94) (fun _ h9 => h9) rfl dX4_isMember_1 ?_
  refine lv_iload_n hx hb dX4_isMember_4 rfl (lv_at hl 1 rfl) ?_
  refine ca_Ni (rest := []) (wr := tkw G ad a r) F hX (mX7_has l G (a 7) v (by omega) (by omega)) ⟨cA_N hts kw_357 kw_1 hX.2.2.2.2.2.2.2.2.2.2.1 hdX7_has ⟨Nat.le_of_ble_eq_true rfl, Nat.le_of_ble_eq_true rfl⟩, hts _ kw_356, trivial⟩ rfl hl.1 rfl (Nat.le_of_ble_eq_true rfl) dX4_isMember_5 ⟨Nat.le_of_ble_eq_true rfl, Nat.le_of_ble_eq_true rfl⟩ hP hD hS hA (List.Perm.refl _) (fun r5 u5 H locs hp5 hP hD hS => ?_)
  have hP : va_P G.1 vwCl (tkw G ad a r) H := hP
  have hD : va_D A (tkw G ad a r) := hD
  subst hp5
  exact re_z (v := (bI ((a 7).testBit v))) hx hb hr hlocks hS () hP hD rfl (bI_nar _) dX4_isMember_8

theorem hdX4_linksAt : hdOK yX4_linksAt 1 := by decide +kernel
set_option maxHeartbeats 4000000 in
set_option maxRecDepth 100000 in
theorem mX4_linksAt (l : Launch) (G : GG) (ad : Nat → Nat) (a : Nat → Nat) (r : Nat → Nat → Nat) (v : Nat) (hT : TB a r) (hv : v < 32) : Mi l yX4_linksAt cX4_linksAt 4 (some .int) (rmN 1 21) G [.ref (ad 0), .int (nI v)] (tkw G ad a r) (fun (r9 : Int32) (_ : Unit) => r9 = (nI (lkA (r 0) (r 1) v (a 3)))) (fun (_ : Unit) => tkw G ad a r) := by
  refine Mi.of (cc := cX4_linksAt) (nL := 4) (by decide) (Nat.le_of_ble_eq_true rfl) ?_
  intro p e s m below meth c A ls F hr hlocks hnm hX hA hD hP hS hl
  have F : CallFix p m c cX4_linksAt 4 s [.ref (ad 0), .int (nI v)].toArray wA RX4 := F
  obtain ⟨hx, hb, hml, hown, hts⟩ := id F
  have hl : lv_has ls 4 [(0, .ref (ad 0)), (1, .int (nI v))] := hl
  obtain ⟨t0, t1, t2, t3, t4, t5, t6, t7, t8, t9, t10, t11, t12⟩ := id hT
  refine lv_iconst (v := (nI 0)) hx hb dX4_linksAt_0 (by decide) ?_
  refine lv_istore_n (lv' := [(2, .int (nI 0)), (0, .ref (ad 0)), (1, .int (nI v))]) hx hb dX4_linksAt_1 rfl hl (by decide) rfl (fun ls hl => ?_)
  refine lv_iconst (v := (nI 0)) hx hb dX4_linksAt_2 (by decide) ?_
  refine lv_istore_n (lv' := [(3, .int (nI 0)), (2, .int (nI 0)), (0, .ref (ad 0)), (1, .int (nI v))]) hx hb dX4_linksAt_3 rfl hl (by decide) rfl (fun ls hl => ?_)
  have lp4 : ∀ (n4 : Nat) (k : Nat) (x : Nat), (a 3 - k) < n4 → x = lkA (r 0) (r 1) v k → (k ≤ a 3) → ∀ (H : Heap) (locs : List Loc), va_P G.1 vwCl (tkw G ad a r) H → va_D A (tkw G ad a r) → va_S A s.heap H locs → ∀ (ls : Array Slot), lv_has ls 4 [(0, .ref (ad 0)), (1, .int (nI v)), (2, .int (nI x)), (3, .int (nI k))] → WI p l e (rmN 1 21) s m [.ref (ad 0), .int (nI v)] below meth c H locs G A (fun (r9 : Int32) (_ : Unit) => r9 = (nI (lkA (r 0) (r 1) v (a 3)))) (fun (_ : Unit) => tkw G ad a r) (F0 m 4 ls []) := by
    intro n4
    induction n4 with
    | zero => intro k x h9; exact absurd h9 (Nat.not_lt_zero _)
    | succ n4 ih4 =>
      intro k x hm4 e_x hk_k H locs hP hD hS ls hl
      subst e_x
      refine lv_iload_n hx hb dX4_linksAt_4 rfl (lv_at hl 3 rfl) ?_
      refine lv_aload_n hx hb dX4_linksAt_5 rfl (lv_at hl 0 rfl) ?_
      refine va_get (D := G.1) (ci := 3) (v := .int (nI (a 3))) (C := RX4) (T := TX4) (N := 12) hx hb hts inA4 hown hX.1 hP 0 rfl rfl 3 (by decide) (hts _ kw_76) (fun _ h9 => h9) rfl dX4_linksAt_6 ?_
      refine nv_ge (x := k) (y := a 3) (tgt := 36) hx hb dX4_linksAt_9 (by decide) (by omega) (by omega) (fun c9 => ?_) (fun c9 => ?_)
      · refine lv_iload_n hx hb dX4_linksAt_36 rfl (lv_at hl 2 rfl) ?_
        exact re_i (v := (nI (lkA (r 0) (r 1) v k))) hx hb hr hlocks hS () hP hD (by have e9 : k = a 3 := (by omega); rw [e9]) dX4_linksAt_37
      · refine lv_aload_n hx hb dX4_linksAt_12 rfl (lv_at hl 0 rfl) ?_
        refine lv_iload_n hx hb dX4_linksAt_13 rfl (lv_at hl 3 rfl) ?_
        refine ca_Vi (ci := 3) (q := (RX4, TX4, 12)) (rest := []) (wr := ([] : va_W)) F hX (mX4_ends l G ad a r k hT (by omega)) (cA_V hts kw_354 kw_3 kw_351 kw_352 kw_353 hdX4_ends ⟨Nat.le_of_ble_eq_true rfl, Nat.le_of_ble_eq_true rfl⟩) rfl rfl rfl hl.1 rfl (Nat.le_of_ble_eq_true rfl) dX4_linksAt_14 ⟨Nat.le_of_ble_eq_true rfl, Nat.le_of_ble_eq_true rfl⟩ hP hD hS hA (pm_nil _) (fun r14 u14 H locs hp14 hP hD hS => ?_)
        have hP : va_P G.1 vwCl (tkw G ad a r) H := wp_pm (pm_nil _).symm hP
        have hD : va_D A (tkw G ad a r) := wd_pm (pm_nil _).symm hD
        subst hp14
        refine lv_iload_n hx hb dX4_linksAt_17 rfl (lv_at hl 1 rfl) ?_
        refine ca_Ni (rest := []) (wr := tkw G ad a r) F hX (mX7_has l G (edg (r 0) (r 1) k) v (by have := edg_lt t5 t6 k; omega) hv) ⟨cA_N hts kw_357 kw_1 hX.2.2.2.2.2.2.2.2.2.2.1 hdX7_has ⟨Nat.le_of_ble_eq_true rfl, Nat.le_of_ble_eq_true rfl⟩, hts _ kw_356, trivial⟩ rfl hl.1 rfl (Nat.le_of_ble_eq_true rfl) dX4_linksAt_18 ⟨Nat.le_of_ble_eq_true rfl, Nat.le_of_ble_eq_true rfl⟩ hP hD hS hA (List.Perm.refl _) (fun r18 u18 H locs hp18 hP hD hS => ?_)
        have hP : va_P G.1 vwCl (tkw G ad a r) H := hP
        have hD : va_D A (tkw G ad a r) := hD
        subst hp18
        refine bv_eq (b := (edg (r 0) (r 1) k).testBit v) (tgt := 30) hx hb dX4_linksAt_21 (by decide) (fun c21 => ?_) (fun c21 => ?_)
        · refine lv_iinc (v := (nI (k + 1))) (lv' := [(3, .int (nI (k + 1))), (0, .ref (ad 0)), (1, .int (nI v)), (2, .int (nI (lkA (r 0) (r 1) v k)))]) hx hb dX4_linksAt_30 hl (k := 3) rfl (qn_inc _) (by decide) rfl (fun ls hl => ?_)
          refine lv_goto (tgt := 4) hx hb dX4_linksAt_33 (by decide) ?_
          exact ih4 (k + 1) (lkA (r 0) (r 1) v k) (by omega) (by simp [lkA, c21]) (by omega) _ _ hP hD hS ls (lv_sub hl [1, 2, 3, 0] rfl)
        · refine lv_iload_n hx hb dX4_linksAt_24 rfl (lv_at hl 2 rfl) ?_
          refine lv_iconst (v := (nI 1)) hx hb dX4_linksAt_25 (by decide) ?_
          refine lv_iload_n hx hb dX4_linksAt_26 rfl (lv_at hl 3 rfl) ?_
          refine lv_ishl hx hb dX4_linksAt_27 (ti (y := (nI (2 ^ k))) (qn_sh1 (by omega)) ?_)
          refine lv_ior hx hb dX4_linksAt_28 (ti (y := (nI ((lkA (r 0) (r 1) v k) ||| (2 ^ k)))) (qn_or _ _) ?_)
          refine lv_istore_n (lv' := [(2, .int (nI ((lkA (r 0) (r 1) v k) ||| (2 ^ k)))), (0, .ref (ad 0)), (1, .int (nI v)), (3, .int (nI k))]) hx hb dX4_linksAt_29 rfl hl (by decide) rfl (fun ls hl => ?_)
          refine lv_iinc (v := (nI (k + 1))) (lv' := [(3, .int (nI (k + 1))), (2, .int (nI ((lkA (r 0) (r 1) v k) ||| (2 ^ k)))), (0, .ref (ad 0)), (1, .int (nI v))]) hx hb dX4_linksAt_30 hl (k := 3) rfl (qn_inc _) (by decide) rfl (fun ls hl => ?_)
          refine lv_goto (tgt := 4) hx hb dX4_linksAt_33 (by decide) ?_
          exact ih4 (k + 1) ((lkA (r 0) (r 1) v k) ||| (2 ^ k)) (by omega) (by simp [lkA, c21]) (by omega) _ _ hP hD hS ls (lv_sub hl [2, 3, 1, 0] rfl)
  exact lp4 _ 0 0 (Nat.lt_succ_self _) rfl (Nat.zero_le _) _ _ hP hD hS ls (lv_sub hl [2, 3, 1, 0] rfl)

theorem hdX4_areLinked : hdOK yX4_areLinked 2 := by decide +kernel
set_option maxHeartbeats 4000000 in
set_option maxRecDepth 100000 in
theorem mX4_areLinked (l : Launch) (G : GG) (ad : Nat → Nat) (a : Nat → Nat) (r : Nat → Nat → Nat) (u v : Nat) (hT : TB a r) (hu : u < 32) (hv : v < 32) : Mi l yX4_areLinked cX4_areLinked 3 (some .boolean) (rmN 2 44) G [.ref (ad 0), .int (nI u), .int (nI v)] (tkw G ad a r) (fun (r9 : Int32) (_ : Unit) => r9 = (bI (decide (lkA (r 0) (r 1) u (a 3) &&& lkA (r 0) (r 1) v (a 3) ≠ 0)))) (fun (_ : Unit) => tkw G ad a r) := by
  refine Mi.of (cc := cX4_areLinked) (nL := 3) (by decide) (Nat.le_of_ble_eq_true rfl) ?_
  intro p e s m below meth c A ls F hr hlocks hnm hX hA hD hP hS hl
  have F : CallFix p m c cX4_areLinked 3 s [.ref (ad 0), .int (nI u), .int (nI v)].toArray wA RX4 := F
  obtain ⟨hx, hb, hml, hown, hts⟩ := id F
  have hl : lv_has ls 3 [(0, .ref (ad 0)), (1, .int (nI u)), (2, .int (nI v))] := hl
  obtain ⟨t0, t1, t2, t3, t4, t5, t6, t7, t8, t9, t10, t11, t12⟩ := id hT
  have hq := Nat.lt_of_le_of_lt (Nat.and_le_left (n := lkA (r 0) (r 1) u (a 3)) (m := lkA (r 0) (r 1) v (a 3))) (Nat.lt_of_lt_of_le (lkA_lt (r 0) (r 1) u (a 3)) (pw12 t4))
  refine lv_aload_n hx hb dX4_areLinked_0 rfl (lv_at hl 0 rfl) ?_
  refine lv_iload_n hx hb dX4_areLinked_1 rfl (lv_at hl 1 rfl) ?_
  refine ca_Vi (ci := 3) (q := (RX4, TX4, 12)) (rest := []) (wr := ([] : va_W)) F hX (mX4_linksAt l G ad a r u hT (by omega)) (cA_V hts kw_350 kw_3 kw_347 kw_348 kw_349 hdX4_linksAt ⟨Nat.le_of_ble_eq_true rfl, Nat.le_of_ble_eq_true rfl⟩) rfl rfl rfl hl.1 rfl (Nat.le_of_ble_eq_true rfl) dX4_areLinked_2 ⟨Nat.le_of_ble_eq_true rfl, Nat.le_of_ble_eq_true rfl⟩ hP hD hS hA (pm_nil _) (fun r2 u2 H locs hp2 hP hD hS => ?_)
  have hP : va_P G.1 vwCl (tkw G ad a r) H := wp_pm (pm_nil _).symm hP
  have hD : va_D A (tkw G ad a r) := wd_pm (pm_nil _).symm hD
  subst hp2
  refine lv_aload_n hx hb dX4_areLinked_5 rfl (lv_at hl 0 rfl) ?_
  refine lv_iload_n hx hb dX4_areLinked_6 rfl (lv_at hl 2 rfl) ?_
  refine ca_Vi (ci := 3) (q := (RX4, TX4, 12)) (rest := [.int (nI (lkA (r 0) (r 1) u (a 3)))]) (wr := ([] : va_W)) F hX (mX4_linksAt l G ad a r v hT (by omega)) (cA_V hts kw_350 kw_3 kw_347 kw_348 kw_349 hdX4_linksAt ⟨Nat.le_of_ble_eq_true rfl, Nat.le_of_ble_eq_true rfl⟩) rfl rfl rfl hl.1 rfl (Nat.le_of_ble_eq_true rfl) dX4_areLinked_7 ⟨Nat.le_of_ble_eq_true rfl, Nat.le_of_ble_eq_true rfl⟩ hP hD hS hA (pm_nil _) (fun r7 u7 H locs hp7 hP hD hS => ?_)
  have hP : va_P G.1 vwCl (tkw G ad a r) H := wp_pm (pm_nil _).symm hP
  have hD : va_D A (tkw G ad a r) := wd_pm (pm_nil _).symm hD
  subst hp7
  refine lv_iand hx hb dX4_areLinked_10 (ti (y := (nI ((lkA (r 0) (r 1) u (a 3)) &&& (lkA (r 0) (r 1) v (a 3))))) (qn_and _ _) ?_)
  refine nv_zeq (x := (lkA (r 0) (r 1) u (a 3)) &&& (lkA (r 0) (r 1) v (a 3))) (tgt := 18) hx hb dX4_areLinked_11 (by decide) (by omega) (fun c11 => ?_) (fun c11 => ?_)
  · refine lv_iconst (v := (nI 0)) hx hb dX4_areLinked_18 (by decide) ?_
    exact re_z (v := (nI 0)) hx hb hr hlocks hS () hP hD (by simp [c11, bI]; try rfl) (by decide) dX4_areLinked_19
  · refine lv_iconst (v := (nI 1)) hx hb dX4_areLinked_14 (by decide) ?_
    refine lv_goto (tgt := 19) hx hb dX4_areLinked_15 (by decide) ?_
    exact re_z (v := (nI 1)) hx hb hr hlocks hS () hP hD (by simp [c11, bI]; try rfl) (by decide) dX4_areLinked_19

theorem hdX4_upLinks : hdOK yX4_upLinks 0 := by decide +kernel
set_option maxHeartbeats 4000000 in
set_option maxRecDepth 100000 in
theorem mX4_upLinks (l : Launch) (G : GG) (ad : Nat → Nat) (a : Nat → Nat) (r : Nat → Nat → Nat) (hT : TB a r) : Mi l yX4_upLinks cX4_upLinks 1 (some .int) (rmN 0 0) G [.ref (ad 0)] (tkw G ad a r) (fun (r9 : Int32) (_ : Unit) => r9 = (nI (nd (2 ^ a 3 - 1) (a 9)))) (fun (_ : Unit) => tkw G ad a r) := by
  refine Mi.of (cc := cX4_upLinks) (nL := 1) (by decide) (Nat.le_of_ble_eq_true rfl) ?_
  intro p e s m below meth c A ls F hr hlocks hnm hX hA hD hP hS hl
  have F : CallFix p m c cX4_upLinks 1 s [.ref (ad 0)].toArray wA RX4 := F
  obtain ⟨hx, hb, hml, hown, hts⟩ := id F
  have hl : lv_has ls 1 [(0, .ref (ad 0))] := hl
  obtain ⟨t0, t1, t2, t3, t4, t5, t6, t7, t8, t9, t10, t11, t12⟩ := id hT
  refine lv_iconst (v := (nI 1)) hx hb dX4_upLinks_0 (by decide) ?_
  refine lv_aload_n hx hb dX4_upLinks_1 rfl (lv_at hl 0 rfl) ?_
  refine va_get (D := G.1) (ci := 3) (v := .int (nI (a 3))) (C := RX4) (T := TX4) (N := 12) hx hb hts inA4 hown hX.1 hP 0 rfl rfl 3 (by decide) (hts _ kw_76) (fun _ h9 => h9) rfl dX4_upLinks_2 ?_
  refine lv_ishl hx hb dX4_upLinks_5 (ti (y := (nI (2 ^ (a 3)))) (qn_sh1 (by omega)) ?_)
  refine lv_iconst (v := (nI 1)) hx hb dX4_upLinks_6 (by decide) ?_
  refine lv_isub hx hb dX4_upLinks_7 (ti (y := (nI ((2 ^ (a 3)) - 1))) (pk_sub (Nat.one_le_two_pow)) ?_)
  refine lv_aload_n hx hb dX4_upLinks_8 rfl (lv_at hl 0 rfl) ?_
  refine va_get (D := G.1) (ci := 3) (v := .int (nI (a 9))) (C := RX4) (T := TX4) (N := 12) hx hb hts inA4 hown hX.1 hP 0 rfl rfl 9 (by decide) (hts _ kw_100) (fun _ h9 => h9) rfl dX4_upLinks_9 ?_
  refine lv_iconst (v := (-1)) hx hb dX4_upLinks_12 (by decide) ?_
  refine lv_ixor hx hb dX4_upLinks_13 ?_
  refine lv_iand hx hb dX4_upLinks_14 (ti (y := (nI (nd ((2 ^ (a 3)) - 1) (a 9)))) (qn_andn _ _) ?_)
  exact re_i (v := (nI (nd ((2 ^ (a 3)) - 1) (a 9)))) hx hb hr hlocks hS () hP hD rfl dX4_upLinks_15

theorem hdX4_costOf : hdOK yX4_costOf 1 := by decide +kernel
set_option maxHeartbeats 4000000 in
set_option maxRecDepth 100000 in
theorem mX4_costOf (l : Launch) (G : GG) (ad : Nat → Nat) (a : Nat → Nat) (r : Nat → Nat → Nat) (set : Nat) (hT : TB a r) (hs : set < 4096) : Mi l yX4_costOf cX4_costOf 4 (some .int) (rmN 1 21) G [.ref (ad 0), .int (nI set)] (tkw G ad a r) (fun (r9 : Int32) (_ : Unit) => r9 = (nI (cst (r 2) set (a 3)))) (fun (_ : Unit) => tkw G ad a r) := by
  refine Mi.of (cc := cX4_costOf) (nL := 4) (by decide) (Nat.le_of_ble_eq_true rfl) ?_
  intro p e s m below meth c A ls F hr hlocks hnm hX hA hD hP hS hl
  have F : CallFix p m c cX4_costOf 4 s [.ref (ad 0), .int (nI set)].toArray wA RX4 := F
  obtain ⟨hx, hb, hml, hown, hts⟩ := id F
  have hl : lv_has ls 4 [(0, .ref (ad 0)), (1, .int (nI set))] := hl
  obtain ⟨t0, t1, t2, t3, t4, t5, t6, t7, t8, t9, t10, t11, t12⟩ := id hT
  refine lv_iconst (v := (nI 0)) hx hb dX4_costOf_0 (by decide) ?_
  refine lv_istore_n (lv' := [(2, .int (nI 0)), (0, .ref (ad 0)), (1, .int (nI set))]) hx hb dX4_costOf_1 rfl hl (by decide) rfl (fun ls hl => ?_)
  refine lv_iconst (v := (nI 0)) hx hb dX4_costOf_2 (by decide) ?_
  refine lv_istore_n (lv' := [(3, .int (nI 0)), (2, .int (nI 0)), (0, .ref (ad 0)), (1, .int (nI set))]) hx hb dX4_costOf_3 rfl hl (by decide) rfl (fun ls hl => ?_)
  have lp4 : ∀ (n4 : Nat) (k : Nat) (x : Nat), (a 3 - k) < n4 → x = cst (r 2) set k → (k ≤ a 3) → ∀ (H : Heap) (locs : List Loc), va_P G.1 vwCl (tkw G ad a r) H → va_D A (tkw G ad a r) → va_S A s.heap H locs → ∀ (ls : Array Slot), lv_has ls 4 [(0, .ref (ad 0)), (1, .int (nI set)), (2, .int (nI x)), (3, .int (nI k))] → WI p l e (rmN 1 21) s m [.ref (ad 0), .int (nI set)] below meth c H locs G A (fun (r9 : Int32) (_ : Unit) => r9 = (nI (cst (r 2) set (a 3)))) (fun (_ : Unit) => tkw G ad a r) (F0 m 4 ls []) := by
    intro n4
    induction n4 with
    | zero => intro k x h9; exact absurd h9 (Nat.not_lt_zero _)
    | succ n4 ih4 =>
      intro k x hm4 e_x hk_k H locs hP hD hS ls hl
      subst e_x
      refine lv_iload_n hx hb dX4_costOf_4 rfl (lv_at hl 3 rfl) ?_
      refine lv_aload_n hx hb dX4_costOf_5 rfl (lv_at hl 0 rfl) ?_
      refine va_get (D := G.1) (ci := 3) (v := .int (nI (a 3))) (C := RX4) (T := TX4) (N := 12) hx hb hts inA4 hown hX.1 hP 0 rfl rfl 3 (by decide) (hts _ kw_76) (fun _ h9 => h9) rfl dX4_costOf_6 ?_
      refine nv_ge (x := k) (y := a 3) (tgt := 35) hx hb dX4_costOf_9 (by decide) (by omega) (by omega) (fun c9 => ?_) (fun c9 => ?_)
      · refine lv_iload_n hx hb dX4_costOf_35 rfl (lv_at hl 2 rfl) ?_
        exact re_i (v := (nI (cst (r 2) set k))) hx hb hr hlocks hS () hP hD (by have e9 : k = a 3 := (by omega); rw [e9]) dX4_costOf_36
      · refine lv_iload_n hx hb dX4_costOf_12 rfl (lv_at hl 1 rfl) ?_
        refine lv_iload_n hx hb dX4_costOf_13 rfl (lv_at hl 3 rfl) ?_
        refine ca_Ni (rest := []) (wr := tkw G ad a r) F hX (mX7_has l G set k (by omega) (by omega)) ⟨cA_N hts kw_357 kw_1 hX.2.2.2.2.2.2.2.2.2.2.1 hdX7_has ⟨Nat.le_of_ble_eq_true rfl, Nat.le_of_ble_eq_true rfl⟩, hts _ kw_356, trivial⟩ rfl hl.1 rfl (Nat.le_of_ble_eq_true rfl) dX4_costOf_14 ⟨Nat.le_of_ble_eq_true rfl, Nat.le_of_ble_eq_true rfl⟩ hP hD hS hA (List.Perm.refl _) (fun r14 u14 H locs hp14 hP hD hS => ?_)
        have hP : va_P G.1 vwCl (tkw G ad a r) H := hP
        have hD : va_D A (tkw G ad a r) := hD
        subst hp14
        refine bv_eq (b := set.testBit k) (tgt := 29) hx hb dX4_costOf_17 (by decide) (fun c17 => ?_) (fun c17 => ?_)
        · refine lv_iinc (v := (nI (k + 1))) (lv' := [(3, .int (nI (k + 1))), (0, .ref (ad 0)), (1, .int (nI set)), (2, .int (nI (cst (r 2) set k)))]) hx hb dX4_costOf_29 hl (k := 3) rfl (qn_inc _) (by decide) rfl (fun ls hl => ?_)
          refine lv_goto (tgt := 4) hx hb dX4_costOf_32 (by decide) ?_
          exact ih4 (k + 1) (cst (r 2) set k) (by omega) (by simp [cst, c17]) (by omega) _ _ hP hD hS ls (lv_sub hl [1, 2, 3, 0] rfl)
        · refine lv_iload_n hx hb dX4_costOf_20 rfl (lv_at hl 2 rfl) ?_
          refine lv_aload_n hx hb dX4_costOf_21 rfl (lv_at hl 0 rfl) ?_
          refine va_get (D := G.1) (ci := 3) (v := .ref (ad 3)) (C := RX4) (T := TX4) (N := 12) hx hb hts inA4 hown hX.1 hP 0 rfl rfl 6 (by decide) (hts _ kw_88) (fun _ h9 => h9) rfl dX4_costOf_22 ?_
          refine lv_iload_n hx hb dX4_costOf_25 rfl (lv_at hl 3 rfl) ?_
          refine nv_ald (f := r 2) (k := k) hx hb hX hP 3 rfl (by omega) (by decide) dX4_costOf_26 ?_
          refine lv_iadd hx hb dX4_costOf_27 (ti (y := (nI ((cst (r 2) set k) + ((r 2) k)))) (nI_add _ _) ?_)
          refine lv_istore_n (lv' := [(2, .int (nI ((cst (r 2) set k) + ((r 2) k)))), (0, .ref (ad 0)), (1, .int (nI set)), (3, .int (nI k))]) hx hb dX4_costOf_28 rfl hl (by decide) rfl (fun ls hl => ?_)
          refine lv_iinc (v := (nI (k + 1))) (lv' := [(3, .int (nI (k + 1))), (2, .int (nI ((cst (r 2) set k) + ((r 2) k)))), (0, .ref (ad 0)), (1, .int (nI set))]) hx hb dX4_costOf_29 hl (k := 3) rfl (qn_inc _) (by decide) rfl (fun ls hl => ?_)
          refine lv_goto (tgt := 4) hx hb dX4_costOf_32 (by decide) ?_
          exact ih4 (k + 1) ((cst (r 2) set k) + ((r 2) k)) (by omega) (by simp [cst, c17]) (by omega) _ _ hP hD hS ls (lv_sub hl [2, 3, 1, 0] rfl)
  exact lp4 _ 0 0 (Nat.lt_succ_self _) rfl (Nat.zero_le _) _ _ hP hD hS ls (lv_sub hl [2, 3, 1, 0] rfl)

theorem hdX4_nodesOf : hdOK yX4_nodesOf 1 := by decide +kernel
set_option maxHeartbeats 4000000 in
set_option maxRecDepth 100000 in
theorem mX4_nodesOf (l : Launch) (G : GG) (ad : Nat → Nat) (a : Nat → Nat) (r : Nat → Nat → Nat) (set : Nat) (hT : TB a r) (hs : set < 4096) : Mi l yX4_nodesOf cX4_nodesOf 4 (some .int) (rmN 1 21) G [.ref (ad 0), .int (nI set)] (tkw G ad a r) (fun (r9 : Int32) (_ : Unit) => r9 = (nI (nof (r 0) (r 1) (a 1) set (a 3)))) (fun (_ : Unit) => tkw G ad a r) := by
  refine Mi.of (cc := cX4_nodesOf) (nL := 4) (by decide) (Nat.le_of_ble_eq_true rfl) ?_
  intro p e s m below meth c A ls F hr hlocks hnm hX hA hD hP hS hl
  have F : CallFix p m c cX4_nodesOf 4 s [.ref (ad 0), .int (nI set)].toArray wA RX4 := F
  obtain ⟨hx, hb, hml, hown, hts⟩ := id F
  have hl : lv_has ls 4 [(0, .ref (ad 0)), (1, .int (nI set))] := hl
  obtain ⟨t0, t1, t2, t3, t4, t5, t6, t7, t8, t9, t10, t11, t12⟩ := id hT
  refine lv_iconst (v := (nI 1)) hx hb dX4_nodesOf_0 (by decide) ?_
  refine lv_aload_n hx hb dX4_nodesOf_1 rfl (lv_at hl 0 rfl) ?_
  refine va_get (D := G.1) (ci := 3) (v := .int (nI (a 1))) (C := RX4) (T := TX4) (N := 12) hx hb hts inA4 hown hX.1 hP 0 rfl rfl 1 (by decide) (hts _ kw_69) (fun _ h9 => h9) rfl dX4_nodesOf_2 ?_
  refine lv_ishl hx hb dX4_nodesOf_5 (ti (y := (nI (2 ^ (a 1)))) (qn_sh1 (by omega)) ?_)
  refine lv_istore_n (lv' := [(2, .int (nI (2 ^ (a 1)))), (0, .ref (ad 0)), (1, .int (nI set))]) hx hb dX4_nodesOf_6 rfl hl (by decide) rfl (fun ls hl => ?_)
  refine lv_iconst (v := (nI 0)) hx hb dX4_nodesOf_7 (by decide) ?_
  refine lv_istore_n (lv' := [(3, .int (nI 0)), (2, .int (nI (2 ^ (a 1)))), (0, .ref (ad 0)), (1, .int (nI set))]) hx hb dX4_nodesOf_8 rfl hl (by decide) rfl (fun ls hl => ?_)
  have lp9 : ∀ (n9 : Nat) (k : Nat) (x : Nat), (a 3 - k) < n9 → x = nof (r 0) (r 1) (a 1) set k → (k ≤ a 3) → ∀ (H : Heap) (locs : List Loc), va_P G.1 vwCl (tkw G ad a r) H → va_D A (tkw G ad a r) → va_S A s.heap H locs → ∀ (ls : Array Slot), lv_has ls 4 [(0, .ref (ad 0)), (1, .int (nI set)), (2, .int (nI x)), (3, .int (nI k))] → WI p l e (rmN 1 21) s m [.ref (ad 0), .int (nI set)] below meth c H locs G A (fun (r9 : Int32) (_ : Unit) => r9 = (nI (nof (r 0) (r 1) (a 1) set (a 3)))) (fun (_ : Unit) => tkw G ad a r) (F0 m 9 ls []) := by
    intro n9
    induction n9 with
    | zero => intro k x h9; exact absurd h9 (Nat.not_lt_zero _)
    | succ n9 ih9 =>
      intro k x hm9 e_x hk_k H locs hP hD hS ls hl
      subst e_x
      refine lv_iload_n hx hb dX4_nodesOf_9 rfl (lv_at hl 3 rfl) ?_
      refine lv_aload_n hx hb dX4_nodesOf_10 rfl (lv_at hl 0 rfl) ?_
      refine va_get (D := G.1) (ci := 3) (v := .int (nI (a 3))) (C := RX4) (T := TX4) (N := 12) hx hb hts inA4 hown hX.1 hP 0 rfl rfl 3 (by decide) (hts _ kw_76) (fun _ h9 => h9) rfl dX4_nodesOf_11 ?_
      refine nv_ge (x := k) (y := a 3) (tgt := 39) hx hb dX4_nodesOf_14 (by decide) (by omega) (by omega) (fun c14 => ?_) (fun c14 => ?_)
      · refine lv_iload_n hx hb dX4_nodesOf_39 rfl (lv_at hl 2 rfl) ?_
        exact re_i (v := (nI (nof (r 0) (r 1) (a 1) set k))) hx hb hr hlocks hS () hP hD (by have e9 : k = a 3 := (by omega); rw [e9]) dX4_nodesOf_40
      · refine lv_iload_n hx hb dX4_nodesOf_17 rfl (lv_at hl 1 rfl) ?_
        refine lv_iload_n hx hb dX4_nodesOf_18 rfl (lv_at hl 3 rfl) ?_
        refine ca_Ni (rest := []) (wr := tkw G ad a r) F hX (mX7_has l G set k (by omega) (by omega)) ⟨cA_N hts kw_357 kw_1 hX.2.2.2.2.2.2.2.2.2.2.1 hdX7_has ⟨Nat.le_of_ble_eq_true rfl, Nat.le_of_ble_eq_true rfl⟩, hts _ kw_356, trivial⟩ rfl hl.1 rfl (Nat.le_of_ble_eq_true rfl) dX4_nodesOf_19 ⟨Nat.le_of_ble_eq_true rfl, Nat.le_of_ble_eq_true rfl⟩ hP hD hS hA (List.Perm.refl _) (fun r19 u19 H locs hp19 hP hD hS => ?_)
        have hP : va_P G.1 vwCl (tkw G ad a r) H := hP
        have hD : va_D A (tkw G ad a r) := hD
        subst hp19
        refine bv_eq (b := set.testBit k) (tgt := 33) hx hb dX4_nodesOf_22 (by decide) (fun c22 => ?_) (fun c22 => ?_)
        · refine lv_iinc (v := (nI (k + 1))) (lv' := [(3, .int (nI (k + 1))), (0, .ref (ad 0)), (1, .int (nI set)), (2, .int (nI (nof (r 0) (r 1) (a 1) set k)))]) hx hb dX4_nodesOf_33 hl (k := 3) rfl (qn_inc _) (by decide) rfl (fun ls hl => ?_)
          refine lv_goto (tgt := 9) hx hb dX4_nodesOf_36 (by decide) ?_
          exact ih9 (k + 1) (nof (r 0) (r 1) (a 1) set k) (by omega) (by simp [nof, c22]) (by omega) _ _ hP hD hS ls (lv_sub hl [1, 2, 3, 0] rfl)
        · refine lv_iload_n hx hb dX4_nodesOf_25 rfl (lv_at hl 2 rfl) ?_
          refine lv_aload_n hx hb dX4_nodesOf_26 rfl (lv_at hl 0 rfl) ?_
          refine lv_iload_n hx hb dX4_nodesOf_27 rfl (lv_at hl 3 rfl) ?_
          refine ca_Vi (ci := 3) (q := (RX4, TX4, 12)) (rest := [.int (nI (nof (r 0) (r 1) (a 1) set k))]) (wr := ([] : va_W)) F hX (mX4_ends l G ad a r k hT (by omega)) (cA_V hts kw_354 kw_3 kw_351 kw_352 kw_353 hdX4_ends ⟨Nat.le_of_ble_eq_true rfl, Nat.le_of_ble_eq_true rfl⟩) rfl rfl rfl hl.1 rfl (Nat.le_of_ble_eq_true rfl) dX4_nodesOf_28 ⟨Nat.le_of_ble_eq_true rfl, Nat.le_of_ble_eq_true rfl⟩ hP hD hS hA (pm_nil _) (fun r28 u28 H locs hp28 hP hD hS => ?_)
          have hP : va_P G.1 vwCl (tkw G ad a r) H := wp_pm (pm_nil _).symm hP
          have hD : va_D A (tkw G ad a r) := wd_pm (pm_nil _).symm hD
          subst hp28
          refine lv_ior hx hb dX4_nodesOf_31 (ti (y := (nI ((nof (r 0) (r 1) (a 1) set k) ||| (edg (r 0) (r 1) k)))) (qn_or _ _) ?_)
          refine lv_istore_n (lv' := [(2, .int (nI ((nof (r 0) (r 1) (a 1) set k) ||| (edg (r 0) (r 1) k)))), (0, .ref (ad 0)), (1, .int (nI set)), (3, .int (nI k))]) hx hb dX4_nodesOf_32 rfl hl (by decide) rfl (fun ls hl => ?_)
          refine lv_iinc (v := (nI (k + 1))) (lv' := [(3, .int (nI (k + 1))), (2, .int (nI ((nof (r 0) (r 1) (a 1) set k) ||| (edg (r 0) (r 1) k)))), (0, .ref (ad 0)), (1, .int (nI set))]) hx hb dX4_nodesOf_33 hl (k := 3) rfl (qn_inc _) (by decide) rfl (fun ls hl => ?_)
          refine lv_goto (tgt := 9) hx hb dX4_nodesOf_36 (by decide) ?_
          exact ih9 (k + 1) ((nof (r 0) (r 1) (a 1) set k) ||| (edg (r 0) (r 1) k)) (by omega) (by simp [nof, c22]) (by omega) _ _ hP hD hS ls (lv_sub hl [2, 3, 1, 0] rfl)
  exact lp9 _ 0 (2 ^ (a 1)) (Nat.lt_succ_self _) rfl (Nat.zero_le _) _ _ hP hD hS ls (lv_sub hl [2, 3, 1, 0] rfl)

theorem hdX4_hangingBy : hdOK yX4_hangingBy 1 := by decide +kernel
set_option maxHeartbeats 4000000 in
set_option maxRecDepth 100000 in
theorem mX4_hangingBy (l : Launch) (G : GG) (ad : Nat → Nat) (a : Nat → Nat) (r : Nat → Nat → Nat) (set : Nat) (hT : TB a r) (hs : set < 4096) : Mi l yX4_hangingBy cX4_hangingBy 5 (some .int) (rmN 1 21) G [.ref (ad 0), .int (nI set)] (tkw G ad a r) (fun (r9 : Int32) (_ : Unit) => r9 = (nI (hgn (r 0) (r 1) set (a 3) (a 0 - 1) (2 ^ a 1)))) (fun (_ : Unit) => tkw G ad a r) := by
  refine Mi.of (cc := cX4_hangingBy) (nL := 5) (by decide) (Nat.le_of_ble_eq_true rfl) ?_
  intro p e s m below meth c A ls F hr hlocks hnm hX hA hD hP hS hl
  have F : CallFix p m c cX4_hangingBy 5 s [.ref (ad 0), .int (nI set)].toArray wA RX4 := F
  obtain ⟨hx, hb, hml, hown, hts⟩ := id F
  have hl : lv_has ls 5 [(0, .ref (ad 0)), (1, .int (nI set))] := hl
  obtain ⟨t0, t1, t2, t3, t4, t5, t6, t7, t8, t9, t10, t11, t12⟩ := id hT
  have hz : 2 ^ a 1 < 128 := pw_lt (n := 7) (by omega)
  refine lv_iconst (v := (nI 1)) hx hb dX4_hangingBy_0 (by decide) ?_
  refine lv_aload_n hx hb dX4_hangingBy_1 rfl (lv_at hl 0 rfl) ?_
  refine va_get (D := G.1) (ci := 3) (v := .int (nI (a 1))) (C := RX4) (T := TX4) (N := 12) hx hb hts inA4 hown hX.1 hP 0 rfl rfl 1 (by decide) (hts _ kw_69) (fun _ h9 => h9) rfl dX4_hangingBy_2 ?_
  refine lv_ishl hx hb dX4_hangingBy_5 (ti (y := (nI (2 ^ (a 1)))) (qn_sh1 (by omega)) ?_)
  refine lv_istore_n (lv' := [(2, .int (nI (2 ^ (a 1)))), (0, .ref (ad 0)), (1, .int (nI set))]) hx hb dX4_hangingBy_6 rfl hl (by decide) rfl (fun ls hl => ?_)
  refine lv_iconst (v := (nI 1)) hx hb dX4_hangingBy_7 (by decide) ?_
  refine lv_istore_n (lv' := [(3, .int (nI 1)), (2, .int (nI (2 ^ (a 1)))), (0, .ref (ad 0)), (1, .int (nI set))]) hx hb dX4_hangingBy_8 rfl hl (by decide) rfl (fun ls hl => ?_)
  have lp9 : ∀ (n9 : Nat) (q : Nat) (x : Nat), (a 0 - q) < n9 → x = hgn (r 0) (r 1) set (a 3) q (2 ^ a 1) → (q + 1 ≤ a 0) → ∀ (H : Heap) (locs : List Loc), va_P G.1 vwCl (tkw G ad a r) H → va_D A (tkw G ad a r) → va_S A s.heap H locs → ∀ (ls : Array Slot), lv_has ls 5 [(0, .ref (ad 0)), (1, .int (nI set)), (2, .int (nI x)), (3, .int (nI (q + 1)))] → WI p l e (rmN 1 21) s m [.ref (ad 0), .int (nI set)] below meth c H locs G A (fun (r9 : Int32) (_ : Unit) => r9 = (nI (hgn (r 0) (r 1) set (a 3) (a 0 - 1) (2 ^ a 1)))) (fun (_ : Unit) => tkw G ad a r) (F0 m 9 ls []) := by
    intro n9
    induction n9 with
    | zero => intro q x h9; exact absurd h9 (Nat.not_lt_zero _)
    | succ n9 ih9 =>
      intro q x hm9 e_x hq H locs hP hD hS ls hl
      subst e_x
      refine lv_iload_n hx hb dX4_hangingBy_9 rfl (lv_at hl 3 rfl) ?_
      refine lv_aload_n hx hb dX4_hangingBy_10 rfl (lv_at hl 0 rfl) ?_
      refine va_get (D := G.1) (ci := 3) (v := .int (nI (a 0))) (C := RX4) (T := TX4) (N := 12) hx hb hts inA4 hown hX.1 hP 0 rfl rfl 0 (by decide) (hts _ kw_62) (fun _ h9 => h9) rfl dX4_hangingBy_11 ?_
      refine nv_ge (x := q + 1) (y := a 0) (tgt := 70) hx hb dX4_hangingBy_14 (by decide) (by omega) (by omega) (fun c14 => ?_) (fun c14 => ?_)
      · refine lv_iload_n hx hb dX4_hangingBy_70 rfl (lv_at hl 2 rfl) ?_
        exact re_i (v := (nI (hgn (r 0) (r 1) set (a 3) q (2 ^ a 1)))) hx hb hr hlocks hS () hP hD (by have e9 : q = a 0 - 1 := (by omega); rw [e9]) dX4_hangingBy_71
      · refine lv_iconst (v := (nI 0)) hx hb dX4_hangingBy_17 (by decide) ?_
        refine lv_istore (lv' := [(4, .int (nI 0)), (0, .ref (ad 0)), (1, .int (nI set)), (2, .int (nI (hgn (r 0) (r 1) set (a 3) q (2 ^ a 1)))), (3, .int (nI (q + 1)))]) hx hb dX4_hangingBy_18 hl (by decide) rfl (fun ls hl => ?_)
        have lp20 : ∀ (n20 : Nat) (k : Nat) (y : Nat), (a 3 - k) < n20 → y = hgr (r 0) (r 1) set k (hgn (r 0) (r 1) set (a 3) q (2 ^ a 1)) → (k ≤ a 3) → ∀ (H : Heap) (locs : List Loc), va_P G.1 vwCl (tkw G ad a r) H → va_D A (tkw G ad a r) → va_S A s.heap H locs → ∀ (ls : Array Slot), lv_has ls 5 [(0, .ref (ad 0)), (1, .int (nI set)), (2, .int (nI y)), (3, .int (nI (q + 1))), (4, .int (nI k))] → WI p l e (rmN 1 21) s m [.ref (ad 0), .int (nI set)] below meth c H locs G A (fun (r9 : Int32) (_ : Unit) => r9 = (nI (hgn (r 0) (r 1) set (a 3) (a 0 - 1) (2 ^ a 1)))) (fun (_ : Unit) => tkw G ad a r) (F0 m 20 ls []) := by
          intro n20
          induction n20 with
          | zero => intro k y h9; exact absurd h9 (Nat.not_lt_zero _)
          | succ n20 ih20 =>
            intro k y hm20 e_y hk_k H locs hP hD hS ls hl
            subst e_y
            refine lv_iload hx hb dX4_hangingBy_20 (lv_at hl 4 rfl) ?_
            refine lv_aload_n hx hb dX4_hangingBy_22 rfl (lv_at hl 0 rfl) ?_
            refine va_get (D := G.1) (ci := 3) (v := .int (nI (a 3))) (C := RX4) (T := TX4) (N := 12) hx hb hts inA4 hown hX.1 hP 0 rfl rfl 3 (by decide) (hts _ kw_76) (fun _ h9 => h9) rfl dX4_hangingBy_23 ?_
            refine nv_ge (x := k) (y := a 3) (tgt := 64) hx hb dX4_hangingBy_26 (by decide) (by omega) (by omega) (fun c26 => ?_) (fun c26 => ?_)
            · refine lv_iinc (v := (nI ((q + 1) + 1))) (lv' := [(3, .int (nI ((q + 1) + 1))), (0, .ref (ad 0)), (1, .int (nI set)), (2, .int (nI (hgr (r 0) (r 1) set k (hgn (r 0) (r 1) set (a 3) q (2 ^ a 1))))), (4, .int (nI k))]) hx hb dX4_hangingBy_64 hl (k := 3) rfl (qn_inc _) (by decide) rfl (fun ls hl => ?_)
              refine lv_goto (tgt := 9) hx hb dX4_hangingBy_67 (by decide) ?_
              exact ih9 (q + 1) (hgr (r 0) (r 1) set k (hgn (r 0) (r 1) set (a 3) q (2 ^ a 1))) (by omega) (by have e9 : k = a 3 := (by omega); rw [e9]; rfl) (by omega) _ _ hP hD hS ls (lv_sub hl [1, 2, 3, 0] rfl)
            · refine lv_iload_n hx hb dX4_hangingBy_29 rfl (lv_at hl 1 rfl) ?_
              refine lv_iload hx hb dX4_hangingBy_30 (lv_at hl 4 rfl) ?_
              refine ca_Ni (rest := []) (wr := tkw G ad a r) F hX (mX7_has l G set k (by omega) (by omega)) ⟨cA_N hts kw_357 kw_1 hX.2.2.2.2.2.2.2.2.2.2.1 hdX7_has ⟨Nat.le_of_ble_eq_true rfl, Nat.le_of_ble_eq_true rfl⟩, hts _ kw_356, trivial⟩ rfl hl.1 rfl (Nat.le_of_ble_eq_true rfl) dX4_hangingBy_32 ⟨Nat.le_of_ble_eq_true rfl, Nat.le_of_ble_eq_true rfl⟩ hP hD hS hA (List.Perm.refl _) (fun r32 u32 H locs hp32 hP hD hS => ?_)
              have hP : va_P G.1 vwCl (tkw G ad a r) H := hP
              have hD : va_D A (tkw G ad a r) := hD
              subst hp32
              refine bv_eq (b := set.testBit k) (tgt := 58) hx hb dX4_hangingBy_35 (by decide) (fun c35 => ?_) (fun c35 => ?_)
              · refine lv_iinc (v := (nI (k + 1))) (lv' := [(4, .int (nI (k + 1))), (0, .ref (ad 0)), (1, .int (nI set)), (2, .int (nI (hgr (r 0) (r 1) set k (hgn (r 0) (r 1) set (a 3) q (2 ^ a 1))))), (3, .int (nI (q + 1)))]) hx hb dX4_hangingBy_58 hl (k := 4) rfl (qn_inc _) (by decide) rfl (fun ls hl => ?_)
                refine lv_goto (tgt := 20) hx hb dX4_hangingBy_61 (by decide) ?_
                exact ih20 (k + 1) (hgr (r 0) (r 1) set k (hgn (r 0) (r 1) set (a 3) q (2 ^ a 1))) (by omega) (by first | (rw [hgr, if_pos ⟨c35, c46⟩]; done) | (rw [hgr, if_neg (fun h => h.2 c46)]; done) | (rw [hgr, if_neg (fun h => by rw [c35] at h; exact absurd h.1 (by decide))]; done)) (by omega) _ _ hP hD hS ls (lv_sub hl [1, 2, 3, 4, 0] rfl)
              · refine lv_iload_n hx hb dX4_hangingBy_38 rfl (lv_at hl 2 rfl) ?_
                refine lv_aload_n hx hb dX4_hangingBy_39 rfl (lv_at hl 0 rfl) ?_
                refine lv_iload hx hb dX4_hangingBy_40 (lv_at hl 4 rfl) ?_
                refine ca_Vi (ci := 3) (q := (RX4, TX4, 12)) (rest := [.int (nI (hgr (r 0) (r 1) set k (hgn (r 0) (r 1) set (a 3) q (2 ^ a 1))))]) (wr := ([] : va_W)) F hX (mX4_ends l G ad a r k hT (by omega)) (cA_V hts kw_354 kw_3 kw_351 kw_352 kw_353 hdX4_ends ⟨Nat.le_of_ble_eq_true rfl, Nat.le_of_ble_eq_true rfl⟩) rfl rfl rfl hl.1 rfl (Nat.le_of_ble_eq_true rfl) dX4_hangingBy_42 ⟨Nat.le_of_ble_eq_true rfl, Nat.le_of_ble_eq_true rfl⟩ hP hD hS hA (pm_nil _) (fun r42 u42 H locs hp42 hP hD hS => ?_)
                have hP : va_P G.1 vwCl (tkw G ad a r) H := wp_pm (pm_nil _).symm hP
                have hD : va_D A (tkw G ad a r) := wd_pm (pm_nil _).symm hD
                subst hp42
                refine lv_iand hx hb dX4_hangingBy_45 (ti (y := (nI ((hgr (r 0) (r 1) set k (hgn (r 0) (r 1) set (a 3) q (2 ^ a 1))) &&& (edg (r 0) (r 1) k)))) (qn_and _ _) ?_)
                refine nv_zeq (x := (hgr (r 0) (r 1) set k (hgn (r 0) (r 1) set (a 3) q (2 ^ a 1))) &&& (edg (r 0) (r 1) k)) (tgt := 58) hx hb dX4_hangingBy_46 (by decide) (by have h1 := hgr_lt t5 t6 (set := set) (hgn_lt t5 t6 (set := set) (L := a 3) hz q) k; have h2 := Nat.and_le_left (n := hgr (r 0) (r 1) set k (hgn (r 0) (r 1) set (a 3) q (2 ^ a 1))) (m := edg (r 0) (r 1) k); omega) (fun c46 => ?_) (fun c46 => ?_)
                · refine lv_iinc (v := (nI (k + 1))) (lv' := [(4, .int (nI (k + 1))), (0, .ref (ad 0)), (1, .int (nI set)), (2, .int (nI (hgr (r 0) (r 1) set k (hgn (r 0) (r 1) set (a 3) q (2 ^ a 1))))), (3, .int (nI (q + 1)))]) hx hb dX4_hangingBy_58 hl (k := 4) rfl (qn_inc _) (by decide) rfl (fun ls hl => ?_)
                  refine lv_goto (tgt := 20) hx hb dX4_hangingBy_61 (by decide) ?_
                  exact ih20 (k + 1) (hgr (r 0) (r 1) set k (hgn (r 0) (r 1) set (a 3) q (2 ^ a 1))) (by omega) (by first | (rw [hgr, if_pos ⟨c35, c46⟩]; done) | (rw [hgr, if_neg (fun h => h.2 c46)]; done) | (rw [hgr, if_neg (fun h => by rw [c35] at h; exact absurd h.1 (by decide))]; done)) (by omega) _ _ hP hD hS ls (lv_sub hl [1, 2, 3, 4, 0] rfl)
                · refine lv_iload_n hx hb dX4_hangingBy_49 rfl (lv_at hl 2 rfl) ?_
                  refine lv_aload_n hx hb dX4_hangingBy_50 rfl (lv_at hl 0 rfl) ?_
                  refine lv_iload hx hb dX4_hangingBy_51 (lv_at hl 4 rfl) ?_
                  refine ca_Vi (ci := 3) (q := (RX4, TX4, 12)) (rest := [.int (nI (hgr (r 0) (r 1) set k (hgn (r 0) (r 1) set (a 3) q (2 ^ a 1))))]) (wr := ([] : va_W)) F hX (mX4_ends l G ad a r k hT (by omega)) (cA_V hts kw_354 kw_3 kw_351 kw_352 kw_353 hdX4_ends ⟨Nat.le_of_ble_eq_true rfl, Nat.le_of_ble_eq_true rfl⟩) rfl rfl rfl hl.1 rfl (Nat.le_of_ble_eq_true rfl) dX4_hangingBy_53 ⟨Nat.le_of_ble_eq_true rfl, Nat.le_of_ble_eq_true rfl⟩ hP hD hS hA (pm_nil _) (fun r53 u53 H locs hp53 hP hD hS => ?_)
                  have hP : va_P G.1 vwCl (tkw G ad a r) H := wp_pm (pm_nil _).symm hP
                  have hD : va_D A (tkw G ad a r) := wd_pm (pm_nil _).symm hD
                  subst hp53
                  refine lv_ior hx hb dX4_hangingBy_56 (ti (y := (nI ((hgr (r 0) (r 1) set k (hgn (r 0) (r 1) set (a 3) q (2 ^ a 1))) ||| (edg (r 0) (r 1) k)))) (qn_or _ _) ?_)
                  refine lv_istore_n (lv' := [(2, .int (nI ((hgr (r 0) (r 1) set k (hgn (r 0) (r 1) set (a 3) q (2 ^ a 1))) ||| (edg (r 0) (r 1) k)))), (0, .ref (ad 0)), (1, .int (nI set)), (3, .int (nI (q + 1))), (4, .int (nI k))]) hx hb dX4_hangingBy_57 rfl hl (by decide) rfl (fun ls hl => ?_)
                  refine lv_iinc (v := (nI (k + 1))) (lv' := [(4, .int (nI (k + 1))), (2, .int (nI ((hgr (r 0) (r 1) set k (hgn (r 0) (r 1) set (a 3) q (2 ^ a 1))) ||| (edg (r 0) (r 1) k)))), (0, .ref (ad 0)), (1, .int (nI set)), (3, .int (nI (q + 1)))]) hx hb dX4_hangingBy_58 hl (k := 4) rfl (qn_inc _) (by decide) rfl (fun ls hl => ?_)
                  refine lv_goto (tgt := 20) hx hb dX4_hangingBy_61 (by decide) ?_
                  exact ih20 (k + 1) ((hgr (r 0) (r 1) set k (hgn (r 0) (r 1) set (a 3) q (2 ^ a 1))) ||| (edg (r 0) (r 1) k)) (by omega) (by first | (rw [hgr, if_pos ⟨c35, c46⟩]; done) | (rw [hgr, if_neg (fun h => h.2 c46)]; done) | (rw [hgr, if_neg (fun h => by rw [c35] at h; exact absurd h.1 (by decide))]; done)) (by omega) _ _ hP hD hS ls (lv_sub hl [2, 3, 1, 4, 0] rfl)
        exact lp20 _ 0 (hgn (r 0) (r 1) set (a 3) q (2 ^ a 1)) (Nat.lt_succ_self _) rfl (Nat.zero_le _) _ _ hP hD hS ls (lv_sub hl [1, 2, 3, 4, 0] rfl)
  exact lp9 _ 0 (2 ^ (a 1)) (Nat.lt_succ_self _) rfl (by omega) _ _ hP hD hS ls (lv_sub hl [2, 3, 1, 0] rfl)

/-- the members that don't come to the source by these links without that one -/
def mof (f g : Nat → Nat) (n src L mem set k : Nat) : Nat := nd mem (hgn f g (nd set (2 ^ k)) L (n - 1) (2 ^ src))

theorem hdX4_membersOff : hdOK yX4_membersOff 2 := by decide +kernel
set_option maxHeartbeats 4000000 in
set_option maxRecDepth 100000 in
theorem mX4_membersOff (l : Launch) (G : GG) (ad : Nat → Nat) (a : Nat → Nat) (r : Nat → Nat → Nat) (set k : Nat) (hT : TB a r) (hs : set < 4096) (hk : k < 31) : Mi l yX4_membersOff cX4_membersOff 3 (some .int) (rmN 2 45) G [.ref (ad 0), .int (nI set), .int (nI k)] (tkw G ad a r) (fun (r9 : Int32) (_ : Unit) => r9 = (nI (mof (r 0) (r 1) (a 0) (a 1) (a 3) (a 7) set k))) (fun (_ : Unit) => tkw G ad a r) := by
  refine Mi.of (cc := cX4_membersOff) (nL := 3) (by decide) (Nat.le_of_ble_eq_true rfl) ?_
  intro p e s m below meth c A ls F hr hlocks hnm hX hA hD hP hS hl
  have F : CallFix p m c cX4_membersOff 3 s [.ref (ad 0), .int (nI set), .int (nI k)].toArray wA RX4 := F
  obtain ⟨hx, hb, hml, hown, hts⟩ := id F
  have hl : lv_has ls 3 [(0, .ref (ad 0)), (1, .int (nI set)), (2, .int (nI k))] := hl
  obtain ⟨t0, t1, t2, t3, t4, t5, t6, t7, t8, t9, t10, t11, t12⟩ := id hT
  refine lv_aload_n hx hb dX4_membersOff_0 rfl (lv_at hl 0 rfl) ?_
  refine va_get (D := G.1) (ci := 3) (v := .int (nI (a 7))) (C := RX4) (T := TX4) (N := 12) hx hb hts inA4 hown hX.1 hP 0 rfl rfl 7 (by decide) (hts _ kw_94) (fun _ h9 => h9) rfl dX4_membersOff_1 ?_
  refine lv_aload_n hx hb dX4_membersOff_4 rfl (lv_at hl 0 rfl) ?_
  refine lv_iload_n hx hb dX4_membersOff_5 rfl (lv_at hl 1 rfl) ?_
  refine lv_iconst (v := (nI 1)) hx hb dX4_membersOff_6 (by decide) ?_
  refine lv_iload_n hx hb dX4_membersOff_7 rfl (lv_at hl 2 rfl) ?_
  refine lv_ishl hx hb dX4_membersOff_8 (ti (y := (nI (2 ^ k))) (qn_sh1 (by omega)) ?_)
  refine lv_iconst (v := (-1)) hx hb dX4_membersOff_9 (by decide) ?_
  refine lv_ixor hx hb dX4_membersOff_10 ?_
  refine lv_iand hx hb dX4_membersOff_11 (ti (y := (nI (nd set (2 ^ k)))) (qn_andn _ _) ?_)
  refine ca_Vi (ci := 3) (q := (RX4, TX4, 12)) (rest := [.int (nI (a 7))]) (wr := ([] : va_W)) F hX (mX4_hangingBy l G ad a r (nd set (2 ^ k)) hT (by have := nd_le set (2 ^ k); omega)) (cA_V hts kw_533 kw_3 kw_569 kw_531 kw_532 hdX4_hangingBy ⟨Nat.le_of_ble_eq_true rfl, Nat.le_of_ble_eq_true rfl⟩) rfl rfl rfl hl.1 rfl (Nat.le_of_ble_eq_true rfl) dX4_membersOff_12 ⟨Nat.le_of_ble_eq_true rfl, Nat.le_of_ble_eq_true rfl⟩ hP hD hS hA (pm_nil _) (fun r12 u12 H locs hp12 hP hD hS => ?_)
  have hP : va_P G.1 vwCl (tkw G ad a r) H := wp_pm (pm_nil _).symm hP
  have hD : va_D A (tkw G ad a r) := wd_pm (pm_nil _).symm hD
  subst hp12
  refine lv_iconst (v := (-1)) hx hb dX4_membersOff_15 (by decide) ?_
  refine lv_ixor hx hb dX4_membersOff_16 ?_
  refine lv_iand hx hb dX4_membersOff_17 (ti (y := (nI (nd (a 7) (hgn (r 0) (r 1) (nd set (2 ^ k)) (a 3) ((a 0) - 1) (2 ^ (a 1)))))) (qn_andn _ _) ?_)
  exact re_i (v := (nI (nd (a 7) (hgn (r 0) (r 1) (nd set (2 ^ k)) (a 3) ((a 0) - 1) (2 ^ (a 1)))))) hx hb hr hlocks hS () hP hD rfl dX4_membersOff_18

def ldN (f g : Nat → Nat) (n src L mem tree k : Nat) : Nat := if tree.testBit k then bts (mof f g n src L mem tree k) 12 else 0
theorem mof_le (f g : Nat → Nat) (n src L mem set k : Nat) : mof f g n src L mem set k ≤ mem := nd_le _ _
theorem ldN_le (f g : Nat → Nat) (n src L mem tree k : Nat) : ldN f g n src L mem tree k ≤ 12 := by
  unfold ldN
  split
  · exact bts_le _ _
  · omega

theorem hdX4_load : hdOK yX4_load 1 := by decide +kernel
set_option maxHeartbeats 4000000 in
set_option maxRecDepth 100000 in
theorem mX4_load (l : Launch) (G : GG) (ad : Nat → Nat) (a : Nat → Nat) (r : Nat → Nat → Nat) (k : Nat) (hT : TB a r) (hk : k < 31) : Mi l yX4_load cX4_load 2 (some .int) (rmN 3 67) G [.ref (ad 0), .int (nI k)] (tkw G ad a r) (fun (r9 : Int32) (_ : Unit) => r9 = (nI (ldN (r 0) (r 1) (a 0) (a 1) (a 3) (a 7) (a 8) k))) (fun (_ : Unit) => tkw G ad a r) := by
  refine Mi.of (cc := cX4_load) (nL := 2) (by decide) (Nat.le_of_ble_eq_true rfl) ?_
  intro p e s m below meth c A ls F hr hlocks hnm hX hA hD hP hS hl
  have F : CallFix p m c cX4_load 2 s [.ref (ad 0), .int (nI k)].toArray wA RX4 := F
  obtain ⟨hx, hb, hml, hown, hts⟩ := id F
  have hl : lv_has ls 2 [(0, .ref (ad 0)), (1, .int (nI k))] := hl
  obtain ⟨t0, t1, t2, t3, t4, t5, t6, t7, t8, t9, t10, t11, t12⟩ := id hT
  refine lv_aload_n hx hb dX4_load_0 rfl (lv_at hl 0 rfl) ?_
  refine va_get (D := G.1) (ci := 3) (v := .int (nI (a 8))) (C := RX4) (T := TX4) (N := 12) hx hb hts inA4 hown hX.1 hP 0 rfl rfl 8 (by decide) (hts _ kw_98) (fun _ h9 => h9) rfl dX4_load_1 ?_
  refine lv_iload_n hx hb dX4_load_4 rfl (lv_at hl 1 rfl) ?_
  refine ca_Ni (rest := []) (wr := tkw G ad a r) F hX (mX7_has l G (a 8) k (by omega) (by omega)) ⟨cA_N hts kw_357 kw_1 hX.2.2.2.2.2.2.2.2.2.2.1 hdX7_has ⟨Nat.le_of_ble_eq_true rfl, Nat.le_of_ble_eq_true rfl⟩, hts _ kw_356, trivial⟩ rfl hl.1 rfl (Nat.le_of_ble_eq_true rfl) dX4_load_5 ⟨Nat.le_of_ble_eq_true rfl, Nat.le_of_ble_eq_true rfl⟩ hP hD hS hA (List.Perm.refl _) (fun r5 u5 H locs hp5 hP hD hS => ?_)
  have hP : va_P G.1 vwCl (tkw G ad a r) H := hP
  have hD : va_D A (tkw G ad a r) := hD
  subst hp5
  refine bv_eq (b := (a 8).testBit k) (tgt := 26) hx hb dX4_load_8 (by decide) (fun c8 => ?_) (fun c8 => ?_)
  · refine lv_iconst (v := (nI 0)) hx hb dX4_load_26 (by decide) ?_
    exact re_i (v := (nI 0)) hx hb hr hlocks hS () hP hD (by simp [ldN, c8]) dX4_load_27
  · refine lv_aload_n hx hb dX4_load_11 rfl (lv_at hl 0 rfl) ?_
    refine lv_aload_n hx hb dX4_load_12 rfl (lv_at hl 0 rfl) ?_
    refine va_get (D := G.1) (ci := 3) (v := .int (nI (a 8))) (C := RX4) (T := TX4) (N := 12) hx hb hts inA4 hown hX.1 hP 0 rfl rfl 8 (by decide) (hts _ kw_98) (fun _ h9 => h9) rfl dX4_load_13 ?_
    refine lv_iload_n hx hb dX4_load_16 rfl (lv_at hl 1 rfl) ?_
    refine ca_Vi (ci := 3) (q := (RX4, TX4, 12)) (rest := []) (wr := ([] : va_W)) F hX (mX4_membersOff l G ad a r (a 8) k hT (by omega) (by omega)) (cA_V hts kw_568 kw_3 kw_565 kw_566 kw_567 hdX4_membersOff ⟨Nat.le_of_ble_eq_true rfl, Nat.le_of_ble_eq_true rfl⟩) rfl rfl rfl hl.1 rfl (Nat.le_of_ble_eq_true rfl) dX4_load_17 ⟨Nat.le_of_ble_eq_true rfl, Nat.le_of_ble_eq_true rfl⟩ hP hD hS hA (pm_nil _) (fun r17 u17 H locs hp17 hP hD hS => ?_)
    have hP : va_P G.1 vwCl (tkw G ad a r) H := wp_pm (pm_nil _).symm hP
    have hD : va_D A (tkw G ad a r) := wd_pm (pm_nil _).symm hD
    subst hp17
    refine ca_Si (rest := []) (wr := tkw G ad a r) F hX (mJ6_bitCount_0f7a4 l G (mof (r 0) (r 1) (a 0) (a 1) (a 3) (a 7) (a 8) k) (by have := mof_le (r 0) (r 1) (a 0) (a 1) (a 3) (a 7) (a 8) k; omega)) (cA_S hts kw_503 kw_16 kw_501 kw_502 hdJ6_bitCount_0f7a4 ⟨Nat.le_of_ble_eq_true rfl, Nat.le_of_ble_eq_true rfl⟩) rfl hl.1 rfl (Nat.le_of_ble_eq_true rfl) dX4_load_20 ⟨Nat.le_of_ble_eq_true rfl, Nat.le_of_ble_eq_true rfl⟩ hP hD hS hA (List.Perm.refl _) (fun r20 u20 H locs hp20 hP hD hS => ?_)
    have hP : va_P G.1 vwCl (tkw G ad a r) H := hP
    have hD : va_D A (tkw G ad a r) := hD
    subst hp20
    refine lv_goto (tgt := 27) hx hb dX4_load_23 (by decide) ?_
    exact re_i (v := (nI (bts (mof (r 0) (r 1) (a 0) (a 1) (a 3) (a 7) (a 8) k) 12))) hx hb hr hlocks hS () hP hD (by simp [ldN, c8]) dX4_load_27

/-- the busiest link of the first k, and its load plus 1 -/
def bsN (ld : Nat → Nat) (tree : Nat) : Nat → Option Nat × Nat
  | 0 => (none, 0)
  | k + 1 => if tree.testBit k = true ∧ (bsN ld tree k).2 ≤ ld k then (some k, ld k + 1) else bsN ld tree k
theorem bsN_le {ld : Nat → Nat} (h : ∀ k, ld k ≤ 12) (tree : Nat) : ∀ k, (bsN ld tree k).2 ≤ 13
  | 0 => by simp [bsN]
  | k + 1 => by
    have h1 := bsN_le h tree k
    have h2 := h k
    unfold bsN
    split
    · show ld k + 1 ≤ 13; omega
    · exact h1
/-- a number less 1, as an int -/
def mI (n : Nat) : Int32 := nI n - 1
theorem mI_le {a b : Nat} (ha : a < 1000) (hb : b < 1000) : nI a ≤ mI b ↔ a < b := by
  cases b with
  | zero =>
    have e : mI 0 = -1 := by decide
    rw [e, Int32.le_iff_toInt_le, nI_toInt (by omega)]
    have : (-1 : Int32).toInt = -1 := by decide
    rw [this]; omega
  | succ b =>
    have e : mI (b + 1) = nI b := nI_pred b
    rw [e, nI_leI (by omega) (by omega)]; omega

