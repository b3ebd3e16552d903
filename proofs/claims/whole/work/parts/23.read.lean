theorem hdX5_isWord : hdOK yX5_isWord 1 := by decide +kernel
set_option maxHeartbeats 4000000 in
set_option maxRecDepth 100000 in
theorem mX5_isWord (l : Launch) (G : GG) (td z tl : Nat → Nat) (k v n : Nat) (ch : Nat → Nat) (hZ : XB z tl) (hle : z 2 ≤ z 3) (hn : n ≤ 100) (hch : ∀ j, ch j < 128) : MiE (EX k v n (fun j => nI (ch j))) l yX5_isWord cX5_isWord 3 (some .boolean) (rmN 4 85) G [.ref (td 0), .ref k] (txw G td z tl) (fun (r9 : Int32) (_ : Unit) => r9 = (bI (wdB z tl n ch))) (fun (_ : Unit) => txw G td z tl) := by
  refine MiE.of (cc := cX5_isWord) (nL := 3) (by decide) (Nat.le_of_ble_eq_true rfl) ?_
  intro p e s m below meth c A ls F hr hlocks hnm hX hA hD hP hS hl hE
  have F : CallFix p m c cX5_isWord 3 s [.ref (td 0), .ref k].toArray wA RX5 := F
  obtain ⟨hx, hb, hml, hown, hts⟩ := id F
  have hl : lv_has ls 3 [(0, .ref (td 0)), (1, .ref k)] := hl
  obtain ⟨x1, x2, x3, x4, x5, x6, x7⟩ := id hZ
  refine lv_aload_n hx hb dX5_isWord_0 rfl (lv_at hl 0 rfl) ?_
  refine va_get (D := G.1) (ci := 4) (v := .int (nI (z 4))) (C := RX5) (T := TX5) (N := 7) hx hb hts inA5 hown hX.1 hP 0 rfl rfl 4 (by decide) (hts _ kw_37) (fun _ h9 => h9) rfl dX5_isWord_1 ?_
  refine lv_iconst (v := (nI 1)) hx hb dX5_isWord_4 (by decide) ?_
  refine nv_ne (x := z 4) (y := 1) (tgt := 24) hx hb dX5_isWord_5 (by decide) (by omega) (by decide) (fun c5 => ?_) (fun c5 => ?_)
  · refine lv_iconst (v := (nI 0)) hx hb dX5_isWord_24 (by decide) ?_
    exact re_z (v := (nI 0)) hx hb hr hlocks hS () hP hD (by rw [wdB, decide_eq_false (fun h => c5 h.1)]; rfl) (by decide) dX5_isWord_25
  · refine lv_aload_n hx hb dX5_isWord_8 rfl (lv_at hl 0 rfl) ?_
    refine va_get (D := G.1) (ci := 4) (v := .int (nI (z 3))) (C := RX5) (T := TX5) (N := 7) hx hb hts inA5 hown hX.1 hP 0 rfl rfl 3 (by decide) (hts _ kw_36) (fun _ h9 => h9) rfl dX5_isWord_9 ?_
    refine lv_aload_n hx hb dX5_isWord_12 rfl (lv_at hl 0 rfl) ?_
    refine va_get (D := G.1) (ci := 4) (v := .int (nI (z 2))) (C := RX5) (T := TX5) (N := 7) hx hb hts inA5 hown hX.1 hP 0 rfl rfl 2 (by decide) (hts _ kw_35) (fun _ h9 => h9) rfl dX5_isWord_13 ?_
    refine lv_isub hx hb dX5_isWord_16 (ti (y := (nI ((z 3) - (z 2)))) (pk_sub hle) ?_)
    refine lv_aload_n hx hb dX5_isWord_17 rfl (lv_at hl 1 rfl) ?_
    refine ca_ViE (rest := [.int (nI ((z 3) - (z 2)))]) (wr := txw G td z tl) (EX_st k v n (fun j => nI (ch j))) hE F hX (mJ0_length l G k v n (fun j => nI (ch j)) (by omega)) (cA_V hts kw_275 kw_9 kw_272 kw_273 kw_274 hdJ0_length ⟨Nat.le_of_ble_eq_true rfl, Nat.le_of_ble_eq_true rfl⟩) (EX_rc hE hS) rfl hl.1 rfl (Nat.le_of_ble_eq_true rfl) dX5_isWord_18 ⟨Nat.le_of_ble_eq_true rfl, Nat.le_of_ble_eq_true rfl⟩ hP hD hS hA (List.Perm.refl _) (fun r18 u18 H locs hp18 hP hD hS => ?_)
    subst hp18
    have hP : va_P G.1 vwCl (txw G td z tl) H := hP
    have hD : va_D A (txw G td z tl) := hD
    refine nv_eq (x := (z 3) - (z 2)) (y := n) (tgt := 26) hx hb dX5_isWord_21 (by decide) (by omega) (by omega) (fun c21 => ?_) (fun c21 => ?_)
    · refine lv_iconst (v := (nI 0)) hx hb dX5_isWord_26 (by decide) ?_
      refine lv_istore_n (lv' := [(2, .int (nI 0)), (0, .ref (td 0)), (1, .ref k)]) hx hb dX5_isWord_27 rfl hl (by decide) rfl (fun ls hl => ?_)
      have lp28 : ∀ (n28 : Nat) (i : Nat), (n - i) < n28 → (i ≤ n) → (wdN tl (z 2) ch i = true) → ∀ (H : Heap) (locs : List Loc), va_P G.1 vwCl (txw G td z tl) H → va_D A (txw G td z tl) → va_S A s.heap H locs → ∀ (ls : Array Slot), lv_has ls 3 [(0, .ref (td 0)), (1, .ref k), (2, .int (nI i))] → WI p l e (rmN 4 85) s m [.ref (td 0), .ref k] below meth c H locs G A (fun (r9 : Int32) (_ : Unit) => r9 = (bI (wdB z tl n ch))) (fun (_ : Unit) => txw G td z tl) (F0 m 28 ls []) := by
        intro n28
        induction n28 with
        | zero => intro i h9; exact absurd h9 (Nat.not_lt_zero _)
        | succ n28 ih28 =>
          intro i hm28  hi hf H locs hP hD hS ls hl
          refine lv_iload_n hx hb dX5_isWord_28 rfl (lv_at hl 2 rfl) ?_
          refine lv_aload_n hx hb dX5_isWord_29 rfl (lv_at hl 1 rfl) ?_
          refine ca_ViE (rest := [.int (nI i)]) (wr := txw G td z tl) (EX_st k v n (fun j => nI (ch j))) hE F hX (mJ0_length l G k v n (fun j => nI (ch j)) (by omega)) (cA_V hts kw_275 kw_9 kw_272 kw_273 kw_274 hdJ0_length ⟨Nat.le_of_ble_eq_true rfl, Nat.le_of_ble_eq_true rfl⟩) (EX_rc hE hS) rfl hl.1 rfl (Nat.le_of_ble_eq_true rfl) dX5_isWord_30 ⟨Nat.le_of_ble_eq_true rfl, Nat.le_of_ble_eq_true rfl⟩ hP hD hS hA (List.Perm.refl _) (fun r30 u30 H locs hp30 hP hD hS => ?_)
          subst hp30
          have hP : va_P G.1 vwCl (txw G td z tl) H := hP
          have hD : va_D A (txw G td z tl) := hD
          refine nv_ge (x := i) (y := n) (tgt := 63) hx hb dX5_isWord_33 (by decide) (by omega) (by omega) (fun c33 => ?_) (fun c33 => ?_)
          · refine lv_iconst (v := (nI 1)) hx hb dX5_isWord_63 (by decide) ?_
            exact re_z (v := (nI 1)) hx hb hr hlocks hS () hP hD (by have e9 : i = n := (by omega); rw [wdB, decide_eq_true ⟨c5, c21⟩, ← e9, hf]; rfl) (by decide) dX5_isWord_64
          · refine lv_aload_n hx hb dX5_isWord_36 rfl (lv_at hl 0 rfl) ?_
            refine va_get (D := G.1) (ci := 4) (v := .ref (td 1)) (C := RX5) (T := TX5) (N := 7) hx hb hts inA5 hown hX.1 hP 0 rfl rfl 0 (by decide) (hts _ kw_32) (fun _ h9 => h9) rfl dX5_isWord_37 ?_
            refine lv_aload_n hx hb dX5_isWord_40 rfl (lv_at hl 0 rfl) ?_
            refine va_get (D := G.1) (ci := 4) (v := .int (nI (z 2))) (C := RX5) (T := TX5) (N := 7) hx hb hts inA5 hown hX.1 hP 0 rfl rfl 2 (by decide) (hts _ kw_35) (fun _ h9 => h9) rfl dX5_isWord_41 ?_
            refine lv_iload_n hx hb dX5_isWord_44 rfl (lv_at hl 2 rfl) ?_
            refine lv_iadd hx hb dX5_isWord_45 (ti (y := (nI ((z 2) + i))) (nI_add _ _) ?_)
            refine nv_ald (f := tl) (k := (z 2) + i) hx hb hX hP 1 rfl (by omega) (by decide) dX5_isWord_46 ?_
            refine lv_aload_n hx hb dX5_isWord_47 rfl (lv_at hl 1 rfl) ?_
            refine lv_iload_n hx hb dX5_isWord_48 rfl (lv_at hl 2 rfl) ?_
            refine ca_ViE (rest := [.int (nI (tl ((z 2) + i)))]) (wr := txw G td z tl) (EX_st k v n (fun j => nI (ch j))) hE F hX (mJ0_charAt l G k v n (fun j => nI (ch j)) i (by omega) (by omega)) (cA_V hts kw_285 kw_9 kw_282 kw_283 kw_284 hdJ0_charAt ⟨Nat.le_of_ble_eq_true rfl, Nat.le_of_ble_eq_true rfl⟩) (EX_rc hE hS) rfl hl.1 rfl (Nat.le_of_ble_eq_true rfl) dX5_isWord_49 ⟨Nat.le_of_ble_eq_true rfl, Nat.le_of_ble_eq_true rfl⟩ hP hD hS hA (List.Perm.refl _) (fun r49 u49 H locs hp49 hP hD hS => ?_)
            subst hp49
            have hP : va_P G.1 vwCl (txw G td z tl) H := hP
            have hD : va_D A (txw G td z tl) := hD
            refine ti (y := nI (ch i)) (and255 (by have := hch i; omega)) ?_
            refine nv_eq (x := tl ((z 2) + i)) (y := ch i) (tgt := 57) hx hb dX5_isWord_52 (by decide) (by have := x7 (z 2 + i); omega) (by have := hch i; omega) (fun c52 => ?_) (fun c52 => ?_)
            · refine lv_iinc (v := (nI (i + 1))) (lv' := [(2, .int (nI (i + 1))), (0, .ref (td 0)), (1, .ref k)]) hx hb dX5_isWord_57 hl (k := 2) rfl (qn_inc _) (by decide) rfl (fun ls hl => ?_)
              refine lv_goto (tgt := 28) hx hb dX5_isWord_60 (by decide) ?_
              exact ih28 (i + 1) (by omega) (by omega) (by rw [wdN, hf, decide_eq_true c52]; rfl) _ _ hP hD hS ls (lv_sub hl [1, 2, 0] rfl)
            · refine lv_iconst (v := (nI 0)) hx hb dX5_isWord_55 (by decide) ?_
              exact re_z (v := (nI 0)) hx hb hr hlocks hS () hP hD (by rw [wdB, wdN_no (k := i) c52 n (by omega), Bool.and_false]; rfl) (by decide) dX5_isWord_56
      exact lp28 _ 0 (Nat.lt_succ_self _) (Nat.zero_le _) rfl _ _ hP hD hS ls (lv_sub hl [1, 2, 0] rfl)
    · refine lv_iconst (v := (nI 0)) hx hb dX5_isWord_24 (by decide) ?_
      exact re_z (v := (nI 0)) hx hb hr hlocks hS () hP hD (by rw [wdB, decide_eq_false (fun h => c21 h.2)]; rfl) (by decide) dX5_isWord_25

theorem hdX5_readItem : hdOK yX5_readItem 2 := by decide +kernel
set_option maxHeartbeats 4000000 in
set_option maxRecDepth 100000 in
theorem mX5_readItem (l : Launch) (G : GG) (sk sv : Nat → Nat) (td z tl : Nat → Nat) (ad : Nat → Nat) (a : Nat → Nat) (r : Nat → Nat → Nat) (it : Nat) (hZ : XB z tl) (hTI : TI a r it) (hle : z 2 ≤ z 3) (hit : it < 2 ^ 31) : MiE (E4 sk sv) l yX5_readItem cX5_readItem 4 (some .boolean) (rmN 5 107) G [.ref (td 0), .ref (ad 0), .int (nI it)] (txw G td z tl ++ (tkw G ad a r)) (fun (r9 : Int32) (_ : Unit) => r9 = (bI ((riP z a r tl it).1))) (fun (_ : Unit) => txw G td (riP z a r tl it).2.1 tl ++ (tkw G ad (riP z a r tl it).2.2.1 (riP z a r tl it).2.2.2)) := by
  refine MiE.of (cc := cX5_readItem) (nL := 4) (by decide) (Nat.le_of_ble_eq_true rfl) ?_
  intro p e s m below meth c A ls F hr hlocks hnm hX hA hD hP hS hl hE
  have F : CallFix p m c cX5_readItem 4 s [.ref (td 0), .ref (ad 0), .int (nI it)].toArray wA RX5 := F
  obtain ⟨hx, hb, hml, hown, hts⟩ := id F
  have hl : lv_has ls 4 [(0, .ref (td 0)), (1, .ref (ad 0)), (2, .int (nI it))] := hl
  obtain ⟨x1, x2, x3, x4, x5, x6, x7⟩ := id hZ
  have hT := hTI.1
  obtain ⟨t0, t1, t2, t3, t4, t5, t6, t7, t8, t9, t10, t11, t12⟩ := id hT
  refine lv_iconst (v := (nI 0)) hx hb dX5_readItem_0 (by decide) ?_
  refine lv_istore_n (lv' := [(3, .int (nI 0)), (0, .ref (td 0)), (1, .ref (ad 0)), (2, .int (nI it))]) hx hb dX5_readItem_1 rfl hl (by decide) rfl (fun ls hl => ?_)
  refine lv_aload_n hx hb dX5_readItem_2 rfl (lv_at hl 1 rfl) ?_
  refine va_ldcS hx hb hown hE.2.1 dX5_readItem_3 ?_
  refine ca_ViE (C := RX5) (rest := []) (wr := tkw G ad a r) (EX_st (sk 0) (sv 0) (sln 0) (fun j => nI (sch 0 j))) hE.1.1 F hX (mX5_isWord l G td z tl (sk 0) (sv 0) (sln 0) (sch 0) hZ hle (by decide) (sch_lt 0)) (cA_V hts kw_271 kw_2 kw_268 kw_270 kp_4 hdX5_isWord ⟨Nat.le_of_ble_eq_true rfl, Nat.le_of_ble_eq_true rfl⟩) (va_recv (ci := 4) (q0 := 0) hX.1 hP rfl rfl) rfl hl.1 rfl (Nat.le_of_ble_eq_true rfl) dX5_readItem_5 ⟨Nat.le_of_ble_eq_true rfl, Nat.le_of_ble_eq_true rfl⟩ hP hD hS hA (List.Perm.refl _) (fun r5 u5 H locs hp5 hP hD hS => ?_)
  subst hp5
  have hP : va_P G.1 vwCl (txw G td z tl ++ (tkw G ad a r)) H := hP
  have hD : va_D A (txw G td z tl ++ (tkw G ad a r)) := hD
  refine ti (y := bI (wdI z tl 0)) rfl ?_
  refine bv_eq (b := wdI z tl 0) (tgt := 32) hx hb dX5_readItem_8 (by decide) (fun c8 => ?_) (fun c8 => ?_)
  · refine lv_aload_n hx hb dX5_readItem_32 rfl (lv_at hl 1 rfl) ?_
    refine va_ldcS hx hb hown hE.2.2.1 dX5_readItem_33 ?_
    refine ca_ViE (C := RX5) (rest := []) (wr := tkw G ad a r) (EX_st (sk 1) (sv 1) (sln 1) (fun j => nI (sch 1 j))) hE.1.2.1 F hX (mX5_isWord l G td z tl (sk 1) (sv 1) (sln 1) (sch 1) hZ hle (by decide) (sch_lt 1)) (cA_V hts kw_271 kw_2 kw_268 kw_270 kp_4 hdX5_isWord ⟨Nat.le_of_ble_eq_true rfl, Nat.le_of_ble_eq_true rfl⟩) (va_recv (ci := 4) (q0 := 0) hX.1 hP rfl rfl) rfl hl.1 rfl (Nat.le_of_ble_eq_true rfl) dX5_readItem_35 ⟨Nat.le_of_ble_eq_true rfl, Nat.le_of_ble_eq_true rfl⟩ hP hD hS hA (List.Perm.refl _) (fun r35 u35 H locs hp35 hP hD hS => ?_)
    subst hp35
    have hP : va_P G.1 vwCl (txw G td z tl ++ (tkw G ad a r)) H := hP
    have hD : va_D A (txw G td z tl ++ (tkw G ad a r)) := hD
    refine ti (y := bI (wdI z tl 1)) rfl ?_
    refine bv_eq (b := wdI z tl 1) (tgt := 65) hx hb dX5_readItem_38 (by decide) (fun c38 => ?_) (fun c38 => ?_)
    · refine lv_aload_n hx hb dX5_readItem_65 rfl (lv_at hl 1 rfl) ?_
      refine va_ldcS hx hb hown hE.2.2.2.1 dX5_readItem_66 ?_
      refine ca_ViE (C := RX5) (rest := []) (wr := tkw G ad a r) (EX_st (sk 2) (sv 2) (sln 2) (fun j => nI (sch 2 j))) hE.1.2.2.1 F hX (mX5_isWord l G td z tl (sk 2) (sv 2) (sln 2) (sch 2) hZ hle (by decide) (sch_lt 2)) (cA_V hts kw_271 kw_2 kw_268 kw_270 kp_4 hdX5_isWord ⟨Nat.le_of_ble_eq_true rfl, Nat.le_of_ble_eq_true rfl⟩) (va_recv (ci := 4) (q0 := 0) hX.1 hP rfl rfl) rfl hl.1 rfl (Nat.le_of_ble_eq_true rfl) dX5_readItem_68 ⟨Nat.le_of_ble_eq_true rfl, Nat.le_of_ble_eq_true rfl⟩ hP hD hS hA (List.Perm.refl _) (fun r68 u68 H locs hp68 hP hD hS => ?_)
      subst hp68
      have hP : va_P G.1 vwCl (txw G td z tl ++ (tkw G ad a r)) H := hP
      have hD : va_D A (txw G td z tl ++ (tkw G ad a r)) := hD
      refine ti (y := bI (wdI z tl 2)) rfl ?_
      refine bv_eq (b := wdI z tl 2) (tgt := 83) hx hb dX5_readItem_71 (by decide) (fun c71 => ?_) (fun c71 => ?_)
      · refine lv_aload_n hx hb dX5_readItem_83 rfl (lv_at hl 1 rfl) ?_
        refine va_ldcS hx hb hown hE.2.2.2.2 dX5_readItem_84 ?_
        refine ca_ViE (C := RX5) (rest := []) (wr := tkw G ad a r) (EX_st (sk 3) (sv 3) (sln 3) (fun j => nI (sch 3 j))) hE.1.2.2.2 F hX (mX5_isWord l G td z tl (sk 3) (sv 3) (sln 3) (sch 3) hZ hle (by decide) (sch_lt 3)) (cA_V hts kw_271 kw_2 kw_268 kw_270 kp_4 hdX5_isWord ⟨Nat.le_of_ble_eq_true rfl, Nat.le_of_ble_eq_true rfl⟩) (va_recv (ci := 4) (q0 := 0) hX.1 hP rfl rfl) rfl hl.1 rfl (Nat.le_of_ble_eq_true rfl) dX5_readItem_86 ⟨Nat.le_of_ble_eq_true rfl, Nat.le_of_ble_eq_true rfl⟩ hP hD hS hA (List.Perm.refl _) (fun r86 u86 H locs hp86 hP hD hS => ?_)
        subst hp86
        have hP : va_P G.1 vwCl (txw G td z tl ++ (tkw G ad a r)) H := hP
        have hD : va_D A (txw G td z tl ++ (tkw G ad a r)) := hD
        refine ti (y := bI (wdI z tl 3)) rfl ?_
        refine bv_eq (b := wdI z tl 3) (tgt := 115) hx hb dX5_readItem_89 (by decide) (fun c89 => ?_) (fun c89 => ?_)
        · refine lv_iload_n hx hb dX5_readItem_115 rfl (lv_at hl 0 rfl) ?_
          refine nv_zeq (x := 0) (tgt := 130) hx hb dX5_readItem_116 (by decide) (by decide) (fun _ => ?_) (fun h9 => absurd h9 (by decide))
          refine lv_iconst (v := (nI 0)) hx hb dX5_readItem_130 (by decide) ?_
          have e6 : ri1 z a r tl it = (false, z, a, r) := by unfold ri1; rw [if_neg (by rw [c8]; decide), if_neg (by rw [c38]; decide), if_neg (by rw [c71]; decide), if_neg (by rw [c89]; decide)]
          have e5 : (ri1 z a r tl it).1 = false := by rw [e6]
          have e7 : riP z a r tl it = (false, z, a, r) := by unfold riP; rw [if_neg (by rw [e5]; decide), e6]
          have hP : va_P G.1 vwCl (txw G td (riP z a r tl it).2.1 tl ++ (tkw G ad (riP z a r tl it).2.2.1 (riP z a r tl it).2.2.2)) H := by rw [e7]; exact hP
          have hD : va_D A (txw G td (riP z a r tl it).2.1 tl ++ (tkw G ad (riP z a r tl it).2.2.1 (riP z a r tl it).2.2.2)) := by rw [e7]; exact hD
          exact re_z (v := (nI 0)) hx hb hr hlocks hS () hP hD (by rw [e7]; rfl) (by decide) dX5_readItem_131
        · refine lv_aload_n hx hb dX5_readItem_92 rfl (lv_at hl 2 rfl) ?_
          refine va_get (D := G.1) (ci := 3) (v := .int (nI (a 3))) (C := RX4) (T := TX4) (N := 12) hx hb hts inA4 hown hX.1 hP 2 rfl rfl 3 (by decide) (hts _ kw_79) (fun _ h9 => h9) rfl dX5_readItem_93 ?_
          refine lv_bipush (v := (nI 12)) hx hb dX5_readItem_96 (by decide) ?_
          refine nv_ge (x := a 3) (y := 12) (tgt := 113) hx hb dX5_readItem_98 (by decide) (by omega) (by decide) (fun c98 => ?_) (fun c98 => ?_)
          · refine lv_iconst (v := (nI 0)) hx hb dX5_readItem_113 (by decide) ?_
            refine lv_istore_n (lv' := [(3, .int (nI 0)), (0, .ref (td 0)), (1, .ref (ad 0)), (2, .int (nI it))]) hx hb dX5_readItem_114 rfl hl (by decide) rfl (fun ls hl => ?_)
            refine lv_iload_n hx hb dX5_readItem_115 rfl (lv_at hl 0 rfl) ?_
            refine nv_zeq (x := 0) (tgt := 130) hx hb dX5_readItem_116 (by decide) (by decide) (fun _ => ?_) (fun h9 => absurd h9 (by decide))
            refine lv_iconst (v := (nI 0)) hx hb dX5_readItem_130 (by decide) ?_
            have e6 : ri1 z a r tl it = (false, z, a, r) := by unfold ri1; rw [if_neg (by rw [c8]; decide), if_neg (by rw [c38]; decide), if_neg (by rw [c71]; decide), if_pos c89, if_neg (Nat.not_lt.mpr c98)]
            have e5 : (ri1 z a r tl it).1 = false := by rw [e6]
            have e7 : riP z a r tl it = (false, z, a, r) := by unfold riP; rw [if_neg (by rw [e5]; decide), e6]
            have hP : va_P G.1 vwCl (txw G td (riP z a r tl it).2.1 tl ++ (tkw G ad (riP z a r tl it).2.2.1 (riP z a r tl it).2.2.2)) H := by rw [e7]; exact hP
            have hD : va_D A (txw G td (riP z a r tl it).2.1 tl ++ (tkw G ad (riP z a r tl it).2.2.1 (riP z a r tl it).2.2.2)) := by rw [e7]; exact hD
            exact re_z (v := (nI 0)) hx hb hr hlocks hS () hP hD (by rw [e7]; rfl) (by decide) dX5_readItem_131
          · refine lv_aload_n hx hb dX5_readItem_101 rfl (lv_at hl 1 rfl) ?_
            refine lv_aload_n hx hb dX5_readItem_102 rfl (lv_at hl 2 rfl) ?_
            refine ca_Vi (ci := 4) (q := (RX5, TX5, 7)) (rest := []) (wr := ([] : va_W)) F hX (mX5_readLink l G td z tl ad a r hZ hT c98) (cA_V hts kw_342 kw_2 kw_339 kw_341 kp_9 hdX5_readLink ⟨Nat.le_of_ble_eq_true rfl, Nat.le_of_ble_eq_true rfl⟩) rfl rfl rfl hl.1 rfl (Nat.le_of_ble_eq_true rfl) dX5_readItem_103 ⟨Nat.le_of_ble_eq_true rfl, Nat.le_of_ble_eq_true rfl⟩ hP hD hS hA (pm_nil _) (fun r103 u103 H locs hp103 hP hD hS => ?_)
            have hP : va_P G.1 vwCl (txw G td ((lkP z a r tl).2.1) tl ++ (tkw G ad ((lkP z a r tl).2.2.1) ((lkP z a r tl).2.2.2))) H := wp_pm (pm_nil _).symm hP
            have hD : va_D A (txw G td ((lkP z a r tl).2.1) tl ++ (tkw G ad ((lkP z a r tl).2.2.1) ((lkP z a r tl).2.2.2))) := wd_pm (pm_nil _).symm hD
            subst hp103
            refine bv_eq (b := (lkP z a r tl).1) (tgt := 113) hx hb dX5_readItem_106 (by decide) (fun c106 => ?_) (fun c106 => ?_)
            · refine lv_iconst (v := (nI 0)) hx hb dX5_readItem_113 (by decide) ?_
              refine lv_istore_n (lv' := [(3, .int (nI 0)), (0, .ref (td 0)), (1, .ref (ad 0)), (2, .int (nI it))]) hx hb dX5_readItem_114 rfl hl (by decide) rfl (fun ls hl => ?_)
              refine lv_iload_n hx hb dX5_readItem_115 rfl (lv_at hl 0 rfl) ?_
              refine nv_zeq (x := 0) (tgt := 130) hx hb dX5_readItem_116 (by decide) (by decide) (fun _ => ?_) (fun h9 => absurd h9 (by decide))
              refine lv_iconst (v := (nI 0)) hx hb dX5_readItem_130 (by decide) ?_
              have e6 : ri1 z a r tl it = lkP z a r tl := by unfold ri1; rw [if_neg (by rw [c8]; decide), if_neg (by rw [c38]; decide), if_neg (by rw [c71]; decide), if_pos c89, if_pos c98]
              have e5 : (ri1 z a r tl it).1 = false := by rw [e6]; exact c106
              have e7 : riP z a r tl it = (false, (lkP z a r tl).2.1, (lkP z a r tl).2.2.1, (lkP z a r tl).2.2.2) := by unfold riP; rw [if_neg (by rw [e5]; decide), e6]
              have hP : va_P G.1 vwCl (txw G td (riP z a r tl it).2.1 tl ++ (tkw G ad (riP z a r tl it).2.2.1 (riP z a r tl it).2.2.2)) H := by rw [e7]; exact hP
              have hD : va_D A (txw G td (riP z a r tl it).2.1 tl ++ (tkw G ad (riP z a r tl it).2.2.1 (riP z a r tl it).2.2.2)) := by rw [e7]; exact hD
              exact re_z (v := (nI 0)) hx hb hr hlocks hS () hP hD (by rw [e7]; rfl) (by decide) dX5_readItem_131
            · refine lv_iconst (v := (nI 1)) hx hb dX5_readItem_109 (by decide) ?_
              refine lv_goto (tgt := 114) hx hb dX5_readItem_110 (by decide) ?_
              refine lv_istore_n (lv' := [(3, .int (nI 1)), (0, .ref (td 0)), (1, .ref (ad 0)), (2, .int (nI it))]) hx hb dX5_readItem_114 rfl hl (by decide) rfl (fun ls hl => ?_)
              refine lv_iload_n hx hb dX5_readItem_115 rfl (lv_at hl 0 rfl) ?_
              refine nv_zeq (x := 1) (tgt := 130) hx hb dX5_readItem_116 (by decide) (by decide) (fun h9 => absurd h9 (by decide)) (fun _ => ?_)
              refine lv_aload_n hx hb dX5_readItem_119 rfl (lv_at hl 1 rfl) ?_
              refine ca_Vi (ci := 4) (q := (RX5, TX5, 7)) (rest := []) (wr := tkw G ad ((lkP z a r tl).2.2.1) ((lkP z a r tl).2.2.2)) F hX (mX5_takeSemicolon l G td ((lkP z a r tl).2.1) tl  (by first | exact hZ.nd | exact hZ.sr | exact hZ.lm | exact hZ.lk)) (cA_V hts kw_365 kw_2 kw_362 kw_364 kp_10 hdX5_takeSemicolon ⟨Nat.le_of_ble_eq_true rfl, Nat.le_of_ble_eq_true rfl⟩) rfl rfl rfl hl.1 rfl (Nat.le_of_ble_eq_true rfl) dX5_readItem_120 ⟨Nat.le_of_ble_eq_true rfl, Nat.le_of_ble_eq_true rfl⟩ hP hD hS hA (List.Perm.refl _) (fun r120 u120 H locs hp120 hP hD hS => ?_)
              have hP : va_P G.1 vwCl (txw G td (tok ((lkP z a r tl).2.1) tl) tl ++ (tkw G ad ((lkP z a r tl).2.2.1) ((lkP z a r tl).2.2.2))) H := wp_pm (List.Perm.refl _).symm hP
              have hD : va_D A (txw G td (tok ((lkP z a r tl).2.1) tl) tl ++ (tkw G ad ((lkP z a r tl).2.2.1) ((lkP z a r tl).2.2.2))) := wd_pm (List.Perm.refl _).symm hD
              subst hp120
              refine bv_eq (b := decide (tok ((lkP z a r tl).2.1) tl 4 = 3)) (tgt := 130) hx hb dX5_readItem_123 (by decide) (fun c123 => ?_) (fun c123 => ?_)
              · refine lv_iconst (v := (nI 0)) hx hb dX5_readItem_130 (by decide) ?_
                have e6 : ri1 z a r tl it = lkP z a r tl := by unfold ri1; rw [if_neg (by rw [c8]; decide), if_neg (by rw [c38]; decide), if_neg (by rw [c71]; decide), if_pos c89, if_pos c98]
                have e5 : (ri1 z a r tl it).1 = true := by rw [e6]; exact c106
                have e7 : riP z a r tl it = (false, tok ((lkP z a r tl).2.1) tl, (lkP z a r tl).2.2.1, (lkP z a r tl).2.2.2) := by unfold riP; rw [if_pos e5, e6]; exact congrArg (fun x => (x, tok ((lkP z a r tl).2.1) tl, (lkP z a r tl).2.2.1, (lkP z a r tl).2.2.2)) c123
                have hP : va_P G.1 vwCl (txw G td (riP z a r tl it).2.1 tl ++ (tkw G ad (riP z a r tl it).2.2.1 (riP z a r tl it).2.2.2)) H := by rw [e7]; exact hP
                have hD : va_D A (txw G td (riP z a r tl it).2.1 tl ++ (tkw G ad (riP z a r tl it).2.2.1 (riP z a r tl it).2.2.2)) := by rw [e7]; exact hD
                exact re_z (v := (nI 0)) hx hb hr hlocks hS () hP hD (by rw [e7]; rfl) (by decide) dX5_readItem_131
              · refine lv_iconst (v := (nI 1)) hx hb dX5_readItem_126 (by decide) ?_
                refine lv_goto (tgt := 131) hx hb dX5_readItem_127 (by decide) ?_
                have e6 : ri1 z a r tl it = lkP z a r tl := by unfold ri1; rw [if_neg (by rw [c8]; decide), if_neg (by rw [c38]; decide), if_neg (by rw [c71]; decide), if_pos c89, if_pos c98]
                have e5 : (ri1 z a r tl it).1 = true := by rw [e6]; exact c106
                have e7 : riP z a r tl it = (true, tok ((lkP z a r tl).2.1) tl, (lkP z a r tl).2.2.1, (lkP z a r tl).2.2.2) := by unfold riP; rw [if_pos e5, e6]; exact congrArg (fun x => (x, tok ((lkP z a r tl).2.1) tl, (lkP z a r tl).2.2.1, (lkP z a r tl).2.2.2)) c123
                have hP : va_P G.1 vwCl (txw G td (riP z a r tl it).2.1 tl ++ (tkw G ad (riP z a r tl it).2.2.1 (riP z a r tl it).2.2.2)) H := by rw [e7]; exact hP
                have hD : va_D A (txw G td (riP z a r tl it).2.1 tl ++ (tkw G ad (riP z a r tl it).2.2.1 (riP z a r tl it).2.2.2)) := by rw [e7]; exact hD
                exact re_z (v := (nI 1)) hx hb hr hlocks hS () hP hD (by rw [e7]; rfl) (by decide) dX5_readItem_131
      · refine lv_aload_n hx hb dX5_readItem_74 rfl (lv_at hl 1 rfl) ?_
        refine lv_aload_n hx hb dX5_readItem_75 rfl (lv_at hl 2 rfl) ?_
        refine ca_Vi (ci := 4) (q := (RX5, TX5, 7)) (rest := []) (wr := ([] : va_W)) F hX (mX5_readLimit l G td z tl ad a r hZ) (cA_V hts kw_337 kw_2 kw_334 kw_336 kp_8 hdX5_readLimit ⟨Nat.le_of_ble_eq_true rfl, Nat.le_of_ble_eq_true rfl⟩) rfl rfl rfl hl.1 rfl (Nat.le_of_ble_eq_true rfl) dX5_readItem_76 ⟨Nat.le_of_ble_eq_true rfl, Nat.le_of_ble_eq_true rfl⟩ hP hD hS hA (pm_nil _) (fun r76 u76 H locs hp76 hP hD hS => ?_)
        have hP : va_P G.1 vwCl (txw G td ((lmP z a tl).2.1) tl ++ (tkw G ad ((lmP z a tl).2.2) r)) H := wp_pm (pm_nil _).symm hP
        have hD : va_D A (txw G td ((lmP z a tl).2.1) tl ++ (tkw G ad ((lmP z a tl).2.2) r)) := wd_pm (pm_nil _).symm hD
        subst hp76
        refine lv_istore_n (lv' := [(3, .int (bI ((lmP z a tl).1))), (0, .ref (td 0)), (1, .ref (ad 0)), (2, .int (nI it))]) hx hb dX5_readItem_79 rfl hl (by decide) rfl (fun ls hl => ?_)
        refine lv_goto (tgt := 115) hx hb dX5_readItem_80 (by decide) ?_
        refine lv_iload_n hx hb dX5_readItem_115 rfl (lv_at hl 0 rfl) ?_
        refine bv_eq (b := (lmP z a tl).1) (tgt := 130) hx hb dX5_readItem_116 (by decide) (fun c116 => ?_) (fun c116 => ?_)
        · refine lv_iconst (v := (nI 0)) hx hb dX5_readItem_130 (by decide) ?_
          have e6 : ri1 z a r tl it = ((lmP z a tl).1, (lmP z a tl).2.1, (lmP z a tl).2.2, r) := by unfold ri1; rw [if_neg (by rw [c8]; decide), if_neg (by rw [c38]; decide), if_pos c71]
          have e5 : (ri1 z a r tl it).1 = false := by rw [e6]; exact c116
          have e7 : riP z a r tl it = (false, (lmP z a tl).2.1, (lmP z a tl).2.2, r) := by unfold riP; rw [if_neg (by rw [e5]; decide), e6]
          have hP : va_P G.1 vwCl (txw G td (riP z a r tl it).2.1 tl ++ (tkw G ad (riP z a r tl it).2.2.1 (riP z a r tl it).2.2.2)) H := by rw [e7]; exact hP
          have hD : va_D A (txw G td (riP z a r tl it).2.1 tl ++ (tkw G ad (riP z a r tl it).2.2.1 (riP z a r tl it).2.2.2)) := by rw [e7]; exact hD
          exact re_z (v := (nI 0)) hx hb hr hlocks hS () hP hD (by rw [e7]; rfl) (by decide) dX5_readItem_131
        · refine lv_aload_n hx hb dX5_readItem_119 rfl (lv_at hl 1 rfl) ?_
          refine ca_Vi (ci := 4) (q := (RX5, TX5, 7)) (rest := []) (wr := tkw G ad ((lmP z a tl).2.2) r) F hX (mX5_takeSemicolon l G td ((lmP z a tl).2.1) tl  (by first | exact hZ.nd | exact hZ.sr | exact hZ.lm | exact hZ.lk)) (cA_V hts kw_365 kw_2 kw_362 kw_364 kp_10 hdX5_takeSemicolon ⟨Nat.le_of_ble_eq_true rfl, Nat.le_of_ble_eq_true rfl⟩) rfl rfl rfl hl.1 rfl (Nat.le_of_ble_eq_true rfl) dX5_readItem_120 ⟨Nat.le_of_ble_eq_true rfl, Nat.le_of_ble_eq_true rfl⟩ hP hD hS hA (List.Perm.refl _) (fun r120 u120 H locs hp120 hP hD hS => ?_)
          have hP : va_P G.1 vwCl (txw G td (tok ((lmP z a tl).2.1) tl) tl ++ (tkw G ad ((lmP z a tl).2.2) r)) H := wp_pm (List.Perm.refl _).symm hP
          have hD : va_D A (txw G td (tok ((lmP z a tl).2.1) tl) tl ++ (tkw G ad ((lmP z a tl).2.2) r)) := wd_pm (List.Perm.refl _).symm hD
          subst hp120
          refine bv_eq (b := decide (tok ((lmP z a tl).2.1) tl 4 = 3)) (tgt := 130) hx hb dX5_readItem_123 (by decide) (fun c123 => ?_) (fun c123 => ?_)
          · refine lv_iconst (v := (nI 0)) hx hb dX5_readItem_130 (by decide) ?_
            have e6 : ri1 z a r tl it = ((lmP z a tl).1, (lmP z a tl).2.1, (lmP z a tl).2.2, r) := by unfold ri1; rw [if_neg (by rw [c8]; decide), if_neg (by rw [c38]; decide), if_pos c71]
            have e5 : (ri1 z a r tl it).1 = true := by rw [e6]; exact c116
            have e7 : riP z a r tl it = (false, tok ((lmP z a tl).2.1) tl, (lmP z a tl).2.2, r) := by unfold riP; rw [if_pos e5, e6]; exact congrArg (fun x => (x, tok ((lmP z a tl).2.1) tl, (lmP z a tl).2.2, r)) c123
            have hP : va_P G.1 vwCl (txw G td (riP z a r tl it).2.1 tl ++ (tkw G ad (riP z a r tl it).2.2.1 (riP z a r tl it).2.2.2)) H := by rw [e7]; exact hP
            have hD : va_D A (txw G td (riP z a r tl it).2.1 tl ++ (tkw G ad (riP z a r tl it).2.2.1 (riP z a r tl it).2.2.2)) := by rw [e7]; exact hD
            exact re_z (v := (nI 0)) hx hb hr hlocks hS () hP hD (by rw [e7]; rfl) (by decide) dX5_readItem_131
          · refine lv_iconst (v := (nI 1)) hx hb dX5_readItem_126 (by decide) ?_
            refine lv_goto (tgt := 131) hx hb dX5_readItem_127 (by decide) ?_
            have e6 : ri1 z a r tl it = ((lmP z a tl).1, (lmP z a tl).2.1, (lmP z a tl).2.2, r) := by unfold ri1; rw [if_neg (by rw [c8]; decide), if_neg (by rw [c38]; decide), if_pos c71]
            have e5 : (ri1 z a r tl it).1 = true := by rw [e6]; exact c116
            have e7 : riP z a r tl it = (true, tok ((lmP z a tl).2.1) tl, (lmP z a tl).2.2, r) := by unfold riP; rw [if_pos e5, e6]; exact congrArg (fun x => (x, tok ((lmP z a tl).2.1) tl, (lmP z a tl).2.2, r)) c123
            have hP : va_P G.1 vwCl (txw G td (riP z a r tl it).2.1 tl ++ (tkw G ad (riP z a r tl it).2.2.1 (riP z a r tl it).2.2.2)) H := by rw [e7]; exact hP
            have hD : va_D A (txw G td (riP z a r tl it).2.1 tl ++ (tkw G ad (riP z a r tl it).2.2.1 (riP z a r tl it).2.2.2)) := by rw [e7]; exact hD
            exact re_z (v := (nI 1)) hx hb hr hlocks hS () hP hD (by rw [e7]; rfl) (by decide) dX5_readItem_131
    · refine lv_aload_n hx hb dX5_readItem_41 rfl (lv_at hl 1 rfl) ?_
      refine va_get (D := G.1) (ci := 4) (v := .int (nI (z 6))) (C := RX5) (T := TX5) (N := 7) hx hb hts inA5 hown hX.1 hP 0 rfl rfl 6 (by decide) (hts _ kw_39) (fun _ h9 => h9) rfl dX5_readItem_42 ?_
      refine nv_zne (x := z 6) (tgt := 60) hx hb dX5_readItem_45 (by decide) (by omega) (fun c45 => ?_) (fun c45 => ?_)
      · refine lv_iconst (v := (nI 0)) hx hb dX5_readItem_60 (by decide) ?_
        refine lv_istore_n (lv' := [(3, .int (nI 0)), (0, .ref (td 0)), (1, .ref (ad 0)), (2, .int (nI it))]) hx hb dX5_readItem_61 rfl hl (by decide) rfl (fun ls hl => ?_)
        refine lv_goto (tgt := 115) hx hb dX5_readItem_62 (by decide) ?_
        refine lv_iload_n hx hb dX5_readItem_115 rfl (lv_at hl 0 rfl) ?_
        refine nv_zeq (x := 0) (tgt := 130) hx hb dX5_readItem_116 (by decide) (by decide) (fun _ => ?_) (fun h9 => absurd h9 (by decide))
        refine lv_iconst (v := (nI 0)) hx hb dX5_readItem_130 (by decide) ?_
        have e6 : ri1 z a r tl it = (false, z, a, r) := by unfold ri1; rw [if_neg (by rw [c8]; decide), if_pos c38, if_neg c45]
        have e5 : (ri1 z a r tl it).1 = false := by rw [e6]
        have e7 : riP z a r tl it = (false, z, a, r) := by unfold riP; rw [if_neg (by rw [e5]; decide), e6]
        have hP : va_P G.1 vwCl (txw G td (riP z a r tl it).2.1 tl ++ (tkw G ad (riP z a r tl it).2.2.1 (riP z a r tl it).2.2.2)) H := by rw [e7]; exact hP
        have hD : va_D A (txw G td (riP z a r tl it).2.1 tl ++ (tkw G ad (riP z a r tl it).2.2.1 (riP z a r tl it).2.2.2)) := by rw [e7]; exact hD
        exact re_z (v := (nI 0)) hx hb hr hlocks hS () hP hD (by rw [e7]; rfl) (by decide) dX5_readItem_131
      · refine lv_aload_n hx hb dX5_readItem_48 rfl (lv_at hl 1 rfl) ?_
        refine lv_aload_n hx hb dX5_readItem_49 rfl (lv_at hl 2 rfl) ?_
        refine ca_Vi (ci := 4) (q := (RX5, TX5, 7)) (rest := []) (wr := ([] : va_W)) F hX (mX5_readSource l G td z tl ad a r hZ (by omega) (by omega)) (cA_V hts kw_332 kw_2 kw_329 kw_331 kp_7 hdX5_readSource ⟨Nat.le_of_ble_eq_true rfl, Nat.le_of_ble_eq_true rfl⟩) rfl rfl rfl hl.1 rfl (Nat.le_of_ble_eq_true rfl) dX5_readItem_50 ⟨Nat.le_of_ble_eq_true rfl, Nat.le_of_ble_eq_true rfl⟩ hP hD hS hA (pm_nil _) (fun r50 u50 H locs hp50 hP hD hS => ?_)
        have hP : va_P G.1 vwCl (txw G td ((srP z a tl).2.1) tl ++ (tkw G ad ((srP z a tl).2.2) r)) H := wp_pm (pm_nil _).symm hP
        have hD : va_D A (txw G td ((srP z a tl).2.1) tl ++ (tkw G ad ((srP z a tl).2.2) r)) := wd_pm (pm_nil _).symm hD
        subst hp50
        refine bv_eq (b := (srP z a tl).1) (tgt := 60) hx hb dX5_readItem_53 (by decide) (fun c53 => ?_) (fun c53 => ?_)
        · refine lv_iconst (v := (nI 0)) hx hb dX5_readItem_60 (by decide) ?_
          refine lv_istore_n (lv' := [(3, .int (nI 0)), (0, .ref (td 0)), (1, .ref (ad 0)), (2, .int (nI it))]) hx hb dX5_readItem_61 rfl hl (by decide) rfl (fun ls hl => ?_)
          refine lv_goto (tgt := 115) hx hb dX5_readItem_62 (by decide) ?_
          refine lv_iload_n hx hb dX5_readItem_115 rfl (lv_at hl 0 rfl) ?_
          refine nv_zeq (x := 0) (tgt := 130) hx hb dX5_readItem_116 (by decide) (by decide) (fun _ => ?_) (fun h9 => absurd h9 (by decide))
          refine lv_iconst (v := (nI 0)) hx hb dX5_readItem_130 (by decide) ?_
          have e6 : ri1 z a r tl it = ((srP z a tl).1, (srP z a tl).2.1, (srP z a tl).2.2, r) := by unfold ri1; rw [if_neg (by rw [c8]; decide), if_pos c38, if_pos c45]
          have e5 : (ri1 z a r tl it).1 = false := by rw [e6]; exact c53
          have e7 : riP z a r tl it = (false, (srP z a tl).2.1, (srP z a tl).2.2, r) := by unfold riP; rw [if_neg (by rw [e5]; decide), e6]
          have hP : va_P G.1 vwCl (txw G td (riP z a r tl it).2.1 tl ++ (tkw G ad (riP z a r tl it).2.2.1 (riP z a r tl it).2.2.2)) H := by rw [e7]; exact hP
          have hD : va_D A (txw G td (riP z a r tl it).2.1 tl ++ (tkw G ad (riP z a r tl it).2.2.1 (riP z a r tl it).2.2.2)) := by rw [e7]; exact hD
          exact re_z (v := (nI 0)) hx hb hr hlocks hS () hP hD (by rw [e7]; rfl) (by decide) dX5_readItem_131
        · refine lv_iconst (v := (nI 1)) hx hb dX5_readItem_56 (by decide) ?_
          refine lv_goto (tgt := 61) hx hb dX5_readItem_57 (by decide) ?_
          refine lv_istore_n (lv' := [(3, .int (nI 1)), (0, .ref (td 0)), (1, .ref (ad 0)), (2, .int (nI it))]) hx hb dX5_readItem_61 rfl hl (by decide) rfl (fun ls hl => ?_)
          refine lv_goto (tgt := 115) hx hb dX5_readItem_62 (by decide) ?_
          refine lv_iload_n hx hb dX5_readItem_115 rfl (lv_at hl 0 rfl) ?_
          refine nv_zeq (x := 1) (tgt := 130) hx hb dX5_readItem_116 (by decide) (by decide) (fun h9 => absurd h9 (by decide)) (fun _ => ?_)
          refine lv_aload_n hx hb dX5_readItem_119 rfl (lv_at hl 1 rfl) ?_
          refine ca_Vi (ci := 4) (q := (RX5, TX5, 7)) (rest := []) (wr := tkw G ad ((srP z a tl).2.2) r) F hX (mX5_takeSemicolon l G td ((srP z a tl).2.1) tl  (by first | exact hZ.nd | exact hZ.sr | exact hZ.lm | exact hZ.lk)) (cA_V hts kw_365 kw_2 kw_362 kw_364 kp_10 hdX5_takeSemicolon ⟨Nat.le_of_ble_eq_true rfl, Nat.le_of_ble_eq_true rfl⟩) rfl rfl rfl hl.1 rfl (Nat.le_of_ble_eq_true rfl) dX5_readItem_120 ⟨Nat.le_of_ble_eq_true rfl, Nat.le_of_ble_eq_true rfl⟩ hP hD hS hA (List.Perm.refl _) (fun r120 u120 H locs hp120 hP hD hS => ?_)
          have hP : va_P G.1 vwCl (txw G td (tok ((srP z a tl).2.1) tl) tl ++ (tkw G ad ((srP z a tl).2.2) r)) H := wp_pm (List.Perm.refl _).symm hP
          have hD : va_D A (txw G td (tok ((srP z a tl).2.1) tl) tl ++ (tkw G ad ((srP z a tl).2.2) r)) := wd_pm (List.Perm.refl _).symm hD
          subst hp120
          refine bv_eq (b := decide (tok ((srP z a tl).2.1) tl 4 = 3)) (tgt := 130) hx hb dX5_readItem_123 (by decide) (fun c123 => ?_) (fun c123 => ?_)
          · refine lv_iconst (v := (nI 0)) hx hb dX5_readItem_130 (by decide) ?_
            have e6 : ri1 z a r tl it = ((srP z a tl).1, (srP z a tl).2.1, (srP z a tl).2.2, r) := by unfold ri1; rw [if_neg (by rw [c8]; decide), if_pos c38, if_pos c45]
            have e5 : (ri1 z a r tl it).1 = true := by rw [e6]; exact c53
            have e7 : riP z a r tl it = (false, tok ((srP z a tl).2.1) tl, (srP z a tl).2.2, r) := by unfold riP; rw [if_pos e5, e6]; exact congrArg (fun x => (x, tok ((srP z a tl).2.1) tl, (srP z a tl).2.2, r)) c123
            have hP : va_P G.1 vwCl (txw G td (riP z a r tl it).2.1 tl ++ (tkw G ad (riP z a r tl it).2.2.1 (riP z a r tl it).2.2.2)) H := by rw [e7]; exact hP
            have hD : va_D A (txw G td (riP z a r tl it).2.1 tl ++ (tkw G ad (riP z a r tl it).2.2.1 (riP z a r tl it).2.2.2)) := by rw [e7]; exact hD
            exact re_z (v := (nI 0)) hx hb hr hlocks hS () hP hD (by rw [e7]; rfl) (by decide) dX5_readItem_131
          · refine lv_iconst (v := (nI 1)) hx hb dX5_readItem_126 (by decide) ?_
            refine lv_goto (tgt := 131) hx hb dX5_readItem_127 (by decide) ?_
            have e6 : ri1 z a r tl it = ((srP z a tl).1, (srP z a tl).2.1, (srP z a tl).2.2, r) := by unfold ri1; rw [if_neg (by rw [c8]; decide), if_pos c38, if_pos c45]
            have e5 : (ri1 z a r tl it).1 = true := by rw [e6]; exact c53
            have e7 : riP z a r tl it = (true, tok ((srP z a tl).2.1) tl, (srP z a tl).2.2, r) := by unfold riP; rw [if_pos e5, e6]; exact congrArg (fun x => (x, tok ((srP z a tl).2.1) tl, (srP z a tl).2.2, r)) c123
            have hP : va_P G.1 vwCl (txw G td (riP z a r tl it).2.1 tl ++ (tkw G ad (riP z a r tl it).2.2.1 (riP z a r tl it).2.2.2)) H := by rw [e7]; exact hP
            have hD : va_D A (txw G td (riP z a r tl it).2.1 tl ++ (tkw G ad (riP z a r tl it).2.2.1 (riP z a r tl it).2.2.2)) := by rw [e7]; exact hD
            exact re_z (v := (nI 1)) hx hb hr hlocks hS () hP hD (by rw [e7]; rfl) (by decide) dX5_readItem_131
  · refine lv_iload_n hx hb dX5_readItem_11 rfl (lv_at hl 3 rfl) ?_
    refine nv_zne (x := it) (tgt := 27) hx hb dX5_readItem_12 (by decide) (by omega) (fun c12 => ?_) (fun c12 => ?_)
    · refine lv_iconst (v := (nI 0)) hx hb dX5_readItem_27 (by decide) ?_
      refine lv_istore_n (lv' := [(3, .int (nI 0)), (0, .ref (td 0)), (1, .ref (ad 0)), (2, .int (nI it))]) hx hb dX5_readItem_28 rfl hl (by decide) rfl (fun ls hl => ?_)
      refine lv_goto (tgt := 115) hx hb dX5_readItem_29 (by decide) ?_
      refine lv_iload_n hx hb dX5_readItem_115 rfl (lv_at hl 0 rfl) ?_
      refine nv_zeq (x := 0) (tgt := 130) hx hb dX5_readItem_116 (by decide) (by decide) (fun _ => ?_) (fun h9 => absurd h9 (by decide))
      refine lv_iconst (v := (nI 0)) hx hb dX5_readItem_130 (by decide) ?_
      have e6 : ri1 z a r tl it = (false, z, a, r) := by unfold ri1; rw [if_pos c8, if_neg c12]
      have e5 : (ri1 z a r tl it).1 = false := by rw [e6]
      have e7 : riP z a r tl it = (false, z, a, r) := by unfold riP; rw [if_neg (by rw [e5]; decide), e6]
      have hP : va_P G.1 vwCl (txw G td (riP z a r tl it).2.1 tl ++ (tkw G ad (riP z a r tl it).2.2.1 (riP z a r tl it).2.2.2)) H := by rw [e7]; exact hP
      have hD : va_D A (txw G td (riP z a r tl it).2.1 tl ++ (tkw G ad (riP z a r tl it).2.2.1 (riP z a r tl it).2.2.2)) := by rw [e7]; exact hD
      exact re_z (v := (nI 0)) hx hb hr hlocks hS () hP hD (by rw [e7]; rfl) (by decide) dX5_readItem_131
    · refine lv_aload_n hx hb dX5_readItem_15 rfl (lv_at hl 1 rfl) ?_
      refine lv_aload_n hx hb dX5_readItem_16 rfl (lv_at hl 2 rfl) ?_
      refine ca_Vi (ci := 4) (q := (RX5, TX5, 7)) (rest := []) (wr := ([] : va_W)) F hX (mX5_readNodes l G td z tl ad a r hZ) (cA_V hts kw_323 kw_2 kw_320 kw_322 kp_5 hdX5_readNodes ⟨Nat.le_of_ble_eq_true rfl, Nat.le_of_ble_eq_true rfl⟩) rfl rfl rfl hl.1 rfl (Nat.le_of_ble_eq_true rfl) dX5_readItem_17 ⟨Nat.le_of_ble_eq_true rfl, Nat.le_of_ble_eq_true rfl⟩ hP hD hS hA (pm_nil _) (fun r17 u17 H locs hp17 hP hD hS => ?_)
      have hP : va_P G.1 vwCl (txw G td ((ndP z a tl).2.1) tl ++ (tkw G ad ((ndP z a tl).2.2) r)) H := wp_pm (pm_nil _).symm hP
      have hD : va_D A (txw G td ((ndP z a tl).2.1) tl ++ (tkw G ad ((ndP z a tl).2.2) r)) := wd_pm (pm_nil _).symm hD
      subst hp17
      refine bv_eq (b := (ndP z a tl).1) (tgt := 27) hx hb dX5_readItem_20 (by decide) (fun c20 => ?_) (fun c20 => ?_)
      · refine lv_iconst (v := (nI 0)) hx hb dX5_readItem_27 (by decide) ?_
        refine lv_istore_n (lv' := [(3, .int (nI 0)), (0, .ref (td 0)), (1, .ref (ad 0)), (2, .int (nI it))]) hx hb dX5_readItem_28 rfl hl (by decide) rfl (fun ls hl => ?_)
        refine lv_goto (tgt := 115) hx hb dX5_readItem_29 (by decide) ?_
        refine lv_iload_n hx hb dX5_readItem_115 rfl (lv_at hl 0 rfl) ?_
        refine nv_zeq (x := 0) (tgt := 130) hx hb dX5_readItem_116 (by decide) (by decide) (fun _ => ?_) (fun h9 => absurd h9 (by decide))
        refine lv_iconst (v := (nI 0)) hx hb dX5_readItem_130 (by decide) ?_
        have e6 : ri1 z a r tl it = ((ndP z a tl).1, (ndP z a tl).2.1, (ndP z a tl).2.2, r) := by unfold ri1; rw [if_pos c8, if_pos c12]
        have e5 : (ri1 z a r tl it).1 = false := by rw [e6]; exact c20
        have e7 : riP z a r tl it = (false, (ndP z a tl).2.1, (ndP z a tl).2.2, r) := by unfold riP; rw [if_neg (by rw [e5]; decide), e6]
        have hP : va_P G.1 vwCl (txw G td (riP z a r tl it).2.1 tl ++ (tkw G ad (riP z a r tl it).2.2.1 (riP z a r tl it).2.2.2)) H := by rw [e7]; exact hP
        have hD : va_D A (txw G td (riP z a r tl it).2.1 tl ++ (tkw G ad (riP z a r tl it).2.2.1 (riP z a r tl it).2.2.2)) := by rw [e7]; exact hD
        exact re_z (v := (nI 0)) hx hb hr hlocks hS () hP hD (by rw [e7]; rfl) (by decide) dX5_readItem_131
      · refine lv_iconst (v := (nI 1)) hx hb dX5_readItem_23 (by decide) ?_
        refine lv_goto (tgt := 28) hx hb dX5_readItem_24 (by decide) ?_
        refine lv_istore_n (lv' := [(3, .int (nI 1)), (0, .ref (td 0)), (1, .ref (ad 0)), (2, .int (nI it))]) hx hb dX5_readItem_28 rfl hl (by decide) rfl (fun ls hl => ?_)
        refine lv_goto (tgt := 115) hx hb dX5_readItem_29 (by decide) ?_
        refine lv_iload_n hx hb dX5_readItem_115 rfl (lv_at hl 0 rfl) ?_
        refine nv_zeq (x := 1) (tgt := 130) hx hb dX5_readItem_116 (by decide) (by decide) (fun h9 => absurd h9 (by decide)) (fun _ => ?_)
        refine lv_aload_n hx hb dX5_readItem_119 rfl (lv_at hl 1 rfl) ?_
        refine ca_Vi (ci := 4) (q := (RX5, TX5, 7)) (rest := []) (wr := tkw G ad ((ndP z a tl).2.2) r) F hX (mX5_takeSemicolon l G td ((ndP z a tl).2.1) tl  (by first | exact hZ.nd | exact hZ.sr | exact hZ.lm | exact hZ.lk)) (cA_V hts kw_365 kw_2 kw_362 kw_364 kp_10 hdX5_takeSemicolon ⟨Nat.le_of_ble_eq_true rfl, Nat.le_of_ble_eq_true rfl⟩) rfl rfl rfl hl.1 rfl (Nat.le_of_ble_eq_true rfl) dX5_readItem_120 ⟨Nat.le_of_ble_eq_true rfl, Nat.le_of_ble_eq_true rfl⟩ hP hD hS hA (List.Perm.refl _) (fun r120 u120 H locs hp120 hP hD hS => ?_)
        have hP : va_P G.1 vwCl (txw G td (tok ((ndP z a tl).2.1) tl) tl ++ (tkw G ad ((ndP z a tl).2.2) r)) H := wp_pm (List.Perm.refl _).symm hP
        have hD : va_D A (txw G td (tok ((ndP z a tl).2.1) tl) tl ++ (tkw G ad ((ndP z a tl).2.2) r)) := wd_pm (List.Perm.refl _).symm hD
        subst hp120
        refine bv_eq (b := decide (tok ((ndP z a tl).2.1) tl 4 = 3)) (tgt := 130) hx hb dX5_readItem_123 (by decide) (fun c123 => ?_) (fun c123 => ?_)
        · refine lv_iconst (v := (nI 0)) hx hb dX5_readItem_130 (by decide) ?_
          have e6 : ri1 z a r tl it = ((ndP z a tl).1, (ndP z a tl).2.1, (ndP z a tl).2.2, r) := by unfold ri1; rw [if_pos c8, if_pos c12]
          have e5 : (ri1 z a r tl it).1 = true := by rw [e6]; exact c20
          have e7 : riP z a r tl it = (false, tok ((ndP z a tl).2.1) tl, (ndP z a tl).2.2, r) := by unfold riP; rw [if_pos e5, e6]; exact congrArg (fun x => (x, tok ((ndP z a tl).2.1) tl, (ndP z a tl).2.2, r)) c123
          have hP : va_P G.1 vwCl (txw G td (riP z a r tl it).2.1 tl ++ (tkw G ad (riP z a r tl it).2.2.1 (riP z a r tl it).2.2.2)) H := by rw [e7]; exact hP
          have hD : va_D A (txw G td (riP z a r tl it).2.1 tl ++ (tkw G ad (riP z a r tl it).2.2.1 (riP z a r tl it).2.2.2)) := by rw [e7]; exact hD
          exact re_z (v := (nI 0)) hx hb hr hlocks hS () hP hD (by rw [e7]; rfl) (by decide) dX5_readItem_131
        · refine lv_iconst (v := (nI 1)) hx hb dX5_readItem_126 (by decide) ?_
          refine lv_goto (tgt := 131) hx hb dX5_readItem_127 (by decide) ?_
          have e6 : ri1 z a r tl it = ((ndP z a tl).1, (ndP z a tl).2.1, (ndP z a tl).2.2, r) := by unfold ri1; rw [if_pos c8, if_pos c12]
          have e5 : (ri1 z a r tl it).1 = true := by rw [e6]; exact c20
          have e7 : riP z a r tl it = (true, tok ((ndP z a tl).2.1) tl, (ndP z a tl).2.2, r) := by unfold riP; rw [if_pos e5, e6]; exact congrArg (fun x => (x, tok ((ndP z a tl).2.1) tl, (ndP z a tl).2.2, r)) c123
          have hP : va_P G.1 vwCl (txw G td (riP z a r tl it).2.1 tl ++ (tkw G ad (riP z a r tl it).2.2.1 (riP z a r tl it).2.2.2)) H := by rw [e7]; exact hP
          have hD : va_D A (txw G td (riP z a r tl it).2.1 tl ++ (tkw G ad (riP z a r tl it).2.2.1 (riP z a r tl it).2.2.2)) := by rw [e7]; exact hD
          exact re_z (v := (nI 1)) hx hb hr hlocks hS () hP hD (by rw [e7]; rfl) (by decide) dX5_readItem_131

theorem hdX5_read : hdOK yX5_read 1 := by decide +kernel
set_option maxHeartbeats 4000000 in
set_option maxRecDepth 100000 in
theorem mX5_read (l : Launch) (G : GG) (sk sv : Nat → Nat) (td z tl : Nat → Nat) (ad : Nat → Nat) (a : Nat → Nat) (r : Nat → Nat → Nat) (hZ : XB z tl) (h5 : ∀ j, r 0 j < 7) (h6 : ∀ j, r 1 j < 7) (h7 : ∀ j, r 2 j ≤ 9) (h12 : ∀ j, r 3 j < 7) : MiE (E4 sk sv) l yX5_read cX5_read 3 (some .int) (rmN 6 130) G [.ref (td 0), .ref (ad 0)] (txw G td z tl ++ (tkw G ad a r)) (fun (r9 : Int32) (_ : Unit) => r9 = rdI (rdA z a r tl)) (fun (_ : Unit) => txw G td (rdA z a r tl).2.2.1 tl ++ (tkw G ad (rdA z a r tl).2.2.2.1 (rdA z a r tl).2.2.2.2)) := by
  refine MiE.of (cc := cX5_read) (nL := 3) (by decide) (Nat.le_of_ble_eq_true rfl) ?_
  intro p e s m below meth c A ls F hr hlocks hnm hX hA hD hP hS hl hE
  have F : CallFix p m c cX5_read 3 s [.ref (td 0), .ref (ad 0)].toArray wA RX5 := F
  obtain ⟨hx, hb, hml, hown, hts⟩ := id F
  have hl : lv_has ls 3 [(0, .ref (td 0)), (1, .ref (ad 0))] := hl
  have hZ0 : XB (va_up (va_up z 3 0) 6 0) tl := by
    obtain ⟨x1, x2, x3, x4, x5, x6, x7⟩ := id hZ
    exact ⟨x1, x2, Nat.zero_le _, x4, x5, Nat.zero_le _, x7⟩
  refine lv_aload_n hx hb dX5_read_0 rfl (lv_at hl 1 rfl) ?_
  refine ca_Vv (ci := 3) (q := (RX4, TX4, 12)) (rest := []) (wr := txw G td z tl) F hX (mX4_beAsAtFirst l G ad a r  ) (cA_V hts kw_250 kw_3 kw_247 kw_248 kw_249 hdX4_beAsAtFirst ⟨Nat.le_of_ble_eq_true rfl, Nat.le_of_ble_eq_true rfl⟩) rfl rfl rfl hl.1 rfl (Nat.le_of_ble_eq_true rfl) dX5_read_1 ⟨Nat.le_of_ble_eq_true rfl, Nat.le_of_ble_eq_true rfl⟩ hP hD hS hA (List.perm_append_comm) (fun u1 H locs hp1 hP hD hS => ?_)
  have hP : va_P G.1 vwCl (txw G td z tl ++ (tkw G ad (va_up (va_up (va_up (va_up (va_up (va_up (va_up (va_up a 0 2) 1 0) 2 0) 3 0) 7 0) 8 0) 9 0) 10 0) r)) H := wp_pm (List.perm_append_comm).symm hP
  have hD : va_D A (txw G td z tl ++ (tkw G ad (va_up (va_up (va_up (va_up (va_up (va_up (va_up (va_up a 0 2) 1 0) 2 0) 3 0) 7 0) 8 0) 9 0) 10 0) r)) := wd_pm (List.perm_append_comm).symm hD
  refine lv_aload_n hx hb dX5_read_4 rfl (lv_at hl 0 rfl) ?_
  refine lv_iconst (v := (nI 0)) hx hb dX5_read_5 (by decide) ?_
  refine va_put (D := G.1) (ci := 4) (v := .int (nI 0)) (ty := .boolean) (C := RX5) (T := TX5) (N := 7) hx hb hts inA5 tyX5 tyX5_ok nmX5 hown hX.1 hP hD hS 0 rfl rfl 6 (by decide) (hts _ kw_39) (fun _ h9 => h9) rfl (by decide +kernel) (by decide) (by decide) (Nat.le_of_ble_eq_true rfl) dX5_read_6 (fun H locs hP hD hS => ?_)
  have hP : va_P G.1 vwCl (txw G td (va_up z 6 0) tl ++ (tkw G ad (va_up (va_up (va_up (va_up (va_up (va_up (va_up (va_up a 0 2) 1 0) 2 0) 3 0) 7 0) 8 0) 9 0) 10 0) r)) H := hP
  have hD : va_D A (txw G td (va_up z 6 0) tl ++ (tkw G ad (va_up (va_up (va_up (va_up (va_up (va_up (va_up (va_up a 0 2) 1 0) 2 0) 3 0) 7 0) 8 0) 9 0) 10 0) r)) := hD
  refine lv_aload_n hx hb dX5_read_9 rfl (lv_at hl 0 rfl) ?_
  refine lv_iconst (v := (nI 0)) hx hb dX5_read_10 (by decide) ?_
  refine va_put (D := G.1) (ci := 4) (v := .int (nI 0)) (ty := .int) (C := RX5) (T := TX5) (N := 7) hx hb hts inA5 tyX5 tyX5_ok nmX5 hown hX.1 hP hD hS 0 rfl rfl 3 (by decide) (hts _ kw_36) (fun _ h9 => h9) rfl (by decide +kernel) rfl rfl (Nat.le_of_ble_eq_true rfl) dX5_read_11 (fun H locs hP hD hS => ?_)
  have hP : va_P G.1 vwCl (txw G td (va_up (va_up z 3 0) 6 0) tl ++ (tkw G ad (va_up (va_up (va_up (va_up (va_up (va_up (va_up (va_up a 0 2) 1 0) 2 0) 3 0) 7 0) 8 0) 9 0) 10 0) r)) H := hP
  have hD : va_D A (txw G td (va_up (va_up z 3 0) 6 0) tl ++ (tkw G ad (va_up (va_up (va_up (va_up (va_up (va_up (va_up (va_up a 0 2) 1 0) 2 0) 3 0) 7 0) 8 0) 9 0) 10 0) r)) := hD
  refine lv_aload_n hx hb dX5_read_14 rfl (lv_at hl 0 rfl) ?_
  refine ca_Vv (ci := 4) (q := (RX5, TX5, 7)) (rest := []) (wr := tkw G ad (va_up (va_up (va_up (va_up (va_up (va_up (va_up (va_up a 0 2) 1 0) 2 0) 3 0) 7 0) 8 0) 9 0) 10 0) r) F hX (mX5_takeToken l G td (va_up (va_up z 3 0) 6 0) tl  hZ0) (cA_V hts kw_254 kw_2 kw_251 kw_253 kp_0 hdX5_takeToken ⟨Nat.le_of_ble_eq_true rfl, Nat.le_of_ble_eq_true rfl⟩) rfl rfl rfl hl.1 rfl (Nat.le_of_ble_eq_true rfl) dX5_read_15 ⟨Nat.le_of_ble_eq_true rfl, Nat.le_of_ble_eq_true rfl⟩ hP hD hS hA (List.Perm.refl _) (fun u15 H locs hp15 hP hD hS => ?_)
  have hP : va_P G.1 vwCl (txw G td (tok (va_up (va_up z 3 0) 6 0) tl) tl ++ (tkw G ad (va_up (va_up (va_up (va_up (va_up (va_up (va_up (va_up a 0 2) 1 0) 2 0) 3 0) 7 0) 8 0) 9 0) 10 0) r)) H := wp_pm (List.Perm.refl _).symm hP
  have hD : va_D A (txw G td (tok (va_up (va_up z 3 0) 6 0) tl) tl ++ (tkw G ad (va_up (va_up (va_up (va_up (va_up (va_up (va_up (va_up a 0 2) 1 0) 2 0) 3 0) 7 0) 8 0) 9 0) 10 0) r)) := wd_pm (List.Perm.refl _).symm hD
  refine lv_iconst (v := (nI 0)) hx hb dX5_read_18 (by decide) ?_
  refine lv_istore_n (lv' := [(2, .int (nI 0)), (0, .ref (td 0)), (1, .ref (ad 0))]) hx hb dX5_read_19 rfl hl (by decide) rfl (fun ls hl => ?_)
  have lp20 : ∀ (n20 : Nat) (i : Nat) (zz : Nat → Nat) (aa : Nat → Nat) (rr : Nat → Nat → Nat), (120 - i) < n20 → (i ≤ 120) → (XB zz tl) → (TI aa rr i) → (zz 2 ≤ zz 3) → (rdP tl (120 - i) i zz aa rr = (rdA z a r tl)) → ∀ (H : Heap) (locs : List Loc), va_P G.1 vwCl (txw G td zz tl ++ (tkw G ad aa rr)) H → va_D A (txw G td zz tl ++ (tkw G ad aa rr)) → va_S A s.heap H locs → ∀ (ls : Array Slot), lv_has ls 3 [(0, .ref (td 0)), (1, .ref (ad 0)), (2, .int (nI i))] → WI p l e (rmN 6 130) s m [.ref (td 0), .ref (ad 0)] below meth c H locs G A (fun (r9 : Int32) (_ : Unit) => r9 = rdI (rdA z a r tl)) (fun (_ : Unit) => txw G td (rdA z a r tl).2.2.1 tl ++ (tkw G ad (rdA z a r tl).2.2.2.1 (rdA z a r tl).2.2.2.2)) (F0 m 20 ls []) := by
    intro n20
    induction n20 with
    | zero => intro i zz aa rr h9; exact absurd h9 (Nat.not_lt_zero _)
    | succ n20 ih20 =>
      intro i zz aa rr hm20  hi hZ hTI hle hres H locs hP hD hS ls hl
      refine lv_aload_n hx hb dX5_read_20 rfl (lv_at hl 0 rfl) ?_
      refine va_get (D := G.1) (ci := 4) (v := .int (nI (zz 4))) (C := RX5) (T := TX5) (N := 7) hx hb hts inA5 hown hX.1 hP 0 rfl rfl 4 (by decide) (hts _ kw_37) (fun _ h9 => h9) rfl dX5_read_21 ?_
      refine nv_zeq (x := zz 4) (tgt := 60) hx hb dX5_read_24 (by decide) (by have := hZ.2.2.2.1; omega) (fun c24 => ?_) (fun c24 => ?_)
      · refine lv_iload_n hx hb dX5_read_60 rfl (lv_at hl 2 rfl) ?_
        have e7 : rdA z a r tl = (none, i, zz, aa, rr) := by rw [← hres]; cases h120 : 120 - i with | zero => rfl | succ q => rw [rdP, if_pos c24]
        have hP : va_P G.1 vwCl (txw G td (rdA z a r tl).2.2.1 tl ++ (tkw G ad (rdA z a r tl).2.2.2.1 (rdA z a r tl).2.2.2.2)) H := by rw [e7]; exact hP
        have hD : va_D A (txw G td (rdA z a r tl).2.2.1 tl ++ (tkw G ad (rdA z a r tl).2.2.2.1 (rdA z a r tl).2.2.2.2)) := by rw [e7]; exact hD
        exact re_i (v := (nI i)) hx hb hr hlocks hS () hP hD (by rw [e7]; rfl) dX5_read_61
      · refine lv_iload_n hx hb dX5_read_27 rfl (lv_at hl 2 rfl) ?_
        refine lv_bipush (v := (nI 120)) hx hb dX5_read_28 (by decide) ?_
        refine nv_ge (x := i) (y := 120) (tgt := 60) hx hb dX5_read_30 (by decide) (by omega) (by decide) (fun c30 => ?_) (fun c30 => ?_)
        · refine lv_iload_n hx hb dX5_read_60 rfl (lv_at hl 2 rfl) ?_
          have e7 : rdA z a r tl = (none, i, zz, aa, rr) := by have e9 : 120 - i = 0 := (by omega); rw [← hres, e9, rdP]
          have hP : va_P G.1 vwCl (txw G td (rdA z a r tl).2.2.1 tl ++ (tkw G ad (rdA z a r tl).2.2.2.1 (rdA z a r tl).2.2.2.2)) H := by rw [e7]; exact hP
          have hD : va_D A (txw G td (rdA z a r tl).2.2.1 tl ++ (tkw G ad (rdA z a r tl).2.2.2.1 (rdA z a r tl).2.2.2.2)) := by rw [e7]; exact hD
          exact re_i (v := (nI i)) hx hb hr hlocks hS () hP hD (by rw [e7]; rfl) dX5_read_61
        · refine lv_aload_n hx hb dX5_read_33 rfl (lv_at hl 0 rfl) ?_
          refine lv_aload_n hx hb dX5_read_34 rfl (lv_at hl 1 rfl) ?_
          refine lv_iload_n hx hb dX5_read_35 rfl (lv_at hl 2 rfl) ?_
          refine ca_ViE (C := RX5) (rest := []) (wr := ([] : va_W)) (E4_st sk sv) hE F hX (mX5_readItem l G sk sv td zz tl ad aa rr i hZ hTI hle (by omega)) (cA_V hts kw_266 kw_2 kw_263 kw_265 kp_3 hdX5_readItem ⟨Nat.le_of_ble_eq_true rfl, Nat.le_of_ble_eq_true rfl⟩) (va_recv (ci := 4) (q0 := 0) hX.1 hP rfl rfl) rfl hl.1 rfl (Nat.le_of_ble_eq_true rfl) dX5_read_36 ⟨Nat.le_of_ble_eq_true rfl, Nat.le_of_ble_eq_true rfl⟩ hP hD hS hA (pm_nil _) (fun r36 u36 H locs hp36 hP hD hS => ?_)
          subst hp36
          have hP : va_P G.1 vwCl (txw G td ((riP zz aa rr tl i).2.1) tl ++ (tkw G ad ((riP zz aa rr tl i).2.2.1) ((riP zz aa rr tl i).2.2.2))) H := wp_pm (pm_nil _).symm hP
          have hD : va_D A (txw G td ((riP zz aa rr tl i).2.1) tl ++ (tkw G ad ((riP zz aa rr tl i).2.2.1) ((riP zz aa rr tl i).2.2.2))) := wd_pm (pm_nil _).symm hD
          refine bv_ne (b := (riP zz aa rr tl i).1) (tgt := 50) hx hb dX5_read_39 (by decide) (fun c39 => ?_) (fun c39 => ?_)
          · refine lv_iinc (v := (nI (i + 1))) (lv' := [(2, .int (nI (i + 1))), (0, .ref (td 0)), (1, .ref (ad 0))]) hx hb dX5_read_50 hl (k := 2) rfl (qn_inc _) (by decide) rfl (fun ls hl => ?_)
            refine lv_aload_n hx hb dX5_read_53 rfl (lv_at hl 1 rfl) ?_
            refine ca_Vv (ci := 4) (q := (RX5, TX5, 7)) (rest := []) (wr := tkw G ad ((riP zz aa rr tl i).2.2.1) ((riP zz aa rr tl i).2.2.2)) F hX (mX5_takeToken l G td ((riP zz aa rr tl i).2.1) tl  hZ.ri) (cA_V hts kw_254 kw_2 kw_251 kw_253 kp_0 hdX5_takeToken ⟨Nat.le_of_ble_eq_true rfl, Nat.le_of_ble_eq_true rfl⟩) rfl rfl rfl hl.1 rfl (Nat.le_of_ble_eq_true rfl) dX5_read_54 ⟨Nat.le_of_ble_eq_true rfl, Nat.le_of_ble_eq_true rfl⟩ hP hD hS hA (List.Perm.refl _) (fun u54 H locs hp54 hP hD hS => ?_)
            have hP : va_P G.1 vwCl (txw G td (tok ((riP zz aa rr tl i).2.1) tl) tl ++ (tkw G ad ((riP zz aa rr tl i).2.2.1) ((riP zz aa rr tl i).2.2.2))) H := wp_pm (List.Perm.refl _).symm hP
            have hD : va_D A (txw G td (tok ((riP zz aa rr tl i).2.1) tl) tl ++ (tkw G ad ((riP zz aa rr tl i).2.2.1) ((riP zz aa rr tl i).2.2.2))) := wd_pm (List.Perm.refl _).symm hD
            refine lv_goto (tgt := 20) hx hb dX5_read_57 (by decide) ?_
            exact ih20 (i + 1) (tok ((riP zz aa rr tl i).2.1) tl) ((riP zz aa rr tl i).2.2.1) ((riP zz aa rr tl i).2.2.2) (by omega) (by omega) hZ.ri.tok hTI.ri (tok_le hZ.ri).1 (by have e9 : 120 - i = (120 - (i + 1)) + 1 := (by omega); rw [e9, rdP, if_neg c24, if_pos c39] at hres; exact hres) _ _ hP hD hS ls (lv_sub hl [1, 2, 0] rfl)
          · refine lv_bipush (v := (-10)) hx hb dX5_read_42 (by decide) ?_
            refine lv_aload_n hx hb dX5_read_44 rfl (lv_at hl 0 rfl) ?_
            refine va_get (D := G.1) (ci := 4) (v := .int (nI (((riP zz aa rr tl i).2.1) 2))) (C := RX5) (T := TX5) (N := 7) hx hb hts inA5 hown hX.1 hP 0 rfl rfl 2 (by decide) (hts _ kw_35) (fun _ h9 => h9) rfl dX5_read_45 ?_
            refine lv_isub hx hb dX5_read_48 ?_
            have e7 : rdA z a r tl = (some ((riP zz aa rr tl i).2.1 2), i, (riP zz aa rr tl i).2.1, (riP zz aa rr tl i).2.2.1, (riP zz aa rr tl i).2.2.2) := by have e9 : 120 - i = (119 - i) + 1 := (by omega); rw [← hres, e9, rdP, if_neg c24, if_neg (by rw [c39]; decide)]
            have hP : va_P G.1 vwCl (txw G td (rdA z a r tl).2.2.1 tl ++ (tkw G ad (rdA z a r tl).2.2.2.1 (rdA z a r tl).2.2.2.2)) H := by rw [e7]; exact hP
            have hD : va_D A (txw G td (rdA z a r tl).2.2.1 tl ++ (tkw G ad (rdA z a r tl).2.2.2.1 (rdA z a r tl).2.2.2.2)) := by rw [e7]; exact hD
            exact re_i (v := ((-10) - (nI (((riP zz aa rr tl i).2.1) 2)))) hx hb hr hlocks hS () hP hD (by rw [e7]; rfl) dX5_read_49
  exact lp20 _ 0 (tok (va_up (va_up z 3 0) 6 0) tl) (va_up (va_up (va_up (va_up (va_up (va_up (va_up (va_up a 0 2) 1 0) 2 0) 3 0) 7 0) 8 0) 9 0) 10 0) r (Nat.lt_succ_self _) (Nat.zero_le _) hZ0.tok (TB.fi h5 h6 h7 h12) (tok_le hZ0).1 rfl _ _ hP hD hS ls (lv_sub hl [1, 2, 0] rfl)

