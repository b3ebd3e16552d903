/-! read and tells, from any numbers of a text -/
set_option maxHeartbeats 4000000 in
set_option maxRecDepth 100000 in
theorem mX5_readW (l : Launch) (G : GG) (sk sv : Nat → Nat) (td z tl : Nat → Nat) (ad : Nat → Nat) (a : Nat → Nat) (r : Nat → Nat → Nat) (hZ : XB (va_up (va_up z 3 0) 6 0) tl) (h5 : ∀ j, r 0 j < 7) (h6 : ∀ j, r 1 j < 7) (h7 : ∀ j, r 2 j ≤ 9) (h12 : ∀ j, r 3 j < 7) : MiE (E4 sk sv) l yX5_read cX5_read 3 (some .int) (rmN 6 130) G [.ref (td 0), .ref (ad 0)] (txw G td z tl ++ (tkw G ad a r)) (fun (r9 : Int32) (_ : Unit) => r9 = rdI (rdA z a r tl)) (fun (_ : Unit) => txw G td (rdA z a r tl).2.2.1 tl ++ (tkw G ad (rdA z a r tl).2.2.2.1 (rdA z a r tl).2.2.2.2)) := by
  refine MiE.of (cc := cX5_read) (nL := 3) (by decide) (Nat.le_of_ble_eq_true rfl) ?_
  intro p e s m below meth c A ls F hr hlocks hnm hX hA hD hP hS hl hE
  have F : CallFix p m c cX5_read 3 s [.ref (td 0), .ref (ad 0)].toArray wA RX5 := F
  obtain ⟨hx, hb, hml, hown, hts⟩ := id F
  have hl : lv_has ls 3 [(0, .ref (td 0)), (1, .ref (ad 0))] := hl
  have hZ0 : XB (va_up (va_up z 3 0) 6 0) tl := hZ
  refine lv_aload_n hx hb dX5_read_0 rfl (lv_at hl 1 rfl) ?_
  refine ca_Vv (ci := 3) (q := (RX4, TX4, 12)) (rest := []) (wr := txw G td z tl) F hX (mX4_beAsAtFirst l G ad a r  ) (cA_V hts kw_250 kw_3 kw_247 kw_248 kw_249 hdX4_beAsAtFirst ⟨Nat.le_of_ble_eq_true rfl, Nat.le_of_ble_eq_true rfl⟩) rfl rfl rfl hl.1 rfl (Nat.le_of_ble_eq_true rfl) dX5_read_1 ⟨Nat.le_of_ble_eq_true rfl, Nat.le_of_ble_eq_true rfl⟩ hP hD hS hA (List.perm_append_comm) (fun u1 H locs hp1 hP hD hS => ?_)
  have hP : va_P G.1 vwCl (txw G td z tl ++ (tkw G ad (va_up (va_up (va_up (va_up (va_up (va_up (va_up (va_up a 0 2) 1 0) 2 0) 3 0) 7 0) 8 0) 9 0) 10 0) r)) H := wp_pm (List.perm_append_comm).symm hP
  have hD : va_D A (txw G td z tl ++ (tkw G ad (va_up (va_up (va_up (va_up (va_up (va_up (va_up (va_up a 0 2) 1 0) 2 0) 3 0) 7 0) 8 0) 9 0) 10 0) r)) := wd_pm (List.perm_append_comm).symm hD
  refine lv_aload_n hx hb dX5_read_4 rfl (lv_at hl 0 rfl) ?_
  refine lv_iconst (v := (nI 0)) hx hb dX5_read_5 (by decide) ?_
  refine va_put (D := G.1) (ci := 4) (v := .int (nI 0)) (ty := .boolean) (C := RX5) (T := TX5) (N := 7) hx hb hts inA5 tyX5 tyX5_ok nmX5 hown hX.1 hP hD hS 0 rfl rfl 6 (by decide) (hts _ kw_39) (fun _ h9 => h9) rfl (by decide +kernel) (by decide) (by decide) (Nat.le_of_ble_eq_true rfl) dX5_read_6 (fun H locs hP hD hS => ?_)
  have hP : va_P G.1 vwCl (txw G td (va_up z 6 0) tl ++ (tkw G ad (va_up (va_up (va_up (va_up (va_up (va_up (va_up (va_up a 0 2) 1 0) 2 0) 3 0) 7 0) 8 0) 9 0) 10 0) r)) H := hP
  have hD : va_D A (txw G td (va_up z 6 0) tl ++ (tkw G ad (va_up (va_up (va_up (va_up (va_up (va_up (va_up (va_up a 0 2) 1 0) 2 0) 3 0) 7 0) 8 0) 9 0) 10 0) r)) := hD
  refine lv_aload_n hx hb dX5_read_9 rfl (lv_at hl 0 rfl) ?_
  refine lv_iconst (v := (nI 0)) hx hb dX5_read_10 (by decide) ?_
  refine va_put (D := G.1) (ci := 4) (v := .int (nI 0)) (ty := .int) (C := RX5) (T := TX5) (N := 7) hx hb hts inA5 tyX5 tyX5_ok nmX5 hown hX.1 hP hD hS 0 rfl rfl 3 (by decide) (hts _ kw_36) (fun _ h9 => h9) rfl (by decide +kernel) rfl rfl (Nat.le_of_ble_eq_true rfl) dX5_read_11 (fun H locs hP hD hS => ?_)
  have hP : va_P G.1 vwCl (txw G td (va_up (va_up z 3 0) 6 0) tl ++ (tkw G ad (va_up (va_up (va_up (va_up (va_up (va_up (va_up (va_up a 0 2) 1 0) 2 0) 3 0) 7 0) 8 0) 9 0) 10 0) r)) H := hP
  have hD : va_D A (txw G td (va_up (va_up z 3 0) 6 0) tl ++ (tkw G ad (va_up (va_up (va_up (va_up (va_up (va_up (va_up (va_up a 0 2) 1 0) 2 0) 3 0) 7 0) 8 0) 9 0) 10 0) r)) := hD
  refine lv_aload_n hx hb dX5_read_14 rfl (lv_at hl 0 rfl) ?_
  refine ca_Vv (ci := 4) (q := (RX5, TX5, 7)) (rest := []) (wr := tkw G ad (va_up (va_up (va_up (va_up (va_up (va_up (va_up (va_up a 0 2) 1 0) 2 0) 3 0) 7 0) 8 0) 9 0) 10 0) r) F hX (mX5_takeToken l G td (va_up (va_up z 3 0) 6 0) tl  hZ0) (cA_V hts kw_254 kw_2 kw_251 kw_253 kp_0 hdX5_takeToken ⟨Nat.le_of_ble_eq_true rfl, Nat.le_of_ble_eq_true rfl⟩) rfl rfl rfl hl.1 rfl (Nat.le_of_ble_eq_true rfl) dX5_read_15 ⟨Nat.le_of_ble_eq_true rfl, Nat.le_of_ble_eq_true rfl⟩ hP hD hS hA (List.Perm.refl _) (fun u15 H locs hp15 hP hD hS => ?_)
  have hP : va_P G.1 vwCl (txw G td (tok (va_up (va_up z 3 0) 6 0) tl) tl ++ (tkw G ad (va_up (va_up (va_up (va_up (va_up (va_up (va_up (va_up a 0 2) 1 0) 2 0) 3 0) 7 0) 8 0) 9 0) 10 0) r)) H := wp_pm (List.Perm.refl _).symm hP
  have hD : va_D A (txw G td (tok (va_up (va_up z 3 0) 6 0) tl) tl ++ (tkw G ad (va_up (va_up (va_up (va_up (va_up (va_up (va_up (va_up a 0 2) 1 0) 2 0) 3 0) 7 0) 8 0) 9 0) 10 0) r)) := wd_pm (List.Perm.refl _).symm hD
  refine lv_iconst (v := (nI 0)) hx hb dX5_read_18 (by decide) ?_
  refine lv_istore_n (lv' := [(2, .int (nI 0)), (0, .ref (td 0)), (1, .ref (ad 0))]) hx hb dX5_read_19 rfl hl (by decide) rfl (fun ls hl => ?_)
  have lp20 : ∀ (n20 : Nat) (i : Nat) (zz : Nat → Nat) (aa : Nat → Nat) (rr : Nat → Nat → Nat), (120 - i) < n20 → (i ≤ 120) → (XB zz tl) → (TI aa rr i) → (zz 2 ≤ zz 3) → (rdP tl (120 - i) i zz aa rr = (rdA z a r tl)) → ∀ (H : Heap) (locs : List Loc), va_P G.1 vwCl (txw G td zz tl ++ (tkw G ad aa rr)) H → va_D A (txw G td zz tl ++ (tkw G ad aa rr)) → va_S A s.heap H locs → ∀ (ls : Array Slot), lv_has ls 3 [(0, .ref (td 0)), (1, .ref (ad 0)), (2, .int (nI i))] → WI p l e (rmN 6 130) s m [.ref (td 0), .ref (ad 0)] below meth c H locs G A (fun (r9 : Int32) (_ : Unit) => r9 = rdI (rdA z a r tl)) (fun (_ : Unit) => txw G td (rdA z a r tl).2.2.1 tl ++ (tkw G ad (rdA z a r tl).2.2.2.1 (rdA z a r tl).2.2.2.2)) (F0 m 20 ls []) := by
    intro n20
    induction n20 with
    | zero => intro i zz aa rr h9; exact absurd h9 (Nat.not_lt_zero _)
    | succ n20 ih20 =>
      intro i zz aa rr hm20  hi hZ hTI hle hres H locs hP hD hS ls hl
      refine lv_aload_n hx hb dX5_read_20 rfl (lv_at hl 0 rfl) ?_
      refine va_get (D := G.1) (ci := 4) (v := .int (nI (zz 4))) (C := RX5) (T := TX5) (N := 7) hx hb hts inA5 hown hX.1 hP 0 rfl rfl 4 (by decide) (hts _ kw_37) (fun _ h9 => h9) rfl dX5_read_21 ?_
      refine nv_zeq (x := zz 4) (tgt := 60) hx hb dX5_read_24 (by decide) (by have := hZ.2.2.2.1; omega) (fun c24 => ?_) (fun c24 => ?_)
      · refine lv_iload_n hx hb dX5_read_60 rfl (lv_at hl 2 rfl) ?_
        have e7 : rdA z a r tl = (none, i, zz, aa, rr) := by rw [← hres]; cases h120 : 120 - i with | zero => rfl | succ q => rw [rdP, if_pos c24]
        have hP : va_P G.1 vwCl (txw G td (rdA z a r tl).2.2.1 tl ++ (tkw G ad (rdA z a r tl).2.2.2.1 (rdA z a r tl).2.2.2.2)) H := by rw [e7]; exact hP
        have hD : va_D A (txw G td (rdA z a r tl).2.2.1 tl ++ (tkw G ad (rdA z a r tl).2.2.2.1 (rdA z a r tl).2.2.2.2)) := by rw [e7]; exact hD
        exact re_i (v := (nI i)) hx hb hr hlocks hS () hP hD (by rw [e7]; rfl) dX5_read_61
      · refine lv_iload_n hx hb dX5_read_27 rfl (lv_at hl 2 rfl) ?_
        refine lv_bipush (v := (nI 120)) hx hb dX5_read_28 (by decide) ?_
        refine nv_ge (x := i) (y := 120) (tgt := 60) hx hb dX5_read_30 (by decide) (by omega) (by decide) (fun c30 => ?_) (fun c30 => ?_)
        · refine lv_iload_n hx hb dX5_read_60 rfl (lv_at hl 2 rfl) ?_
          have e7 : rdA z a r tl = (none, i, zz, aa, rr) := by have e9 : 120 - i = 0 := (by omega); rw [← hres, e9, rdP]
          have hP : va_P G.1 vwCl (txw G td (rdA z a r tl).2.2.1 tl ++ (tkw G ad (rdA z a r tl).2.2.2.1 (rdA z a r tl).2.2.2.2)) H := by rw [e7]; exact hP
          have hD : va_D A (txw G td (rdA z a r tl).2.2.1 tl ++ (tkw G ad (rdA z a r tl).2.2.2.1 (rdA z a r tl).2.2.2.2)) := by rw [e7]; exact hD
          exact re_i (v := (nI i)) hx hb hr hlocks hS () hP hD (by rw [e7]; rfl) dX5_read_61
        · refine lv_aload_n hx hb dX5_read_33 rfl (lv_at hl 0 rfl) ?_
          refine lv_aload_n hx hb dX5_read_34 rfl (lv_at hl 1 rfl) ?_
          refine lv_iload_n hx hb dX5_read_35 rfl (lv_at hl 2 rfl) ?_
          refine ca_ViE (C := RX5) (rest := []) (wr := ([] : va_W)) (E4_st sk sv) hE F hX (mX5_readItem l G sk sv td zz tl ad aa rr i hZ hTI hle (by omega)) (cA_V hts kw_266 kw_2 kw_263 kw_265 kp_3 hdX5_readItem ⟨Nat.le_of_ble_eq_true rfl, Nat.le_of_ble_eq_true rfl⟩) (va_recv (ci := 4) (q0 := 0) hX.1 hP rfl rfl) rfl hl.1 rfl (Nat.le_of_ble_eq_true rfl) dX5_read_36 ⟨Nat.le_of_ble_eq_true rfl, Nat.le_of_ble_eq_true rfl⟩ hP hD hS hA (pm_nil _) (fun r36 u36 H locs hp36 hP hD hS => ?_)
          subst hp36
          have hP : va_P G.1 vwCl (txw G td ((riP zz aa rr tl i).2.1) tl ++ (tkw G ad ((riP zz aa rr tl i).2.2.1) ((riP zz aa rr tl i).2.2.2))) H := wp_pm (pm_nil _).symm hP
          have hD : va_D A (txw G td ((riP zz aa rr tl i).2.1) tl ++ (tkw G ad ((riP zz aa rr tl i).2.2.1) ((riP zz aa rr tl i).2.2.2))) := wd_pm (pm_nil _).symm hD
          refine bv_ne (b := (riP zz aa rr tl i).1) (tgt := 50) hx hb dX5_read_39 (by decide) (fun c39 => ?_) (fun c39 => ?_)
          · refine lv_iinc (v := (nI (i + 1))) (lv' := [(2, .int (nI (i + 1))), (0, .ref (td 0)), (1, .ref (ad 0))]) hx hb dX5_read_50 hl (k := 2) rfl (qn_inc _) (by decide) rfl (fun ls hl => ?_)
            refine lv_aload_n hx hb dX5_read_53 rfl (lv_at hl 1 rfl) ?_
            refine ca_Vv (ci := 4) (q := (RX5, TX5, 7)) (rest := []) (wr := tkw G ad ((riP zz aa rr tl i).2.2.1) ((riP zz aa rr tl i).2.2.2)) F hX (mX5_takeToken l G td ((riP zz aa rr tl i).2.1) tl  hZ.ri) (cA_V hts kw_254 kw_2 kw_251 kw_253 kp_0 hdX5_takeToken ⟨Nat.le_of_ble_eq_true rfl, Nat.le_of_ble_eq_true rfl⟩) rfl rfl rfl hl.1 rfl (Nat.le_of_ble_eq_true rfl) dX5_read_54 ⟨Nat.le_of_ble_eq_true rfl, Nat.le_of_ble_eq_true rfl⟩ hP hD hS hA (List.Perm.refl _) (fun u54 H locs hp54 hP hD hS => ?_)
            have hP : va_P G.1 vwCl (txw G td (tok ((riP zz aa rr tl i).2.1) tl) tl ++ (tkw G ad ((riP zz aa rr tl i).2.2.1) ((riP zz aa rr tl i).2.2.2))) H := wp_pm (List.Perm.refl _).symm hP
            have hD : va_D A (txw G td (tok ((riP zz aa rr tl i).2.1) tl) tl ++ (tkw G ad ((riP zz aa rr tl i).2.2.1) ((riP zz aa rr tl i).2.2.2))) := wd_pm (List.Perm.refl _).symm hD
            refine lv_goto (tgt := 20) hx hb dX5_read_57 (by decide) ?_
            exact ih20 (i + 1) (tok ((riP zz aa rr tl i).2.1) tl) ((riP zz aa rr tl i).2.2.1) ((riP zz aa rr tl i).2.2.2) (by omega) (by omega) hZ.ri.tok hTI.ri (tok_le hZ.ri).1 (by have e9 : 120 - i = (120 - (i + 1)) + 1 := (by omega); rw [e9, rdP, if_neg c24, if_pos c39] at hres; exact hres) _ _ hP hD hS ls (lv_sub hl [1, 2, 0] rfl)
          · refine lv_bipush (v := (-10)) hx hb dX5_read_42 (by decide) ?_
            refine lv_aload_n hx hb dX5_read_44 rfl (lv_at hl 0 rfl) ?_
            refine va_get (D := G.1) (ci := 4) (v := .int (nI (((riP zz aa rr tl i).2.1) 2))) (C := RX5) (T := TX5) (N := 7) hx hb hts inA5 hown hX.1 hP 0 rfl rfl 2 (by decide) (hts _ kw_35) (fun _ h9 => h9) rfl dX5_read_45 ?_
            refine lv_isub hx hb dX5_read_48 ?_
            have e7 : rdA z a r tl = (some ((riP zz aa rr tl i).2.1 2), i, (riP zz aa rr tl i).2.1, (riP zz aa rr tl i).2.2.1, (riP zz aa rr tl i).2.2.2) := by have e9 : 120 - i = (119 - i) + 1 := (by omega); rw [← hres, e9, rdP, if_neg c24, if_neg (by rw [c39]; decide)]
            have hP : va_P G.1 vwCl (txw G td (rdA z a r tl).2.2.1 tl ++ (tkw G ad (rdA z a r tl).2.2.2.1 (rdA z a r tl).2.2.2.2)) H := by rw [e7]; exact hP
            have hD : va_D A (txw G td (rdA z a r tl).2.2.1 tl ++ (tkw G ad (rdA z a r tl).2.2.2.1 (rdA z a r tl).2.2.2.2)) := by rw [e7]; exact hD
            exact re_i (v := ((-10) - (nI (((riP zz aa rr tl i).2.1) 2)))) hx hb hr hlocks hS () hP hD (by rw [e7]; rfl) dX5_read_49
  exact lp20 _ 0 (tok (va_up (va_up z 3 0) 6 0) tl) (va_up (va_up (va_up (va_up (va_up (va_up (va_up (va_up a 0 2) 1 0) 2 0) 3 0) 7 0) 8 0) 9 0) 10 0) r (Nat.lt_succ_self _) (Nat.zero_le _) hZ0.tok (TB.fi h5 h6 h7 h12) (tok_le hZ0).1 rfl _ _ hP hD hS ls (lv_sub hl [1, 2, 0] rfl)


set_option maxHeartbeats 4000000 in
set_option maxRecDepth 100000 in
theorem mX7_tells_faultW (l : Launch) (G : GG) (sk sv : Nat → Nat) (od td nn dd pd : Nat → Nat) (bo : Nat) (wd sd e0 e1 : Nat → Nat) (kp : Nat → Int32) (z tl : Nat → Nat) (ta : Nat → Nat) (tr : Nat → Nat → Nat) (q : Nat) (hZ : XB (va_up (va_up z 3 0) 6 0) tl) (h5 : ∀ j, tr 0 j < 7) (h6 : ∀ j, tr 1 j < 7) (h7 : ∀ j, tr 2 j ≤ 9) (h12 : ∀ j, tr 3 j < 7) (hq : (rdA z ta tr tl).1 = some q) (hq2 : q < 2 ^ 30) : MiE (E4 sk sv) l yX7_tells cX7_tells 2 (some .int) (rmN 7 152) G [.ref (od 0)] (obw G od (td 0) (nn 0) (dd 0) (pd 0) bo (wd 0) (sd 0) (e0 0) (e1 0) kp ++ (txw G td z tl ++ (tkw G dd ta tr))) (fun (r9 : Int32) (_ : Unit) => r9 = (-10 - nI q)) (fun (_ : Unit) => obw G od (td 0) (nn 0) (dd 0) (pd 0) bo (wd 0) (sd 0) (e0 0) (e1 0) kp ++ (txw G td ((rdA z ta tr tl).2.2.1) tl ++ (tkw G dd ((rdA z ta tr tl).2.2.2.1) ((rdA z ta tr tl).2.2.2.2)))) := by
  refine MiE.of (cc := cX7_tells) (nL := 2) (by decide) (Nat.le_of_ble_eq_true rfl) ?_
  intro p e s m below meth c A ls F hr hlocks hnm hX hA hD hP hS hl hE
  have F : CallFix p m c cX7_tells 2 s [.ref (od 0)].toArray wA RX7 := F
  obtain ⟨hx, hb, hml, hown, hts⟩ := id F
  have hl : lv_has ls 2 [(0, .ref (od 0))] := hl
  refine lv_aload_n hx hb dX7_tells_0 rfl (lv_at hl 0 rfl) ?_
  refine va_get (D := G.1) (ci := 6) (v := .ref (td 0)) (C := RX7) (T := TX7) (N := 9) hx hb hts inA7 hown hX.1 hP 0 rfl rfl 0 (by decide) (hts _ kw_194) (fun _ h9 => h9) rfl dX7_tells_1 ?_
  refine lv_aload_n hx hb dX7_tells_4 rfl (lv_at hl 0 rfl) ?_
  refine va_get (D := G.1) (ci := 6) (v := .ref (dd 0)) (C := RX7) (T := TX7) (N := 9) hx hb hts inA7 hown hX.1 hP 0 rfl rfl 2 (by decide) (hts _ kw_196) (fun _ h9 => h9) rfl dX7_tells_5 ?_
  refine ca_ViE (C := RX5) (rest := []) (wr := obw G od (td 0) (nn 0) (dd 0) (pd 0) bo (wd 0) (sd 0) (e0 0) (e1 0) kp) (E4_st sk sv) hE F hX (mX5_readW l G sk sv td z tl dd ta tr hZ h5 h6 h7 h12) (cA_V hts kw_246 kw_2 kw_243 kw_244 kw_245 hdX5_read ⟨Nat.le_of_ble_eq_true rfl, Nat.le_of_ble_eq_true rfl⟩) (va_recv (ci := 4) (q0 := 3) hX.1 hP rfl rfl) rfl hl.1 rfl (Nat.le_of_ble_eq_true rfl) dX7_tells_8 ⟨Nat.le_of_ble_eq_true rfl, Nat.le_of_ble_eq_true rfl⟩ hP hD hS hA ((((List.Perm.append_left _ (List.perm_append_comm)).trans (pm_sw _ _ _)).trans ((List.Perm.append_left _ (List.perm_append_comm)).trans (pm_sw _ _ _))).trans (List.Perm.of_eq (List.append_assoc _ _ _).symm)) (fun r8 u8 H locs hp8 hP hD hS => ?_)
  subst hp8
  have hP : va_P G.1 vwCl (obw G od (td 0) (nn 0) (dd 0) (pd 0) bo (wd 0) (sd 0) (e0 0) (e1 0) kp ++ (txw G td ((rdA z ta tr tl).2.2.1) tl ++ (tkw G dd ((rdA z ta tr tl).2.2.2.1) ((rdA z ta tr tl).2.2.2.2)))) H := wp_pm ((((List.Perm.append_left _ (List.perm_append_comm)).trans (pm_sw _ _ _)).trans ((List.Perm.append_left _ (List.perm_append_comm)).trans (pm_sw _ _ _))).trans (List.Perm.of_eq (List.append_assoc _ _ _).symm)).symm hP
  have hD : va_D A (obw G od (td 0) (nn 0) (dd 0) (pd 0) bo (wd 0) (sd 0) (e0 0) (e1 0) kp ++ (txw G td ((rdA z ta tr tl).2.2.1) tl ++ (tkw G dd ((rdA z ta tr tl).2.2.2.1) ((rdA z ta tr tl).2.2.2.2)))) := wd_pm ((((List.Perm.append_left _ (List.perm_append_comm)).trans (pm_sw _ _ _)).trans ((List.Perm.append_left _ (List.perm_append_comm)).trans (pm_sw _ _ _))).trans (List.Perm.of_eq (List.append_assoc _ _ _).symm)).symm hD
  refine ti (y := (-10 - nI q)) (by unfold rdI; rw [hq]) ?_
  refine lv_istore_n (lv' := [(1, .int (-10 - nI q)), (0, .ref (od 0))]) hx hb dX7_tells_11 rfl hl (by decide) rfl (fun ls hl => ?_)
  refine lv_iload_n hx hb dX7_tells_12 rfl (lv_at hl 0 rfl) ?_
  refine lv_if_lt (x := (-10 - nI q)) (tgt := 46) hx hb dX7_tells_13 (by decide) (fun c13 => ?_) (fun c13 => ?_)
  · refine lv_iload_n hx hb dX7_tells_46 rfl (lv_at hl 0 rfl) ?_
    exact re_i (v := (-10 - nI q)) hx hb hr hlocks hS () hP hD rfl dX7_tells_47
  · exact absurd (tel_lt hq2) c13

set_option maxHeartbeats 4000000 in
set_option maxRecDepth 100000 in
theorem mX7_tells_okW (l : Launch) (G : GG) (sk sv : Nat → Nat) (od td nn dd pd : Nat → Nat) (bo : Nat) (wd sd e0 e1 : Nat → Nat) (kp : Nat → Int32) (z tl : Nat → Nat) (ta : Nat → Nat) (tr : Nat → Nat → Nat) (a : Nat → Nat) (r : Nat → Nat → Nat) (sz nx : Nat) (ads as : Nat → Nat → Nat) (rs : Nat → Nat → Nat → Nat) (hZ : XB (va_up (va_up z 3 0) 6 0) tl) (h5 : ∀ j, tr 0 j < 7) (h6 : ∀ j, tr 1 j < 7) (h7 : ∀ j, tr 2 j ≤ 9) (h12 : ∀ j, tr 3 j < 7) (hz : sz ≤ 6) (hn : nx < 6) (hq : (rdA z ta tr tl).1 = none) (hq2 : (rdA z ta tr tl).2.1 < 2 ^ 31) : MiE (E4 sk sv) l yX7_tells cX7_tells 2 (some .int) (rmN 7 152) G [.ref (od 0)] (obw G od (td 0) (nn 0) (dd 0) (pd 0) bo (wd 0) (sd 0) (e0 0) (e1 0) kp ++ (txw G td z tl ++ (tkw G dd ta tr ++ (tkw G nn a r ++ (paw G pd sz nx ads as rs))))) (fun (r9 : Int32) (_ : Unit) => r9 = (nI ((rdA z ta tr tl).2.1))) (fun (_ : Unit) => obw G od (td 0) (nn 0) (dd 0) (pd 0) bo (wd 0) (sd 0) (e0 0) (e1 0) kp ++ (txw G td (va_up ((rdA z ta tr tl).2.2.1) 1 0) tl ++ (tkw G dd ((rdA z ta tr tl).2.2.2.1) ((rdA z ta tr tl).2.2.2.2) ++ (tkw G nn ((rdA z ta tr tl).2.2.2.1) ((rdA z ta tr tl).2.2.2.2) ++ (paw G pd (min (sz + 1) 6) ((nx + 1) % 6) ads (va_up as nx a) (va_up rs nx r)))))) := by
  refine MiE.of (cc := cX7_tells) (nL := 2) (by decide) (Nat.le_of_ble_eq_true rfl) ?_
  intro p e s m below meth c A ls F hr hlocks hnm hX hA hD hP hS hl hE
  have F : CallFix p m c cX7_tells 2 s [.ref (od 0)].toArray wA RX7 := F
  obtain ⟨hx, hb, hml, hown, hts⟩ := id F
  have hl : lv_has ls 2 [(0, .ref (od 0))] := hl
  refine lv_aload_n hx hb dX7_tells_0 rfl (lv_at hl 0 rfl) ?_
  refine va_get (D := G.1) (ci := 6) (v := .ref (td 0)) (C := RX7) (T := TX7) (N := 9) hx hb hts inA7 hown hX.1 hP 0 rfl rfl 0 (by decide) (hts _ kw_194) (fun _ h9 => h9) rfl dX7_tells_1 ?_
  refine lv_aload_n hx hb dX7_tells_4 rfl (lv_at hl 0 rfl) ?_
  refine va_get (D := G.1) (ci := 6) (v := .ref (dd 0)) (C := RX7) (T := TX7) (N := 9) hx hb hts inA7 hown hX.1 hP 0 rfl rfl 2 (by decide) (hts _ kw_196) (fun _ h9 => h9) rfl dX7_tells_5 ?_
  refine ca_ViE (C := RX5) (rest := []) (wr := obw G od (td 0) (nn 0) (dd 0) (pd 0) bo (wd 0) (sd 0) (e0 0) (e1 0) kp ++ (tkw G nn a r ++ (paw G pd sz nx ads as rs))) (E4_st sk sv) hE F hX (mX5_readW l G sk sv td z tl dd ta tr hZ h5 h6 h7 h12) (cA_V hts kw_246 kw_2 kw_243 kw_244 kw_245 hdX5_read ⟨Nat.le_of_ble_eq_true rfl, Nat.le_of_ble_eq_true rfl⟩) (va_recv (ci := 4) (q0 := 3) hX.1 hP rfl rfl) rfl hl.1 rfl (Nat.le_of_ble_eq_true rfl) dX7_tells_8 ⟨Nat.le_of_ble_eq_true rfl, Nat.le_of_ble_eq_true rfl⟩ hP hD hS hA ((((List.Perm.append_left _ (pm_sw _ _ _)).trans (pm_sw _ _ _)).trans ((List.Perm.append_left _ (pm_sw _ _ _)).trans (pm_sw _ _ _))).trans (List.Perm.of_eq (List.append_assoc _ _ _).symm)) (fun r8 u8 H locs hp8 hP hD hS => ?_)
  subst hp8
  have hP : va_P G.1 vwCl (obw G od (td 0) (nn 0) (dd 0) (pd 0) bo (wd 0) (sd 0) (e0 0) (e1 0) kp ++ (txw G td ((rdA z ta tr tl).2.2.1) tl ++ (tkw G dd ((rdA z ta tr tl).2.2.2.1) ((rdA z ta tr tl).2.2.2.2) ++ (tkw G nn a r ++ (paw G pd sz nx ads as rs))))) H := wp_pm ((((List.Perm.append_left _ (pm_sw _ _ _)).trans (pm_sw _ _ _)).trans ((List.Perm.append_left _ (pm_sw _ _ _)).trans (pm_sw _ _ _))).trans (List.Perm.of_eq (List.append_assoc _ _ _).symm)).symm hP
  have hD : va_D A (obw G od (td 0) (nn 0) (dd 0) (pd 0) bo (wd 0) (sd 0) (e0 0) (e1 0) kp ++ (txw G td ((rdA z ta tr tl).2.2.1) tl ++ (tkw G dd ((rdA z ta tr tl).2.2.2.1) ((rdA z ta tr tl).2.2.2.2) ++ (tkw G nn a r ++ (paw G pd sz nx ads as rs))))) := wd_pm ((((List.Perm.append_left _ (pm_sw _ _ _)).trans (pm_sw _ _ _)).trans ((List.Perm.append_left _ (pm_sw _ _ _)).trans (pm_sw _ _ _))).trans (List.Perm.of_eq (List.append_assoc _ _ _).symm)).symm hD
  refine ti (y := (nI ((rdA z ta tr tl).2.1))) (by unfold rdI; rw [hq]) ?_
  refine lv_istore_n (lv' := [(1, .int (nI ((rdA z ta tr tl).2.1))), (0, .ref (od 0))]) hx hb dX7_tells_11 rfl hl (by decide) rfl (fun ls hl => ?_)
  refine lv_iload_n hx hb dX7_tells_12 rfl (lv_at hl 0 rfl) ?_
  refine nv_zlt (x := (rdA z ta tr tl).2.1) (tgt := 46) hx hb dX7_tells_13 (by decide) hq2 ?_
  refine lv_aload_n hx hb dX7_tells_16 rfl (lv_at hl 1 rfl) ?_
  refine va_get (D := G.1) (ci := 6) (v := .ref (pd 0)) (C := RX7) (T := TX7) (N := 9) hx hb hts inA7 hown hX.1 hP 0 rfl rfl 3 (by decide) (hts _ kw_197) (fun _ h9 => h9) rfl dX7_tells_17 ?_
  refine lv_aload_n hx hb dX7_tells_20 rfl (lv_at hl 1 rfl) ?_
  refine va_get (D := G.1) (ci := 6) (v := .ref (nn 0)) (C := RX7) (T := TX7) (N := 9) hx hb hts inA7 hown hX.1 hP 0 rfl rfl 1 (by decide) (hts _ kw_195) (fun _ h9 => h9) rfl dX7_tells_21 ?_
  refine ca_Vv (ci := 1) (q := (RX2, TX2, 3)) (rest := []) (wr := obw G od (td 0) (nn 0) (dd 0) (pd 0) bo (wd 0) (sd 0) (e0 0) (e1 0) kp ++ (txw G td ((rdA z ta tr tl).2.2.1) tl ++ (tkw G dd ((rdA z ta tr tl).2.2.2.1) ((rdA z ta tr tl).2.2.2.2)))) F hX (mX2_remember l G pd sz nx ads as rs nn a r hz hn) (cA_V hts kw_369 kw_4 kw_366 kw_367 kw_368 hdX2_remember ⟨Nat.le_of_ble_eq_true rfl, Nat.le_of_ble_eq_true rfl⟩) rfl rfl rfl hl.1 rfl (Nat.le_of_ble_eq_true rfl) dX7_tells_24 ⟨Nat.le_of_ble_eq_true rfl, Nat.le_of_ble_eq_true rfl⟩ hP hD hS hA ((((List.Perm.append_left _ ((List.Perm.append_left _ (pm_sw _ _ _)).trans (pm_sw _ _ _))).trans (pm_sw _ _ _)).trans ((List.Perm.append_left _ ((List.Perm.append_left _ ((List.Perm.append_left _ (List.perm_append_comm)).trans (pm_sw _ _ _))).trans (pm_sw _ _ _))).trans (pm_sw _ _ _))).trans (List.Perm.of_eq (List.append_assoc _ _ _).symm)) (fun u24 H locs hp24 hP hD hS => ?_)
  have hP : va_P G.1 vwCl (obw G od (td 0) (nn 0) (dd 0) (pd 0) bo (wd 0) (sd 0) (e0 0) (e1 0) kp ++ (txw G td ((rdA z ta tr tl).2.2.1) tl ++ (tkw G dd ((rdA z ta tr tl).2.2.2.1) ((rdA z ta tr tl).2.2.2.2) ++ (tkw G nn a r ++ (paw G pd (min (sz + 1) 6) ((nx + 1) % 6) ads (va_up as nx a) (va_up rs nx r)))))) H := wp_pm ((((List.Perm.append_left _ ((List.Perm.append_left _ (pm_sw _ _ _)).trans (pm_sw _ _ _))).trans (pm_sw _ _ _)).trans ((List.Perm.append_left _ ((List.Perm.append_left _ ((List.Perm.append_left _ (List.perm_append_comm)).trans (pm_sw _ _ _))).trans (pm_sw _ _ _))).trans (pm_sw _ _ _))).trans (List.Perm.of_eq (List.append_assoc _ _ _).symm)).symm hP
  have hD : va_D A (obw G od (td 0) (nn 0) (dd 0) (pd 0) bo (wd 0) (sd 0) (e0 0) (e1 0) kp ++ (txw G td ((rdA z ta tr tl).2.2.1) tl ++ (tkw G dd ((rdA z ta tr tl).2.2.2.1) ((rdA z ta tr tl).2.2.2.2) ++ (tkw G nn a r ++ (paw G pd (min (sz + 1) 6) ((nx + 1) % 6) ads (va_up as nx a) (va_up rs nx r)))))) := wd_pm ((((List.Perm.append_left _ ((List.Perm.append_left _ (pm_sw _ _ _)).trans (pm_sw _ _ _))).trans (pm_sw _ _ _)).trans ((List.Perm.append_left _ ((List.Perm.append_left _ ((List.Perm.append_left _ (List.perm_append_comm)).trans (pm_sw _ _ _))).trans (pm_sw _ _ _))).trans (pm_sw _ _ _))).trans (List.Perm.of_eq (List.append_assoc _ _ _).symm)).symm hD
  refine lv_aload_n hx hb dX7_tells_27 rfl (lv_at hl 1 rfl) ?_
  refine va_get (D := G.1) (ci := 6) (v := .ref (nn 0)) (C := RX7) (T := TX7) (N := 9) hx hb hts inA7 hown hX.1 hP 0 rfl rfl 1 (by decide) (hts _ kw_195) (fun _ h9 => h9) rfl dX7_tells_28 ?_
  refine lv_aload_n hx hb dX7_tells_31 rfl (lv_at hl 1 rfl) ?_
  refine va_get (D := G.1) (ci := 6) (v := .ref (dd 0)) (C := RX7) (T := TX7) (N := 9) hx hb hts inA7 hown hX.1 hP 0 rfl rfl 2 (by decide) (hts _ kw_196) (fun _ h9 => h9) rfl dX7_tells_32 ?_
  refine ca_Vv (ci := 3) (q := (RX4, TX4, 12)) (rest := []) (wr := obw G od (td 0) (nn 0) (dd 0) (pd 0) bo (wd 0) (sd 0) (e0 0) (e1 0) kp ++ (txw G td ((rdA z ta tr tl).2.2.1) tl ++ (paw G pd (min (sz + 1) 6) ((nx + 1) % 6) ads (va_up as nx a) (va_up rs nx r)))) F hX (mX4_become l G nn a r dd ((rdA z ta tr tl).2.2.2.1) ((rdA z ta tr tl).2.2.2.2)) (cA_V hts kw_373 kw_3 kw_380 kw_371 kw_372 hdX4_become ⟨Nat.le_of_ble_eq_true rfl, Nat.le_of_ble_eq_true rfl⟩) rfl rfl rfl hl.1 rfl (Nat.le_of_ble_eq_true rfl) dX7_tells_35 ⟨Nat.le_of_ble_eq_true rfl, Nat.le_of_ble_eq_true rfl⟩ hP hD hS hA ((((List.Perm.append_left _ (pm_sw _ _ _)).trans (pm_sw _ _ _)).trans ((List.Perm.append_left _ ((List.Perm.append_left _ (pm_sw _ _ _)).trans (pm_sw _ _ _))).trans (pm_sw _ _ _))).trans (List.Perm.of_eq (List.append_assoc _ _ _).symm)) (fun u35 H locs hp35 hP hD hS => ?_)
  have hP : va_P G.1 vwCl (obw G od (td 0) (nn 0) (dd 0) (pd 0) bo (wd 0) (sd 0) (e0 0) (e1 0) kp ++ (txw G td ((rdA z ta tr tl).2.2.1) tl ++ (tkw G dd ((rdA z ta tr tl).2.2.2.1) ((rdA z ta tr tl).2.2.2.2) ++ (tkw G nn ((rdA z ta tr tl).2.2.2.1) ((rdA z ta tr tl).2.2.2.2) ++ (paw G pd (min (sz + 1) 6) ((nx + 1) % 6) ads (va_up as nx a) (va_up rs nx r)))))) H := wp_pm ((((List.Perm.append_left _ (pm_sw _ _ _)).trans (pm_sw _ _ _)).trans ((List.Perm.append_left _ ((List.Perm.append_left _ (pm_sw _ _ _)).trans (pm_sw _ _ _))).trans (pm_sw _ _ _))).trans (List.Perm.of_eq (List.append_assoc _ _ _).symm)).symm hP
  have hD : va_D A (obw G od (td 0) (nn 0) (dd 0) (pd 0) bo (wd 0) (sd 0) (e0 0) (e1 0) kp ++ (txw G td ((rdA z ta tr tl).2.2.1) tl ++ (tkw G dd ((rdA z ta tr tl).2.2.2.1) ((rdA z ta tr tl).2.2.2.2) ++ (tkw G nn ((rdA z ta tr tl).2.2.2.1) ((rdA z ta tr tl).2.2.2.2) ++ (paw G pd (min (sz + 1) 6) ((nx + 1) % 6) ads (va_up as nx a) (va_up rs nx r)))))) := wd_pm ((((List.Perm.append_left _ (pm_sw _ _ _)).trans (pm_sw _ _ _)).trans ((List.Perm.append_left _ ((List.Perm.append_left _ (pm_sw _ _ _)).trans (pm_sw _ _ _))).trans (pm_sw _ _ _))).trans (List.Perm.of_eq (List.append_assoc _ _ _).symm)).symm hD
  refine lv_aload_n hx hb dX7_tells_38 rfl (lv_at hl 1 rfl) ?_
  refine va_get (D := G.1) (ci := 6) (v := .ref (td 0)) (C := RX7) (T := TX7) (N := 9) hx hb hts inA7 hown hX.1 hP 0 rfl rfl 0 (by decide) (hts _ kw_194) (fun _ h9 => h9) rfl dX7_tells_39 ?_
  refine ca_Vi (ci := 4) (q := (RX5, TX5, 7)) (rest := []) (wr := obw G od (td 0) (nn 0) (dd 0) (pd 0) bo (wd 0) (sd 0) (e0 0) (e1 0) kp ++ (tkw G dd ((rdA z ta tr tl).2.2.2.1) ((rdA z ta tr tl).2.2.2.2) ++ (tkw G nn ((rdA z ta tr tl).2.2.2.1) ((rdA z ta tr tl).2.2.2.2) ++ (paw G pd (min (sz + 1) 6) ((nx + 1) % 6) ads (va_up as nx a) (va_up rs nx r))))) F hX (mX5_empty l G td ((rdA z ta tr tl).2.2.1) tl  ) (cA_V hts kw_238 kw_2 kw_235 kw_236 kw_237 hdX5_empty ⟨Nat.le_of_ble_eq_true rfl, Nat.le_of_ble_eq_true rfl⟩) rfl rfl rfl hl.1 rfl (Nat.le_of_ble_eq_true rfl) dX7_tells_42 ⟨Nat.le_of_ble_eq_true rfl, Nat.le_of_ble_eq_true rfl⟩ hP hD hS hA (pm_sw _ _ _) (fun r42 u42 H locs hp42 hP hD hS => ?_)
  have hP : va_P G.1 vwCl (obw G od (td 0) (nn 0) (dd 0) (pd 0) bo (wd 0) (sd 0) (e0 0) (e1 0) kp ++ (txw G td (va_up ((rdA z ta tr tl).2.2.1) 1 0) tl ++ (tkw G dd ((rdA z ta tr tl).2.2.2.1) ((rdA z ta tr tl).2.2.2.2) ++ (tkw G nn ((rdA z ta tr tl).2.2.2.1) ((rdA z ta tr tl).2.2.2.2) ++ (paw G pd (min (sz + 1) 6) ((nx + 1) % 6) ads (va_up as nx a) (va_up rs nx r)))))) H := wp_pm (pm_sw _ _ _).symm hP
  have hD : va_D A (obw G od (td 0) (nn 0) (dd 0) (pd 0) bo (wd 0) (sd 0) (e0 0) (e1 0) kp ++ (txw G td (va_up ((rdA z ta tr tl).2.2.1) 1 0) tl ++ (tkw G dd ((rdA z ta tr tl).2.2.2.1) ((rdA z ta tr tl).2.2.2.2) ++ (tkw G nn ((rdA z ta tr tl).2.2.2.1) ((rdA z ta tr tl).2.2.2.2) ++ (paw G pd (min (sz + 1) 6) ((nx + 1) % 6) ads (va_up as nx a) (va_up rs nx r)))))) := wd_pm (pm_sw _ _ _).symm hD
  subst hp42
  refine lv_pop hx hb dX7_tells_45 rfl ?_
  refine lv_iload_n hx hb dX7_tells_46 rfl (lv_at hl 0 rfl) ?_
  exact re_i (v := (nI ((rdA z ta tr tl).2.1))) hx hb hr hlocks hS () hP hD rfl dX7_tells_47


theorem read_eqW {tl z a zm : Nat → Nat} {r : Nat → Nat → Nat} {d : Nat → Int32} (hX0 : XB (va_up (va_up z 3 0) 6 0) tl) (h5 : ∀ j, r 0 j < 7) (h6 : ∀ j, r 1 j < 7) (h7 : ∀ j, r 2 j ≤ 9) (h12 : ∀ j, r 3 j < 7) (h1 : z 1 = zm 10) : RR tl (z 1) (rdA z a r tl) (rxA tl zm d) := by
  have e : rdA z a r tl = rdA (va_up (va_up z 3 0) 6 0) a r tl := by
    unfold rdA
    have e2 : va_up (va_up (va_up (va_up z 3 0) 6 0) 3 0) 6 0 = va_up (va_up z 3 0) 6 0 := by
      funext j
      unfold va_up
      by_cases h3 : j = 3 <;> by_cases h6 : j = 6 <;> simp [h3, h6]
    rw [e2]
  rw [e]
  exact read_eq (z := va_up (va_up z 3 0) 6 0) hX0 h5 h6 h7 h12 h1
