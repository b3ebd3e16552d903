theorem hdX8_anew : hdOK yX8_anew 0 := by decide +kernel
set_option maxHeartbeats 4000000 in
set_option maxRecDepth 100000 in
theorem mX8_anew (l : Launch) (G : GG) (ad : Nat → Nat) (z : Nat → Nat) (fo : Option Nat) (sv : Nat → Nat) (d : Nat → Int32) (pa ke : Nat → Nat) (ik fa : Nat → Int32) (te aw : Nat → Nat) (hB : SB sv) (ha : ∀ j, aw j ≤ 1000000) (hA2 : AnS sv) : Mi l yX8_anew cX8_anew 5 (some .int) (rmN 3 71) G [.ref (ad 0)] (mow G ad z fo sv d pa ke ik fa te aw) (fun (r9 : Int32) (u9 : (Nat → Nat)) => r9 = nI (anS sv) ∧ ∀ j, u9 j ≤ 1000000) (fun (u9 : (Nat → Nat)) => mow G ad z fo sv d pa ke ik fa te u9) := by
  refine Mi.of (cc := cX8_anew) (nL := 5) (by decide) (Nat.le_of_ble_eq_true rfl) ?_
  intro p e s m below meth c A ls F hr hlocks hnm hX hA hD hP hS hl
  have F : CallFix p m c cX8_anew 5 s [.ref (ad 0)].toArray wA RX8 := F
  obtain ⟨hx, hb, hml, hown, hts⟩ := id F
  have hl : lv_has ls 5 [(0, .ref (ad 0))] := hl
  obtain ⟨⟨b0, b1, b2, b3, b4, b5, b6, b7, b8⟩, g1, g2, g3, g4⟩ := id hB
  have gf : ∀ j, sf sv j < 10 := fun j => g1 (16 + j) (by omega)
  have gg : ∀ j, sg sv j < 10 := fun j => g1 (28 + j) (by omega)
  have gc : ∀ j, sc sv j ≤ 9 := fun j => by have := g1 (40 + j) (by omega); unfold sc; omega
  have gf7 : ∀ j, j < 12 → sf sv j < 7 := g2
  have gg7 : ∀ j, j < 12 → sg sv j < 7 := g3
  obtain ⟨hE, PA, hPA0, hPAs⟩ := hA2
  refine lv_iconst (v := (nI 0)) hx hb dX8_anew_0 (by decide) ?_
  refine lv_istore_n (lv' := [(1, .int (nI 0)), (0, .ref (ad 0))]) hx hb dX8_anew_1 rfl hl (by decide) rfl (fun ls hl => ?_)
  refine lv_aload_n hx hb dX8_anew_2 rfl (lv_at hl 1 rfl) ?_
  refine va_get (D := G.1) (ci := 7) (v := .ref (ad 1)) (C := RX8) (T := TX8) (N := 17) hx hb hts inA8 hown hX.1 hP 0 rfl rfl 1 (by decide) (hts _ kw_681) (fun _ h9 => h9) rfl dX8_anew_3 ?_
  refine lv_iconst (v := (nI 4)) hx hb dX8_anew_6 (by decide) ?_
  refine nv_ald (f := sv) (k := 4) hx hb hX hP 1 rfl (by omega) (by decide) dX8_anew_7 ?_
  refine lv_aload_n hx hb dX8_anew_8 rfl (lv_at hl 1 rfl) ?_
  refine lv_iload_n hx hb dX8_anew_9 rfl (lv_at hl 0 rfl) ?_
  refine ca_Vi (ci := 7) (q := (RX8, TX8, 17)) (rest := [.int (nI (sv 4))]) (wr := ([] : va_W)) F hX (mX8_nodesOf l G ad z fo sv d pa ke ik fa te aw 0 hB (by decide)) (cA_V hts kw_798 kw_8 kw_795 kw_797 kp_30 hdX8_nodesOf ⟨Nat.le_of_ble_eq_true rfl, Nat.le_of_ble_eq_true rfl⟩) rfl rfl rfl hl.1 rfl (Nat.le_of_ble_eq_true rfl) dX8_anew_10 ⟨Nat.le_of_ble_eq_true rfl, Nat.le_of_ble_eq_true rfl⟩ hP hD hS hA (pm_nil _) (fun r10 u10 H locs hp10 hP hD hS => ?_)
  have hP : va_P G.1 vwCl (mow G ad z fo sv d pa ke ik fa te aw) H := wp_pm (pm_nil _).symm hP
  have hD : va_D A (mow G ad z fo sv d pa ke ik fa te aw) := wd_pm (pm_nil _).symm hD
  subst hp10
  refine lv_iconst (v := (-1)) hx hb dX8_anew_13 (by decide) ?_
  refine lv_ixor hx hb dX8_anew_14 ?_
  refine lv_iand hx hb dX8_anew_15 (ti (y := (nI (nd (sv 4) (clo (sf sv) (sg sv) 0 (sv 1) (sv 2))))) (qn_andn _ _) ?_)
  refine lv_istore_n (lv' := [(2, .int (nI (nd (sv 4) (clo (sf sv) (sg sv) 0 (sv 1) (sv 2))))), (1, .int (nI 0)), (0, .ref (ad 0))]) hx hb dX8_anew_16 rfl hl (by decide) rfl (fun ls hl => ?_)
  have lp17 : ∀ (n17 : Nat) (m9 : Nat) (t : Nat) (y : Nat → Nat), (leF (sf sv) (sg sv) (sv 1) (sv 2) (sv 4) t) < n17 → (t < 4096) → (PA t) → (∀ j, y j ≤ 1000000) → (leF (sf sv) (sg sv) (sv 1) (sv 2) (sv 4) t < m9) → (mnN (sf sv) (sg sv) (sc sv) (sv 6) (sv 1) (sv 0) (sv 2) (sv 4) m9 t = anS sv) → ∀ (H : Heap) (locs : List Loc), va_P G.1 vwCl (mow G ad z fo sv d pa ke ik fa te y) H → va_D A (mow G ad z fo sv d pa ke ik fa te y) → va_S A s.heap H locs → ∀ (ls : Array Slot), lv_has ls 5 [(0, .ref (ad 0)), (1, .int (nI t)), (2, .int (nI (nd (sv 4) (clo (sf sv) (sg sv) t (sv 1) (sv 2)))))] → WI p l e (rmN 3 71) s m [.ref (ad 0)] below meth c H locs G A (fun (r9 : Int32) (u9 : (Nat → Nat)) => r9 = nI (anS sv) ∧ ∀ j, u9 j ≤ 1000000) (fun (u9 : (Nat → Nat)) => mow G ad z fo sv d pa ke ik fa te u9) (F0 m 17 ls []) := by
    intro n17
    induction n17 with
    | zero => intro m9 t y h9; exact absurd h9 (Nat.not_lt_zero _)
    | succ n17 ih17 =>
      intro m9 t y hm17  ht hPA hy hf hres H locs hP hD hS ls hl
      refine lv_iload_n hx hb dX8_anew_17 rfl (lv_at hl 2 rfl) ?_
      refine nv_zeq (x := nd (sv 4) (clo (sf sv) (sg sv) t (sv 1) (sv 2))) (tgt := 123) hx hb dX8_anew_18 (by decide) (by have := nd_le (sv 4) (clo (sf sv) (sg sv) t (sv 1) (sv 2)); omega) (fun c18 => ?_) (fun c18 => ?_)
      · refine lv_iload_n hx hb dX8_anew_123 rfl (lv_at hl 1 rfl) ?_
        exact re_i (v := (nI t)) hx hb hr hlocks hS y hP hD ⟨by rw [← hres, mnN_end c18], hy⟩ dX8_anew_124
      · refine lv_aload_n hx hb dX8_anew_21 rfl (lv_at hl 0 rfl) ?_
        refine lv_aload_n hx hb dX8_anew_22 rfl (lv_at hl 0 rfl) ?_
        refine lv_iload_n hx hb dX8_anew_23 rfl (lv_at hl 1 rfl) ?_
        refine ca_Vi (ci := 7) (q := (RX8, TX8, 17)) (rest := [.ref (ad 0)]) (wr := ([] : va_W)) F hX (mX8_nodesOf l G ad z fo sv d pa ke ik fa te y t hB (by omega)) (cA_V hts kw_798 kw_8 kw_795 kw_797 kp_30 hdX8_nodesOf ⟨Nat.le_of_ble_eq_true rfl, Nat.le_of_ble_eq_true rfl⟩) rfl rfl rfl hl.1 rfl (Nat.le_of_ble_eq_true rfl) dX8_anew_24 ⟨Nat.le_of_ble_eq_true rfl, Nat.le_of_ble_eq_true rfl⟩ hP hD hS hA (pm_nil _) (fun r24 u24 H locs hp24 hP hD hS => ?_)
        have hP : va_P G.1 vwCl (mow G ad z fo sv d pa ke ik fa te y) H := wp_pm (pm_nil _).symm hP
        have hD : va_D A (mow G ad z fo sv d pa ke ik fa te y) := wd_pm (pm_nil _).symm hD
        subst hp24
        refine ca_Vv (ci := 7) (q := (RX8, TX8, 17)) (rest := []) (wr := ([] : va_W)) F hX (mX8_measures l G ad z fo sv d pa ke ik fa te y (clo (sf sv) (sg sv) t (sv 1) (sv 2)) hB hy (by have := clo_lt gf gg (set := t) (L := sv 1) (src := sv 2) (by omega); omega)) (cA_V hts kw_805 kw_8 kw_802 kw_804 kp_31 hdX8_measures ⟨Nat.le_of_ble_eq_true rfl, Nat.le_of_ble_eq_true rfl⟩) rfl rfl rfl hl.1 rfl (Nat.le_of_ble_eq_true rfl) dX8_anew_27 ⟨Nat.le_of_ble_eq_true rfl, Nat.le_of_ble_eq_true rfl⟩ hP hD hS hA (pm_nil _) (fun u27 H locs hp27 hP hD hS => ?_)
        have hP : va_P G.1 vwCl (mow G ad z fo sv d pa ke ik fa te (mesN (sf sv) (sg sv) (sc sv) (sv 6) (sv 1) (sv 0) (clo (sf sv) (sg sv) t (sv 1) (sv 2)) y)) H := wp_pm (pm_nil _).symm hP
        have hD : va_D A (mow G ad z fo sv d pa ke ik fa te (mesN (sf sv) (sg sv) (sc sv) (sv 6) (sv 1) (sv 0) (clo (sf sv) (sg sv) t (sv 1) (sv 2)) y)) := wd_pm (pm_nil _).symm hD
        have hag := mes_ag (c := sc sv) (dn := sv 6) (goals := clo (sf sv) (sg sv) t (sv 1) (sv 2)) hE y
        have hwl := W0_le (sf sv) (sg sv) (sc sv) (sv 6) (sv 1) (sv 0) (clo (sf sv) (sg sv) t (sv 1) (sv 2))
        obtain ⟨v9, hv9, hv9l, hO9, hPA9, hle9⟩ := hPAs t ht hPA c18
        refine lv_bipush (v := (-9)) hx hb dX8_anew_30 (by decide) ?_
        refine lv_istore_n (lv' := [(3, .int (-9)), (0, .ref (ad 0)), (1, .int (nI t)), (2, .int (nI (nd (sv 4) (clo (sf sv) (sg sv) t (sv 1) (sv 2)))))]) hx hb dX8_anew_32 rfl hl (by decide) rfl (fun ls hl => ?_)
        refine lv_iconst (v := (nI 0)) hx hb dX8_anew_33 (by decide) ?_
        refine lv_istore (lv' := [(4, .int (nI 0)), (3, .int (-9)), (0, .ref (ad 0)), (1, .int (nI t)), (2, .int (nI (nd (sv 4) (clo (sf sv) (sg sv) t (sv 1) (sv 2)))))]) hx hb dX8_anew_34 hl (by decide) rfl (fun ls hl => ?_)
        have lp36 : ∀ (n36 : Nat) (v : Nat) (o : Option Nat), (sv 0 - v) < n36 → o = maS (W0 (sf sv) (sg sv) (sc sv) (sv 6) (sv 1) (sv 0) (clo (sf sv) (sg sv) t (sv 1) (sv 2))) (leF (sf sv) (sg sv) (sv 1) (sv 2) (sv 4) t) v → (v ≤ sv 0) → ∀ (H : Heap) (locs : List Loc), va_P G.1 vwCl (mow G ad z fo sv d pa ke ik fa te (mesN (sf sv) (sg sv) (sc sv) (sv 6) (sv 1) (sv 0) (clo (sf sv) (sg sv) t (sv 1) (sv 2)) y)) H → va_D A (mow G ad z fo sv d pa ke ik fa te (mesN (sf sv) (sg sv) (sc sv) (sv 6) (sv 1) (sv 0) (clo (sf sv) (sg sv) t (sv 1) (sv 2)) y)) → va_S A s.heap H locs → ∀ (ls : Array Slot), lv_has ls 5 [(0, .ref (ad 0)), (1, .int (nI t)), (2, .int (nI (nd (sv 4) (clo (sf sv) (sg sv) t (sv 1) (sv 2))))), (3, .int (oN o)), (4, .int (nI v))] → WI p l e (rmN 3 71) s m [.ref (ad 0)] below meth c H locs G A (fun (r9 : Int32) (u9 : (Nat → Nat)) => r9 = nI (anS sv) ∧ ∀ j, u9 j ≤ 1000000) (fun (u9 : (Nat → Nat)) => mow G ad z fo sv d pa ke ik fa te u9) (F0 m 36 ls []) := by
          intro n36
          induction n36 with
          | zero => intro v o h9; exact absurd h9 (Nat.not_lt_zero _)
          | succ n36 ih36 =>
            intro v o hm36 e_o hv H locs hP hD hS ls hl
            subst e_o
            refine lv_iload hx hb dX8_anew_36 (lv_at hl 4 rfl) ?_
            refine lv_aload_n hx hb dX8_anew_38 rfl (lv_at hl 0 rfl) ?_
            refine va_get (D := G.1) (ci := 7) (v := .ref (ad 1)) (C := RX8) (T := TX8) (N := 17) hx hb hts inA8 hown hX.1 hP 0 rfl rfl 1 (by decide) (hts _ kw_681) (fun _ h9 => h9) rfl dX8_anew_39 ?_
            refine lv_iconst (v := (nI 0)) hx hb dX8_anew_42 (by decide) ?_
            refine nv_ald (f := sv) (k := 0) hx hb hX hP 1 rfl (by omega) (by decide) dX8_anew_43 ?_
            refine nv_ge (x := v) (y := sv 0) (tgt := 97) hx hb dX8_anew_44 (by decide) (by omega) (by omega) (fun c44 => ?_) (fun c44 => ?_)
            · refine lv_iload_n hx hb dX8_anew_97 rfl (lv_at hl 1 rfl) ?_
              refine lv_aload_n hx hb dX8_anew_98 rfl (lv_at hl 0 rfl) ?_
              refine lv_iload_n hx hb dX8_anew_99 rfl (lv_at hl 3 rfl) ?_
              refine ti (y := (nI v9)) (by have e9 : v = sv 0 := (by omega); rw [e9, hv9]; rfl) ?_
              refine ca_Vi (ci := 7) (q := (RX8, TX8, 17)) (rest := [.int (nI t)]) (wr := ([] : va_W)) F hX (mX8_wayOf l G ad z fo sv d pa ke ik fa te (mesN (sf sv) (sg sv) (sc sv) (sv 6) (sv 1) (sv 0) (clo (sf sv) (sg sv) t (sv 1) (sv 2)) y) v9 hB (mesN_le hy) (maS_lt hv9).1 (by rw [hag v9 (maS_lt hv9).1]; exact hv9l) (WOK_ag hE hag hO9)) (cA_V hts kw_810 kw_8 kw_807 kw_809 kp_32 hdX8_wayOf ⟨Nat.le_of_ble_eq_true rfl, Nat.le_of_ble_eq_true rfl⟩) rfl rfl rfl hl.1 rfl (Nat.le_of_ble_eq_true rfl) dX8_anew_100 ⟨Nat.le_of_ble_eq_true rfl, Nat.le_of_ble_eq_true rfl⟩ hP hD hS hA (pm_nil _) (fun r100 u100 H locs hp100 hP hD hS => ?_)
              have hP : va_P G.1 vwCl (mow G ad z fo sv d pa ke ik fa te (mesN (sf sv) (sg sv) (sc sv) (sv 6) (sv 1) (sv 0) (clo (sf sv) (sg sv) t (sv 1) (sv 2)) y)) H := wp_pm (pm_nil _).symm hP
              have hD : va_D A (mow G ad z fo sv d pa ke ik fa te (mesN (sf sv) (sg sv) (sc sv) (sv 6) (sv 1) (sv 0) (clo (sf sv) (sg sv) t (sv 1) (sv 2)) y)) := wd_pm (pm_nil _).symm hD
              subst hp100
              refine ti (y := (nI (wyM (sf sv) (sg sv) (sc sv) (sv 6) (sv 1) (sv 0) (sv 2) t v9))) (by rw [wfM_ag hE hag _ _ _ (maS_lt hv9).1]; rfl) ?_
              refine lv_ior hx hb dX8_anew_103 (ti (y := (nI (t ||| (wyM (sf sv) (sg sv) (sc sv) (sv 6) (sv 1) (sv 0) (sv 2) t v9)))) (qn_or _ _) ?_)
              refine lv_istore_n (lv' := [(1, .int (nI (t ||| (wyM (sf sv) (sg sv) (sc sv) (sv 6) (sv 1) (sv 0) (sv 2) t v9)))), (0, .ref (ad 0)), (2, .int (nI (nd (sv 4) (clo (sf sv) (sg sv) t (sv 1) (sv 2))))), (3, .int (oN (maS (W0 (sf sv) (sg sv) (sc sv) (sv 6) (sv 1) (sv 0) (clo (sf sv) (sg sv) t (sv 1) (sv 2))) (leF (sf sv) (sg sv) (sv 1) (sv 2) (sv 4) t) v))), (4, .int (nI v))]) hx hb dX8_anew_104 rfl hl (by decide) rfl (fun ls hl => ?_)
              refine lv_aload_n hx hb dX8_anew_105 rfl (lv_at hl 1 rfl) ?_
              refine va_get (D := G.1) (ci := 7) (v := .ref (ad 1)) (C := RX8) (T := TX8) (N := 17) hx hb hts inA8 hown hX.1 hP 0 rfl rfl 1 (by decide) (hts _ kw_681) (fun _ h9 => h9) rfl dX8_anew_106 ?_
              refine lv_iconst (v := (nI 4)) hx hb dX8_anew_109 (by decide) ?_
              refine nv_ald (f := sv) (k := 4) hx hb hX hP 1 rfl (by omega) (by decide) dX8_anew_110 ?_
              refine lv_aload_n hx hb dX8_anew_111 rfl (lv_at hl 1 rfl) ?_
              refine lv_iload_n hx hb dX8_anew_112 rfl (lv_at hl 0 rfl) ?_
              refine ca_Vi (ci := 7) (q := (RX8, TX8, 17)) (rest := [.int (nI (sv 4))]) (wr := ([] : va_W)) F hX (mX8_nodesOf l G ad z fo sv d pa ke ik fa te (mesN (sf sv) (sg sv) (sc sv) (sv 6) (sv 1) (sv 0) (clo (sf sv) (sg sv) t (sv 1) (sv 2)) y) (t ||| (wyM (sf sv) (sg sv) (sc sv) (sv 6) (sv 1) (sv 0) (sv 2) t v9)) hB (Nat.lt_trans (or_lt (n := 12) ht (wfM_lt b4 _ _ _ (by decide))) (by decide))) (cA_V hts kw_798 kw_8 kw_795 kw_797 kp_30 hdX8_nodesOf ⟨Nat.le_of_ble_eq_true rfl, Nat.le_of_ble_eq_true rfl⟩) rfl rfl rfl hl.1 rfl (Nat.le_of_ble_eq_true rfl) dX8_anew_113 ⟨Nat.le_of_ble_eq_true rfl, Nat.le_of_ble_eq_true rfl⟩ hP hD hS hA (pm_nil _) (fun r113 u113 H locs hp113 hP hD hS => ?_)
              have hP : va_P G.1 vwCl (mow G ad z fo sv d pa ke ik fa te (mesN (sf sv) (sg sv) (sc sv) (sv 6) (sv 1) (sv 0) (clo (sf sv) (sg sv) t (sv 1) (sv 2)) y)) H := wp_pm (pm_nil _).symm hP
              have hD : va_D A (mow G ad z fo sv d pa ke ik fa te (mesN (sf sv) (sg sv) (sc sv) (sv 6) (sv 1) (sv 0) (clo (sf sv) (sg sv) t (sv 1) (sv 2)) y)) := wd_pm (pm_nil _).symm hD
              subst hp113
              refine lv_iconst (v := (-1)) hx hb dX8_anew_116 (by decide) ?_
              refine lv_ixor hx hb dX8_anew_117 ?_
              refine lv_iand hx hb dX8_anew_118 (ti (y := (nI (nd (sv 4) (clo (sf sv) (sg sv) (t ||| (wyM (sf sv) (sg sv) (sc sv) (sv 6) (sv 1) (sv 0) (sv 2) t v9)) (sv 1) (sv 2))))) (qn_andn _ _) ?_)
              refine lv_istore_n (lv' := [(2, .int (nI (nd (sv 4) (clo (sf sv) (sg sv) (t ||| (wyM (sf sv) (sg sv) (sc sv) (sv 6) (sv 1) (sv 0) (sv 2) t v9)) (sv 1) (sv 2))))), (1, .int (nI (t ||| (wyM (sf sv) (sg sv) (sc sv) (sv 6) (sv 1) (sv 0) (sv 2) t v9)))), (0, .ref (ad 0)), (3, .int (oN (maS (W0 (sf sv) (sg sv) (sc sv) (sv 6) (sv 1) (sv 0) (clo (sf sv) (sg sv) t (sv 1) (sv 2))) (leF (sf sv) (sg sv) (sv 1) (sv 2) (sv 4) t) v))), (4, .int (nI v))]) hx hb dX8_anew_119 rfl hl (by decide) rfl (fun ls hl => ?_)
              refine lv_goto (tgt := 17) hx hb dX8_anew_120 (by decide) ?_
              exact ih17 (m9 - 1) (t ||| (wyM (sf sv) (sg sv) (sc sv) (sv 6) (sv 1) (sv 0) (sv 2) t v9)) (mesN (sf sv) (sg sv) (sc sv) (sv 6) (sv 1) (sv 0) (clo (sf sv) (sg sv) t (sv 1) (sv 2)) y) (by omega) (or_lt (n := 12) ht (wfM_lt b4 _ _ _ (by decide))) hPA9 (mesN_le hy) (by omega) (by have e9 : m9 = (m9 - 1) + 1 := (by omega); rw [e9, mnN_go c18 hv9] at hres; exact hres) _ _ hP hD hS ls (lv_sub hl [2, 1, 0] rfl)
            · refine lv_iload_n hx hb dX8_anew_47 rfl (lv_at hl 2 rfl) ?_
              refine lv_iload hx hb dX8_anew_48 (lv_at hl 4 rfl) ?_
              refine ca_Si (rest := []) (wr := mow G ad z fo sv d pa ke ik fa te (mesN (sf sv) (sg sv) (sc sv) (sv 6) (sv 1) (sv 0) (clo (sf sv) (sg sv) t (sv 1) (sv 2)) y)) F hX (mX8_has l G (nd (sv 4) (clo (sf sv) (sg sv) t (sv 1) (sv 2))) v (by have := nd_le (sv 4) (clo (sf sv) (sg sv) t (sv 1) (sv 2)); omega) (by omega)) (cA_S hts kw_801 kw_8 kw_799 kw_800 hdX8_has ⟨Nat.le_of_ble_eq_true rfl, Nat.le_of_ble_eq_true rfl⟩) rfl hl.1 rfl (Nat.le_of_ble_eq_true rfl) dX8_anew_50 ⟨Nat.le_of_ble_eq_true rfl, Nat.le_of_ble_eq_true rfl⟩ hP hD hS hA (List.Perm.refl _) (fun r50 u50 H locs hp50 hP hD hS => ?_)
              have hP : va_P G.1 vwCl (mow G ad z fo sv d pa ke ik fa te (mesN (sf sv) (sg sv) (sc sv) (sv 6) (sv 1) (sv 0) (clo (sf sv) (sg sv) t (sv 1) (sv 2)) y)) H := hP
              have hD : va_D A (mow G ad z fo sv d pa ke ik fa te (mesN (sf sv) (sg sv) (sc sv) (sv 6) (sv 1) (sv 0) (clo (sf sv) (sg sv) t (sv 1) (sv 2)) y)) := hD
              subst hp50
              refine bv_eq (b := (nd (sv 4) (clo (sf sv) (sg sv) t (sv 1) (sv 2))).testBit v) (tgt := 89) hx hb dX8_anew_53 (by decide) (fun c53 => ?_) (fun c53 => ?_)
              · refine lv_iload_n hx hb dX8_anew_89 rfl (lv_at hl 3 rfl) ?_
                refine lv_istore_n (lv' := [(3, .int (oN (maS (W0 (sf sv) (sg sv) (sc sv) (sv 6) (sv 1) (sv 0) (clo (sf sv) (sg sv) t (sv 1) (sv 2))) (leF (sf sv) (sg sv) (sv 1) (sv 2) (sv 4) t) v))), (0, .ref (ad 0)), (1, .int (nI t)), (2, .int (nI (nd (sv 4) (clo (sf sv) (sg sv) t (sv 1) (sv 2))))), (4, .int (nI v))]) hx hb dX8_anew_90 rfl hl (by decide) rfl (fun ls hl => ?_)
                refine lv_iinc (v := (nI (v + 1))) (lv' := [(4, .int (nI (v + 1))), (3, .int (oN (maS (W0 (sf sv) (sg sv) (sc sv) (sv 6) (sv 1) (sv 0) (clo (sf sv) (sg sv) t (sv 1) (sv 2))) (leF (sf sv) (sg sv) (sv 1) (sv 2) (sv 4) t) v))), (0, .ref (ad 0)), (1, .int (nI t)), (2, .int (nI (nd (sv 4) (clo (sf sv) (sg sv) t (sv 1) (sv 2)))))]) hx hb dX8_anew_91 hl (k := 4) rfl (qn_inc _) (by decide) rfl (fun ls hl => ?_)
                refine lv_goto (tgt := 36) hx hb dX8_anew_94 (by decide) ?_
                exact ih36 (v + 1) (maS (W0 (sf sv) (sg sv) (sc sv) (sv 6) (sv 1) (sv 0) (clo (sf sv) (sg sv) t (sv 1) (sv 2))) (leF (sf sv) (sg sv) (sv 1) (sv 2) (sv 4) t) v) (by omega) (maS_no c53).symm (by omega) _ _ hP hD hS ls (lv_sub hl [2, 3, 4, 1, 0] rfl)
              · refine lv_iload_n hx hb dX8_anew_56 rfl (lv_at hl 3 rfl) ?_
                rcases hu : (maS (W0 (sf sv) (sg sv) (sc sv) (sv 6) (sv 1) (sv 0) (clo (sf sv) (sg sv) t (sv 1) (sv 2))) (leF (sf sv) (sg sv) (sv 1) (sv 2) (sv 4) t) v) with _ | u
                · have hl : lv_has ls 5 [(0, .ref (ad 0)), (1, .int (nI t)), (2, .int (nI (nd (sv 4) (clo (sf sv) (sg sv) t (sv 1) (sv 2))))), (3, .int (-9)), (4, .int (nI v))] := by rw [hu] at hl; exact hl
                  refine lv_bipush (v := (-9)) hx hb dX8_anew_57 (by decide) ?_
                  refine lv_icmp_eq (x := (-9)) (y := (-9)) (tgt := 84) hx hb dX8_anew_59 (by decide) (fun _ => ?_) (fun h9 => absurd rfl h9)
                  refine lv_iload hx hb dX8_anew_84 (lv_at hl 4 rfl) ?_
                  refine lv_goto (tgt := 90) hx hb dX8_anew_86 (by decide) ?_
                  refine lv_istore_n (lv' := [(3, .int (nI v)), (0, .ref (ad 0)), (1, .int (nI t)), (2, .int (nI (nd (sv 4) (clo (sf sv) (sg sv) t (sv 1) (sv 2))))), (4, .int (nI v))]) hx hb dX8_anew_90 rfl hl (by decide) rfl (fun ls hl => ?_)
                  refine lv_iinc (v := (nI (v + 1))) (lv' := [(4, .int (nI (v + 1))), (3, .int (nI v)), (0, .ref (ad 0)), (1, .int (nI t)), (2, .int (nI (nd (sv 4) (clo (sf sv) (sg sv) t (sv 1) (sv 2)))))]) hx hb dX8_anew_91 hl (k := 4) rfl (qn_inc _) (by decide) rfl (fun ls hl => ?_)
                  refine lv_goto (tgt := 36) hx hb dX8_anew_94 (by decide) ?_
                  exact ih36 (v + 1) (some v) (by omega) (maS_first hu c53).symm (by omega) _ _ hP hD hS ls (lv_sub hl [2, 3, 4, 1, 0] rfl)
                · have hl : lv_has ls 5 [(0, .ref (ad 0)), (1, .int (nI t)), (2, .int (nI (nd (sv 4) (clo (sf sv) (sg sv) t (sv 1) (sv 2))))), (3, .int (nI u)), (4, .int (nI v))] := by rw [hu] at hl; exact hl
                  have hu7 := (maS_lt hu).1
                  refine lv_bipush (v := (-9)) hx hb dX8_anew_57 (by decide) ?_
                  refine lv_icmp_eq (x := (nI u)) (y := (-9)) (tgt := 84) hx hb dX8_anew_59 (by decide) (fun h9 => absurd h9 (nI_n9 (by omega))) (fun _ => ?_)
                  refine lv_aload_n hx hb dX8_anew_62 rfl (lv_at hl 0 rfl) ?_
                  refine va_get (D := G.1) (ci := 7) (v := .ref (ad 8)) (C := RX8) (T := TX8) (N := 17) hx hb hts inA8 hown hX.1 hP 0 rfl rfl 15 (by decide) (hts _ kw_695) (fun _ h9 => h9) rfl dX8_anew_63 ?_
                  refine lv_iload hx hb dX8_anew_66 (lv_at hl 4 rfl) ?_
                  refine nv_ald (f := mesN (sf sv) (sg sv) (sc sv) (sv 6) (sv 1) (sv 0) (clo (sf sv) (sg sv) t (sv 1) (sv 2)) y) (k := v) hx hb hX hP 8 rfl (by omega) (by decide) dX8_anew_68 ?_
                  refine ti (y := (nI ((W0 (sf sv) (sg sv) (sc sv) (sv 6) (sv 1) (sv 0) (clo (sf sv) (sg sv) t (sv 1) (sv 2))) v))) (by rw [hag v (by omega)]) ?_
                  refine lv_bipush (v := (nI 16)) hx hb dX8_anew_69 (by decide) ?_
                  refine lv_idiv hx hb dX8_anew_71 (by decide) (ti (y := (nI (((W0 (sf sv) (sg sv) (sc sv) (sv 6) (sv 1) (sv 0) (clo (sf sv) (sg sv) t (sv 1) (sv 2))) v) / 16))) (pk_div (by have := hwl v; omega) (by decide) (by decide)) ?_)
                  refine lv_aload_n hx hb dX8_anew_72 rfl (lv_at hl 0 rfl) ?_
                  refine va_get (D := G.1) (ci := 7) (v := .ref (ad 8)) (C := RX8) (T := TX8) (N := 17) hx hb hts inA8 hown hX.1 hP 0 rfl rfl 15 (by decide) (hts _ kw_695) (fun _ h9 => h9) rfl dX8_anew_73 ?_
                  refine lv_iload_n hx hb dX8_anew_76 rfl (lv_at hl 3 rfl) ?_
                  refine nv_ald (f := mesN (sf sv) (sg sv) (sc sv) (sv 6) (sv 1) (sv 0) (clo (sf sv) (sg sv) t (sv 1) (sv 2)) y) (k := u) hx hb hX hP 8 rfl (by omega) (by decide) dX8_anew_77 ?_
                  refine ti (y := (nI ((W0 (sf sv) (sg sv) (sc sv) (sv 6) (sv 1) (sv 0) (clo (sf sv) (sg sv) t (sv 1) (sv 2))) u))) (by rw [hag u (by omega)]) ?_
                  refine lv_bipush (v := (nI 16)) hx hb dX8_anew_78 (by decide) ?_
                  refine lv_idiv hx hb dX8_anew_80 (by decide) (ti (y := (nI (((W0 (sf sv) (sg sv) (sc sv) (sv 6) (sv 1) (sv 0) (clo (sf sv) (sg sv) t (sv 1) (sv 2))) u) / 16))) (pk_div (by have := hwl u; omega) (by decide) (by decide)) ?_)
                  refine nv_ge (x := ((W0 (sf sv) (sg sv) (sc sv) (sv 6) (sv 1) (sv 0) (clo (sf sv) (sg sv) t (sv 1) (sv 2))) v) / 16) (y := ((W0 (sf sv) (sg sv) (sc sv) (sv 6) (sv 1) (sv 0) (clo (sf sv) (sg sv) t (sv 1) (sv 2))) u) / 16) (tgt := 89) hx hb dX8_anew_81 (by decide) (by have := hwl v; omega) (by have := hwl u; omega) (fun c81 => ?_) (fun c81 => ?_)
                  · refine lv_iload_n hx hb dX8_anew_89 rfl (lv_at hl 3 rfl) ?_
                    refine lv_istore_n (lv' := [(3, .int (nI u)), (0, .ref (ad 0)), (1, .int (nI t)), (2, .int (nI (nd (sv 4) (clo (sf sv) (sg sv) t (sv 1) (sv 2))))), (4, .int (nI v))]) hx hb dX8_anew_90 rfl hl (by decide) rfl (fun ls hl => ?_)
                    refine lv_iinc (v := (nI (v + 1))) (lv' := [(4, .int (nI (v + 1))), (3, .int (nI u)), (0, .ref (ad 0)), (1, .int (nI t)), (2, .int (nI (nd (sv 4) (clo (sf sv) (sg sv) t (sv 1) (sv 2)))))]) hx hb dX8_anew_91 hl (k := 4) rfl (qn_inc _) (by decide) rfl (fun ls hl => ?_)
                    refine lv_goto (tgt := 36) hx hb dX8_anew_94 (by decide) ?_
                    exact ih36 (v + 1) (some u) (by omega) (maS_keep hu c81).symm (by omega) _ _ hP hD hS ls (lv_sub hl [2, 3, 4, 1, 0] rfl)
                  · refine lv_iload hx hb dX8_anew_84 (lv_at hl 4 rfl) ?_
                    refine lv_goto (tgt := 90) hx hb dX8_anew_86 (by decide) ?_
                    refine lv_istore_n (lv' := [(3, .int (nI v)), (0, .ref (ad 0)), (1, .int (nI t)), (2, .int (nI (nd (sv 4) (clo (sf sv) (sg sv) t (sv 1) (sv 2))))), (4, .int (nI v))]) hx hb dX8_anew_90 rfl hl (by decide) rfl (fun ls hl => ?_)
                    refine lv_iinc (v := (nI (v + 1))) (lv' := [(4, .int (nI (v + 1))), (3, .int (nI v)), (0, .ref (ad 0)), (1, .int (nI t)), (2, .int (nI (nd (sv 4) (clo (sf sv) (sg sv) t (sv 1) (sv 2)))))]) hx hb dX8_anew_91 hl (k := 4) rfl (qn_inc _) (by decide) rfl (fun ls hl => ?_)
                    refine lv_goto (tgt := 36) hx hb dX8_anew_94 (by decide) ?_
                    exact ih36 (v + 1) (some v) (by omega) (maS_less hu c53 c81).symm (by omega) _ _ hP hD hS ls (lv_sub hl [2, 3, 4, 1, 0] rfl)
        exact lp36 _ 0 none (Nat.lt_succ_self _) rfl (Nat.zero_le _) _ _ hP hD hS ls (lv_sub hl [2, 3, 4, 1, 0] rfl)
  exact lp17 _ 128 0 aw (Nat.lt_succ_self _) (by decide) hPA0 ha (Nat.lt_of_le_of_lt (nd_le _ _) b5) rfl _ _ hP hD hS ls (lv_sub hl [2, 1, 0] rfl)

theorem hdX8_notes : hdOK yX8_notes 0 := by decide +kernel
set_option maxHeartbeats 4000000 in
set_option maxRecDepth 100000 in
theorem mX8_notes (l : Launch) (G : GG) (ad : Nat → Nat) (z : Nat → Nat) (fo : Option Nat) (sv : Nat → Nat) (d : Nat → Int32) (pa ke : Nat → Nat) (ik fa : Nat → Int32) (te aw : Nat → Nat) (hu4 : z 4 ≤ 6) : Mv l yX8_notes cX8_notes 2 none (rmN 0 0) G [.ref (ad 0)] (mow G ad z fo sv d pa ke ik fa te aw) (fun (_ : Unit) => True) (fun (_ : Unit) => mow G ad (va_up z 4 (ntU (z 4) + 1)) fo sv d (ntP pa sv (z 4)) ke ik fa te aw) := by
  refine Mv.of (cc := cX8_notes) (nL := 2) (by decide) (Nat.le_of_ble_eq_true rfl) ?_
  intro p e s m below meth c A ls F hr hlocks hnm hX hA hD hP hS hl
  have F : CallFix p m c cX8_notes 2 s [.ref (ad 0)].toArray wA RX8 := F
  obtain ⟨hx, hb, hml, hown, hts⟩ := id F
  have hl : lv_has ls 2 [(0, .ref (ad 0))] := hl
  have hu5 := ntU_le hu4
  refine lv_aload_n hx hb dX8_notes_0 rfl (lv_at hl 0 rfl) ?_
  refine va_get (D := G.1) (ci := 7) (v := .int (nI (z 4))) (C := RX8) (T := TX8) (N := 17) hx hb hts inA8 hown hX.1 hP 0 rfl rfl 4 (by decide) (hts _ kw_684) (fun _ h9 => h9) rfl dX8_notes_1 ?_
  refine lv_bipush (v := (nI 6)) hx hb dX8_notes_4 (by decide) ?_
  refine nv_ne (x := z 4) (y := 6) (tgt := 49) hx hb dX8_notes_6 (by decide) (by omega) (by decide) (fun c6 => ?_) (fun c6 => ?_)
  · have e9a : ntU (z 4) = z 4 := by unfold ntU; rw [if_neg c6]
    have e9b : va_up z 4 (z 4) = z := by funext j; unfold va_up; split <;> simp_all
    have hP : va_P G.1 vwCl (mow G ad (va_up z 4 (ntU (z 4))) fo sv d (if z 4 = 6 then shP pa 260 else pa) ke ik fa te aw) s.heap := by rw [e9a, if_neg c6, e9b]; exact hP
    have hD : va_D A (mow G ad (va_up z 4 (ntU (z 4))) fo sv d (if z 4 = 6 then shP pa 260 else pa) ke ik fa te aw) := by rw [e9a, if_neg c6, e9b]; exact hD
    refine lv_iconst (v := (nI 0)) hx hb dX8_notes_49 (by decide) ?_
    refine lv_istore_n (lv' := [(1, .int (nI 0)), (0, .ref (ad 0))]) hx hb dX8_notes_50 rfl hl (by decide) rfl (fun ls hl => ?_)
    have lp51 : ∀ (n51 : Nat) (k : Nat) (y : Nat → Nat), (52 - k) < n51 → y = coP (if z 4 = 6 then shP pa 260 else pa) sv (52 * ntU (z 4)) k → (k ≤ 52) → ∀ (H : Heap) (locs : List Loc), va_P G.1 vwCl (mow G ad (va_up z 4 (ntU (z 4))) fo sv d y ke ik fa te aw) H → va_D A (mow G ad (va_up z 4 (ntU (z 4))) fo sv d y ke ik fa te aw) → va_S A s.heap H locs → ∀ (ls : Array Slot), lv_has ls 2 [(0, .ref (ad 0)), (1, .int (nI k))] → WV p l e (rmN 0 0) s m [.ref (ad 0)] below meth c H locs G A (fun (_ : Unit) => True) (fun (_ : Unit) => mow G ad (va_up z 4 (ntU (z 4) + 1)) fo sv d (ntP pa sv (z 4)) ke ik fa te aw) (F0 m 51 ls []) := by
      intro n51
      induction n51 with
      | zero => intro k y h9; exact absurd h9 (Nat.not_lt_zero _)
      | succ n51 ih51 =>
        intro k y hm51 e_y hk H locs hP hD hS ls hl
        subst e_y
        refine lv_iload_n hx hb dX8_notes_51 rfl (lv_at hl 1 rfl) ?_
        refine lv_bipush (v := (nI 52)) hx hb dX8_notes_52 (by decide) ?_
        refine nv_ge (x := k) (y := 52) (tgt := 83) hx hb dX8_notes_54 (by decide) (by omega) (by decide) (fun c54 => ?_) (fun c54 => ?_)
        · refine lv_aload_n hx hb dX8_notes_83 rfl (lv_at hl 0 rfl) ?_
          refine lv_dup hx hb dX8_notes_84 rfl ?_
          refine va_get (D := G.1) (ci := 7) (v := .int (nI (ntU (z 4)))) (C := RX8) (T := TX8) (N := 17) hx hb hts inA8 hown hX.1 hP 0 rfl rfl 4 (by decide) (hts _ kw_684) (fun _ h9 => h9) rfl dX8_notes_85 ?_
          refine lv_iconst (v := (nI 1)) hx hb dX8_notes_88 (by decide) ?_
          refine lv_iadd hx hb dX8_notes_89 (ti (y := (nI ((ntU (z 4)) + 1))) (nI_add _ _) ?_)
          refine va_put (D := G.1) (ci := 7) (v := .int (nI ((ntU (z 4)) + 1))) (ty := .int) (C := RX8) (T := TX8) (N := 17) hx hb hts inA8 tyX8 tyX8_ok nmX8 hown hX.1 hP hD hS 0 rfl rfl 4 (by decide) (hts _ kw_684) (fun _ h9 => h9) rfl (by decide +kernel) rfl rfl (Nat.le_of_ble_eq_true rfl) dX8_notes_90 (fun H locs hP hD hS => ?_)
          have hP : va_P G.1 vwCl (mow G ad (va_up z 4 ((ntU (z 4)) + 1)) fo sv d (coP (if z 4 = 6 then shP pa 260 else pa) sv (52 * ntU (z 4)) k) ke ik fa te aw) H := hP
          have hD : va_D A (mow G ad (va_up z 4 ((ntU (z 4)) + 1)) fo sv d (coP (if z 4 = 6 then shP pa 260 else pa) sv (52 * ntU (z 4)) k) ke ik fa te aw) := hD
          have e9 : k = 52 := (by omega)
          rw [e9] at hP hD
          exact re_v hx hb hr hlocks hS () hP hD trivial dX8_notes_93
        · refine lv_aload_n hx hb dX8_notes_57 rfl (lv_at hl 0 rfl) ?_
          refine va_get (D := G.1) (ci := 7) (v := .ref (ad 3)) (C := RX8) (T := TX8) (N := 17) hx hb hts inA8 hown hX.1 hP 0 rfl rfl 3 (by decide) (hts _ kw_683) (fun _ h9 => h9) rfl dX8_notes_58 ?_
          refine lv_bipush (v := (nI 52)) hx hb dX8_notes_61 (by decide) ?_
          refine lv_aload_n hx hb dX8_notes_63 rfl (lv_at hl 0 rfl) ?_
          refine va_get (D := G.1) (ci := 7) (v := .int (nI (ntU (z 4)))) (C := RX8) (T := TX8) (N := 17) hx hb hts inA8 hown hX.1 hP 0 rfl rfl 4 (by decide) (hts _ kw_684) (fun _ h9 => h9) rfl dX8_notes_64 ?_
          refine lv_imul hx hb dX8_notes_67 (ti (y := (nI (52 * (ntU (z 4))))) (pk_mul _ _) ?_)
          refine lv_iload_n hx hb dX8_notes_68 rfl (lv_at hl 1 rfl) ?_
          refine lv_iadd hx hb dX8_notes_69 (ti (y := (nI ((52 * (ntU (z 4))) + k))) (nI_add _ _) ?_)
          refine lv_aload_n hx hb dX8_notes_70 rfl (lv_at hl 0 rfl) ?_
          refine va_get (D := G.1) (ci := 7) (v := .ref (ad 1)) (C := RX8) (T := TX8) (N := 17) hx hb hts inA8 hown hX.1 hP 0 rfl rfl 1 (by decide) (hts _ kw_681) (fun _ h9 => h9) rfl dX8_notes_71 ?_
          refine lv_iload_n hx hb dX8_notes_74 rfl (lv_at hl 1 rfl) ?_
          refine nv_ald (f := sv) (k := k) hx hb hX hP 1 rfl (by omega) (by decide) dX8_notes_75 ?_
          refine nv_ast (f := (coP (if z 4 = 6 then shP pa 260 else pa) sv (52 * ntU (z 4)) k)) (k := (52 * (ntU (z 4))) + k) (v := sv k) hx hb hX hP hD hS 3 rfl (by omega) (by decide) dX8_notes_76 (fun H locs hP hD hS => ?_)
          have hP : va_P G.1 vwCl (mow G ad (va_up z 4 (ntU (z 4))) fo sv d (va_up (coP (if z 4 = 6 then shP pa 260 else pa) sv (52 * ntU (z 4)) k) ((52 * (ntU (z 4))) + k) (sv k)) ke ik fa te aw) H := hP
          have hD : va_D A (mow G ad (va_up z 4 (ntU (z 4))) fo sv d (va_up (coP (if z 4 = 6 then shP pa 260 else pa) sv (52 * ntU (z 4)) k) ((52 * (ntU (z 4))) + k) (sv k)) ke ik fa te aw) := hD
          refine lv_iinc (v := (nI (k + 1))) (lv' := [(1, .int (nI (k + 1))), (0, .ref (ad 0))]) hx hb dX8_notes_77 hl (k := 1) rfl (qn_inc _) (by decide) rfl (fun ls hl => ?_)
          refine lv_goto (tgt := 51) hx hb dX8_notes_80 (by decide) ?_
          exact ih51 (k + 1) (va_up (coP (if z 4 = 6 then shP pa 260 else pa) sv (52 * ntU (z 4)) k) ((52 * (ntU (z 4))) + k) (sv k)) (by omega) (coP_s _ _ _ _) (by omega) _ _ hP hD hS ls (lv_sub hl [1, 0] rfl)
    exact lp51 _ 0 (if z 4 = 6 then shP pa 260 else pa) (Nat.lt_succ_self _) (coP_0 _ _ _).symm (Nat.zero_le _) _ _ hP hD hS ls (lv_sub hl [1, 0] rfl)
  · refine lv_iconst (v := (nI 0)) hx hb dX8_notes_9 (by decide) ?_
    refine lv_istore_n (lv' := [(1, .int (nI 0)), (0, .ref (ad 0))]) hx hb dX8_notes_10 rfl hl (by decide) rfl (fun ls hl => ?_)
    have lp11 : ∀ (n11 : Nat) (k : Nat) (y : Nat → Nat), (260 - k) < n11 → y = shP pa k → (k ≤ 260) → ∀ (H : Heap) (locs : List Loc), va_P G.1 vwCl (mow G ad z fo sv d y ke ik fa te aw) H → va_D A (mow G ad z fo sv d y ke ik fa te aw) → va_S A s.heap H locs → ∀ (ls : Array Slot), lv_has ls 2 [(0, .ref (ad 0)), (1, .int (nI k))] → WV p l e (rmN 0 0) s m [.ref (ad 0)] below meth c H locs G A (fun (_ : Unit) => True) (fun (_ : Unit) => mow G ad (va_up z 4 (ntU (z 4) + 1)) fo sv d (ntP pa sv (z 4)) ke ik fa te aw) (F0 m 11 ls []) := by
      intro n11
      induction n11 with
      | zero => intro k y h9; exact absurd h9 (Nat.not_lt_zero _)
      | succ n11 ih11 =>
        intro k y hm11 e_y hk H locs hP hD hS ls hl
        subst e_y
        refine lv_iload_n hx hb dX8_notes_11 rfl (lv_at hl 1 rfl) ?_
        refine lv_sipush (v := (nI 260)) hx hb dX8_notes_12 (by decide) ?_
        refine nv_ge (x := k) (y := 260) (tgt := 39) hx hb dX8_notes_15 (by decide) (by omega) (by decide) (fun c15 => ?_) (fun c15 => ?_)
        · refine lv_aload_n hx hb dX8_notes_39 rfl (lv_at hl 0 rfl) ?_
          refine lv_dup hx hb dX8_notes_40 rfl ?_
          refine va_get (D := G.1) (ci := 7) (v := .int (nI (z 4))) (C := RX8) (T := TX8) (N := 17) hx hb hts inA8 hown hX.1 hP 0 rfl rfl 4 (by decide) (hts _ kw_684) (fun _ h9 => h9) rfl dX8_notes_41 ?_
          refine lv_iconst (v := (nI 1)) hx hb dX8_notes_44 (by decide) ?_
          refine lv_isub hx hb dX8_notes_45 (ti (y := (nI ((z 4) - 1))) (pk_sub (by omega)) ?_)
          refine va_put (D := G.1) (ci := 7) (v := .int (nI ((z 4) - 1))) (ty := .int) (C := RX8) (T := TX8) (N := 17) hx hb hts inA8 tyX8 tyX8_ok nmX8 hown hX.1 hP hD hS 0 rfl rfl 4 (by decide) (hts _ kw_684) (fun _ h9 => h9) rfl (by decide +kernel) rfl rfl (Nat.le_of_ble_eq_true rfl) dX8_notes_46 (fun H locs hP hD hS => ?_)
          have hP : va_P G.1 vwCl (mow G ad (va_up z 4 ((z 4) - 1)) fo sv d (shP pa k) ke ik fa te aw) H := hP
          have hD : va_D A (mow G ad (va_up z 4 ((z 4) - 1)) fo sv d (shP pa k) ke ik fa te aw) := hD
          have e9k : k = 260 := by omega
          have e9a : ntU (z 4) = z 4 - 1 := by unfold ntU; rw [if_pos c6]; omega
          rw [e9k] at hP hD
          have hP : va_P G.1 vwCl (mow G ad (va_up z 4 (ntU (z 4))) fo sv d (if z 4 = 6 then shP pa 260 else pa) ke ik fa te aw) H := by rw [e9a, if_pos c6]; exact hP
          have hD : va_D A (mow G ad (va_up z 4 (ntU (z 4))) fo sv d (if z 4 = 6 then shP pa 260 else pa) ke ik fa te aw) := by rw [e9a, if_pos c6]; exact hD
          refine lv_iconst (v := (nI 0)) hx hb dX8_notes_49 (by decide) ?_
          refine lv_istore_n (lv' := [(1, .int (nI 0)), (0, .ref (ad 0))]) hx hb dX8_notes_50 rfl hl (by decide) rfl (fun ls hl => ?_)
          have lp51 : ∀ (n51 : Nat) (k : Nat) (y : Nat → Nat), (52 - k) < n51 → y = coP (if z 4 = 6 then shP pa 260 else pa) sv (52 * ntU (z 4)) k → (k ≤ 52) → ∀ (H : Heap) (locs : List Loc), va_P G.1 vwCl (mow G ad (va_up z 4 (ntU (z 4))) fo sv d y ke ik fa te aw) H → va_D A (mow G ad (va_up z 4 (ntU (z 4))) fo sv d y ke ik fa te aw) → va_S A s.heap H locs → ∀ (ls : Array Slot), lv_has ls 2 [(0, .ref (ad 0)), (1, .int (nI k))] → WV p l e (rmN 0 0) s m [.ref (ad 0)] below meth c H locs G A (fun (_ : Unit) => True) (fun (_ : Unit) => mow G ad (va_up z 4 (ntU (z 4) + 1)) fo sv d (ntP pa sv (z 4)) ke ik fa te aw) (F0 m 51 ls []) := by
            intro n51
            induction n51 with
            | zero => intro k y h9; exact absurd h9 (Nat.not_lt_zero _)
            | succ n51 ih51 =>
              intro k y hm51 e_y hk H locs hP hD hS ls hl
              subst e_y
              refine lv_iload_n hx hb dX8_notes_51 rfl (lv_at hl 1 rfl) ?_
              refine lv_bipush (v := (nI 52)) hx hb dX8_notes_52 (by decide) ?_
              refine nv_ge (x := k) (y := 52) (tgt := 83) hx hb dX8_notes_54 (by decide) (by omega) (by decide) (fun c54 => ?_) (fun c54 => ?_)
              · refine lv_aload_n hx hb dX8_notes_83 rfl (lv_at hl 0 rfl) ?_
                refine lv_dup hx hb dX8_notes_84 rfl ?_
                refine va_get (D := G.1) (ci := 7) (v := .int (nI (ntU (z 4)))) (C := RX8) (T := TX8) (N := 17) hx hb hts inA8 hown hX.1 hP 0 rfl rfl 4 (by decide) (hts _ kw_684) (fun _ h9 => h9) rfl dX8_notes_85 ?_
                refine lv_iconst (v := (nI 1)) hx hb dX8_notes_88 (by decide) ?_
                refine lv_iadd hx hb dX8_notes_89 (ti (y := (nI ((ntU (z 4)) + 1))) (nI_add _ _) ?_)
                refine va_put (D := G.1) (ci := 7) (v := .int (nI ((ntU (z 4)) + 1))) (ty := .int) (C := RX8) (T := TX8) (N := 17) hx hb hts inA8 tyX8 tyX8_ok nmX8 hown hX.1 hP hD hS 0 rfl rfl 4 (by decide) (hts _ kw_684) (fun _ h9 => h9) rfl (by decide +kernel) rfl rfl (Nat.le_of_ble_eq_true rfl) dX8_notes_90 (fun H locs hP hD hS => ?_)
                have hP : va_P G.1 vwCl (mow G ad (va_up z 4 ((ntU (z 4)) + 1)) fo sv d (coP (if z 4 = 6 then shP pa 260 else pa) sv (52 * ntU (z 4)) k) ke ik fa te aw) H := hP
                have hD : va_D A (mow G ad (va_up z 4 ((ntU (z 4)) + 1)) fo sv d (coP (if z 4 = 6 then shP pa 260 else pa) sv (52 * ntU (z 4)) k) ke ik fa te aw) := hD
                have e9 : k = 52 := (by omega)
                rw [e9] at hP hD
                exact re_v hx hb hr hlocks hS () hP hD trivial dX8_notes_93
              · refine lv_aload_n hx hb dX8_notes_57 rfl (lv_at hl 0 rfl) ?_
                refine va_get (D := G.1) (ci := 7) (v := .ref (ad 3)) (C := RX8) (T := TX8) (N := 17) hx hb hts inA8 hown hX.1 hP 0 rfl rfl 3 (by decide) (hts _ kw_683) (fun _ h9 => h9) rfl dX8_notes_58 ?_
                refine lv_bipush (v := (nI 52)) hx hb dX8_notes_61 (by decide) ?_
                refine lv_aload_n hx hb dX8_notes_63 rfl (lv_at hl 0 rfl) ?_
                refine va_get (D := G.1) (ci := 7) (v := .int (nI (ntU (z 4)))) (C := RX8) (T := TX8) (N := 17) hx hb hts inA8 hown hX.1 hP 0 rfl rfl 4 (by decide) (hts _ kw_684) (fun _ h9 => h9) rfl dX8_notes_64 ?_
                refine lv_imul hx hb dX8_notes_67 (ti (y := (nI (52 * (ntU (z 4))))) (pk_mul _ _) ?_)
                refine lv_iload_n hx hb dX8_notes_68 rfl (lv_at hl 1 rfl) ?_
                refine lv_iadd hx hb dX8_notes_69 (ti (y := (nI ((52 * (ntU (z 4))) + k))) (nI_add _ _) ?_)
                refine lv_aload_n hx hb dX8_notes_70 rfl (lv_at hl 0 rfl) ?_
                refine va_get (D := G.1) (ci := 7) (v := .ref (ad 1)) (C := RX8) (T := TX8) (N := 17) hx hb hts inA8 hown hX.1 hP 0 rfl rfl 1 (by decide) (hts _ kw_681) (fun _ h9 => h9) rfl dX8_notes_71 ?_
                refine lv_iload_n hx hb dX8_notes_74 rfl (lv_at hl 1 rfl) ?_
                refine nv_ald (f := sv) (k := k) hx hb hX hP 1 rfl (by omega) (by decide) dX8_notes_75 ?_
                refine nv_ast (f := (coP (if z 4 = 6 then shP pa 260 else pa) sv (52 * ntU (z 4)) k)) (k := (52 * (ntU (z 4))) + k) (v := sv k) hx hb hX hP hD hS 3 rfl (by omega) (by decide) dX8_notes_76 (fun H locs hP hD hS => ?_)
                have hP : va_P G.1 vwCl (mow G ad (va_up z 4 (ntU (z 4))) fo sv d (va_up (coP (if z 4 = 6 then shP pa 260 else pa) sv (52 * ntU (z 4)) k) ((52 * (ntU (z 4))) + k) (sv k)) ke ik fa te aw) H := hP
                have hD : va_D A (mow G ad (va_up z 4 (ntU (z 4))) fo sv d (va_up (coP (if z 4 = 6 then shP pa 260 else pa) sv (52 * ntU (z 4)) k) ((52 * (ntU (z 4))) + k) (sv k)) ke ik fa te aw) := hD
                refine lv_iinc (v := (nI (k + 1))) (lv' := [(1, .int (nI (k + 1))), (0, .ref (ad 0))]) hx hb dX8_notes_77 hl (k := 1) rfl (qn_inc _) (by decide) rfl (fun ls hl => ?_)
                refine lv_goto (tgt := 51) hx hb dX8_notes_80 (by decide) ?_
                exact ih51 (k + 1) (va_up (coP (if z 4 = 6 then shP pa 260 else pa) sv (52 * ntU (z 4)) k) ((52 * (ntU (z 4))) + k) (sv k)) (by omega) (coP_s _ _ _ _) (by omega) _ _ hP hD hS ls (lv_sub hl [1, 0] rfl)
          exact lp51 _ 0 (if z 4 = 6 then shP pa 260 else pa) (Nat.lt_succ_self _) (coP_0 _ _ _).symm (Nat.zero_le _) _ _ hP hD hS ls (lv_sub hl [1, 0] rfl)
        · refine lv_aload_n hx hb dX8_notes_18 rfl (lv_at hl 0 rfl) ?_
          refine va_get (D := G.1) (ci := 7) (v := .ref (ad 3)) (C := RX8) (T := TX8) (N := 17) hx hb hts inA8 hown hX.1 hP 0 rfl rfl 3 (by decide) (hts _ kw_683) (fun _ h9 => h9) rfl dX8_notes_19 ?_
          refine lv_iload_n hx hb dX8_notes_22 rfl (lv_at hl 1 rfl) ?_
          refine lv_aload_n hx hb dX8_notes_23 rfl (lv_at hl 0 rfl) ?_
          refine va_get (D := G.1) (ci := 7) (v := .ref (ad 3)) (C := RX8) (T := TX8) (N := 17) hx hb hts inA8 hown hX.1 hP 0 rfl rfl 3 (by decide) (hts _ kw_683) (fun _ h9 => h9) rfl dX8_notes_24 ?_
          refine lv_iload_n hx hb dX8_notes_27 rfl (lv_at hl 1 rfl) ?_
          refine lv_bipush (v := (nI 52)) hx hb dX8_notes_28 (by decide) ?_
          refine lv_iadd hx hb dX8_notes_30 (ti (y := (nI (k + 52))) (nI_add _ _) ?_)
          refine nv_ald (f := (shP pa k)) (k := k + 52) hx hb hX hP 3 rfl (by omega) (by decide) dX8_notes_31 ?_
          refine nv_ast (f := (shP pa k)) (k := k) (v := (shP pa k) (k + 52)) hx hb hX hP hD hS 3 rfl (by omega) (by decide) dX8_notes_32 (fun H locs hP hD hS => ?_)
          have hP : va_P G.1 vwCl (mow G ad z fo sv d (va_up (shP pa k) k ((shP pa k) (k + 52))) ke ik fa te aw) H := hP
          have hD : va_D A (mow G ad z fo sv d (va_up (shP pa k) k ((shP pa k) (k + 52))) ke ik fa te aw) := hD
          refine lv_iinc (v := (nI (k + 1))) (lv' := [(1, .int (nI (k + 1))), (0, .ref (ad 0))]) hx hb dX8_notes_33 hl (k := 1) rfl (qn_inc _) (by decide) rfl (fun ls hl => ?_)
          refine lv_goto (tgt := 11) hx hb dX8_notes_36 (by decide) ?_
          exact ih11 (k + 1) (va_up (shP pa k) k ((shP pa k) (k + 52))) (by omega) (shP_s _ _) (by omega) _ _ hP hD hS ls (lv_sub hl [1, 0] rfl)
    exact lp11 _ 0 pa (Nat.lt_succ_self _) (shP_0 _).symm (Nat.zero_le _) _ _ hP hD hS ls (lv_sub hl [1, 0] rfl)

theorem hdX8_markOf : hdOK yX8_markOf 1 := by decide +kernel
set_option maxHeartbeats 4000000 in
set_option maxRecDepth 100000 in
theorem mX8_markOf (l : Launch) (G : GG) (ad : Nat → Nat) (z : Nat → Nat) (fo : Option Nat) (sv : Nat → Nat) (d : Nat → Int32) (pa ke : Nat → Nat) (ik fa : Nat → Int32) (te aw : Nat → Nat) (v : Nat) (hB : SB sv) (hv : v < 2 ^ 31) : Mi l yX8_markOf cX8_markOf 4 (some .int) (rmN 0 0) G [.ref (ad 0), .int (nI v)] (mow G ad z fo sv d pa ke ik fa te aw) (fun (r9 : Int32) (_ : Unit) => r9 = (oN (mmF (sm sv) v (sv 7)))) (fun (_ : Unit) => mow G ad z fo sv d pa ke ik fa te aw) := by
  refine Mi.of (cc := cX8_markOf) (nL := 4) (by decide) (Nat.le_of_ble_eq_true rfl) ?_
  intro p e s m below meth c A ls F hr hlocks hnm hX hA hD hP hS hl
  have F : CallFix p m c cX8_markOf 4 s [.ref (ad 0), .int (nI v)].toArray wA RX8 := F
  obtain ⟨hx, hb, hml, hown, hts⟩ := id F
  have hl : lv_has ls 4 [(0, .ref (ad 0)), (1, .int (nI v))] := hl
  obtain ⟨⟨b0, b1, b2, b3, b4, b5, b6, b7, b8⟩, g1, g2, g3, g4⟩ := id hB
  have gf : ∀ j, sf sv j < 10 := fun j => g1 (16 + j) (by omega)
  have gg : ∀ j, sg sv j < 10 := fun j => g1 (28 + j) (by omega)
  have gc : ∀ j, sc sv j ≤ 9 := fun j => by have := g1 (40 + j) (by omega); unfold sc; omega
  have gf7 : ∀ j, j < 12 → sf sv j < 7 := g2
  have gg7 : ∀ j, j < 12 → sg sv j < 7 := g3
  have gm7 : ∀ j, j < 8 → sm sv j < 7 := g4
  refine lv_bipush (v := (-9)) hx hb dX8_markOf_0 (by decide) ?_
  refine lv_istore_n (lv' := [(2, .int (-9)), (0, .ref (ad 0)), (1, .int (nI v))]) hx hb dX8_markOf_2 rfl hl (by decide) rfl (fun ls hl => ?_)
  refine lv_iconst (v := (nI 0)) hx hb dX8_markOf_3 (by decide) ?_
  refine lv_istore_n (lv' := [(3, .int (nI 0)), (2, .int (-9)), (0, .ref (ad 0)), (1, .int (nI v))]) hx hb dX8_markOf_4 rfl hl (by decide) rfl (fun ls hl => ?_)
  have lp5 : ∀ (n5 : Nat) (k : Nat) (o : Option Nat), (sv 7 - k) < n5 → o = mmF (sm sv) v k → (k ≤ sv 7) → ∀ (H : Heap) (locs : List Loc), va_P G.1 vwCl (mow G ad z fo sv d pa ke ik fa te aw) H → va_D A (mow G ad z fo sv d pa ke ik fa te aw) → va_S A s.heap H locs → ∀ (ls : Array Slot), lv_has ls 4 [(0, .ref (ad 0)), (1, .int (nI v)), (2, .int (oN o)), (3, .int (nI k))] → WI p l e (rmN 0 0) s m [.ref (ad 0), .int (nI v)] below meth c H locs G A (fun (r9 : Int32) (_ : Unit) => r9 = (oN (mmF (sm sv) v (sv 7)))) (fun (_ : Unit) => mow G ad z fo sv d pa ke ik fa te aw) (F0 m 5 ls []) := by
    intro n5
    induction n5 with
    | zero => intro k o h9; exact absurd h9 (Nat.not_lt_zero _)
    | succ n5 ih5 =>
      intro k o hm5 e_o hk H locs hP hD hS ls hl
      subst e_o
      refine lv_iload_n hx hb dX8_markOf_5 rfl (lv_at hl 3 rfl) ?_
      refine lv_aload_n hx hb dX8_markOf_6 rfl (lv_at hl 0 rfl) ?_
      refine va_get (D := G.1) (ci := 7) (v := .ref (ad 1)) (C := RX8) (T := TX8) (N := 17) hx hb hts inA8 hown hX.1 hP 0 rfl rfl 1 (by decide) (hts _ kw_681) (fun _ h9 => h9) rfl dX8_markOf_7 ?_
      refine lv_bipush (v := (nI 7)) hx hb dX8_markOf_10 (by decide) ?_
      refine nv_ald (f := sv) (k := 7) hx hb hX hP 1 rfl (by omega) (by decide) dX8_markOf_12 ?_
      refine nv_ge (x := k) (y := sv 7) (tgt := 41) hx hb dX8_markOf_13 (by decide) (by omega) (by omega) (fun c13 => ?_) (fun c13 => ?_)
      · refine lv_iload_n hx hb dX8_markOf_41 rfl (lv_at hl 2 rfl) ?_
        exact re_i (v := (oN (mmF (sm sv) v k))) hx hb hr hlocks hS () hP hD (by have e9 : k = sv 7 := (by omega); rw [e9]) dX8_markOf_42
      · refine lv_aload_n hx hb dX8_markOf_16 rfl (lv_at hl 0 rfl) ?_
        refine va_get (D := G.1) (ci := 7) (v := .ref (ad 1)) (C := RX8) (T := TX8) (N := 17) hx hb hts inA8 hown hX.1 hP 0 rfl rfl 1 (by decide) (hts _ kw_681) (fun _ h9 => h9) rfl dX8_markOf_17 ?_
        refine lv_bipush (v := (nI 8)) hx hb dX8_markOf_20 (by decide) ?_
        refine lv_iload_n hx hb dX8_markOf_22 rfl (lv_at hl 3 rfl) ?_
        refine lv_iadd hx hb dX8_markOf_23 (ti (y := (nI (8 + k))) (nI_add _ _) ?_)
        refine nv_ald (f := sv) (k := 8 + k) hx hb hX hP 1 rfl (by omega) (by decide) dX8_markOf_24 ?_
        refine ti (y := (nI (sm sv k))) rfl ?_
        refine lv_iload_n hx hb dX8_markOf_25 rfl (lv_at hl 1 rfl) ?_
        refine nv_ne (x := sm sv k) (y := v) (tgt := 33) hx hb dX8_markOf_26 (by decide) (by have := gm7 k (by omega); omega) (by omega) (fun c26 => ?_) (fun c26 => ?_)
        · refine lv_iload_n hx hb dX8_markOf_33 rfl (lv_at hl 2 rfl) ?_
          refine lv_istore_n (lv' := [(2, .int (oN (mmF (sm sv) v k))), (0, .ref (ad 0)), (1, .int (nI v)), (3, .int (nI k))]) hx hb dX8_markOf_34 rfl hl (by decide) rfl (fun ls hl => ?_)
          refine lv_iinc (v := (nI (k + 1))) (lv' := [(3, .int (nI (k + 1))), (2, .int (oN (mmF (sm sv) v k))), (0, .ref (ad 0)), (1, .int (nI v))]) hx hb dX8_markOf_35 hl (k := 3) rfl (qn_inc _) (by decide) rfl (fun ls hl => ?_)
          refine lv_goto (tgt := 5) hx hb dX8_markOf_38 (by decide) ?_
          exact ih5 (k + 1) (mmF (sm sv) v k) (by omega) (by rw [mmF, if_neg c26]) (by omega) _ _ hP hD hS ls (lv_sub hl [2, 3, 1, 0] rfl)
        · refine lv_iload_n hx hb dX8_markOf_29 rfl (lv_at hl 3 rfl) ?_
          refine lv_goto (tgt := 34) hx hb dX8_markOf_30 (by decide) ?_
          refine lv_istore_n (lv' := [(2, .int (nI k)), (0, .ref (ad 0)), (1, .int (nI v)), (3, .int (nI k))]) hx hb dX8_markOf_34 rfl hl (by decide) rfl (fun ls hl => ?_)
          refine lv_iinc (v := (nI (k + 1))) (lv' := [(3, .int (nI (k + 1))), (2, .int (nI k)), (0, .ref (ad 0)), (1, .int (nI v))]) hx hb dX8_markOf_35 hl (k := 3) rfl (qn_inc _) (by decide) rfl (fun ls hl => ?_)
          refine lv_goto (tgt := 5) hx hb dX8_markOf_38 (by decide) ?_
          exact ih5 (k + 1) (some k) (by omega) (by rw [mmF, if_pos c26]) (by omega) _ _ hP hD hS ls (lv_sub hl [2, 3, 1, 0] rfl)
  exact lp5 _ 0 none (Nat.lt_succ_self _) rfl (Nat.zero_le _) _ _ hP hD hS ls (lv_sub hl [2, 3, 1, 0] rfl)

theorem hdX8_bares : hdOK yX8_bares 0 := by decide +kernel
set_option maxHeartbeats 4000000 in
set_option maxRecDepth 100000 in
theorem mX8_bares (l : Launch) (G : GG) (ad : Nat → Nat) (z : Nat → Nat) (fo : Option Nat) (sv : Nat → Nat) (d : Nat → Int32) (pa ke : Nat → Nat) (ik fa : Nat → Int32) (te aw : Nat → Nat)  : Mv l yX8_bares cX8_bares 2 none (rmN 0 0) G [.ref (ad 0)] (mow G ad z fo sv d pa ke ik fa te aw) (fun (_ : Unit) => True) (fun (_ : Unit) => mow G ad z fo (baS sv) d pa ke ik fa te aw) := by
  refine Mv.of (cc := cX8_bares) (nL := 2) (by decide) (Nat.le_of_ble_eq_true rfl) ?_
  intro p e s m below meth c A ls F hr hlocks hnm hX hA hD hP hS hl
  have F : CallFix p m c cX8_bares 2 s [.ref (ad 0)].toArray wA RX8 := F
  obtain ⟨hx, hb, hml, hown, hts⟩ := id F
  have hl : lv_has ls 2 [(0, .ref (ad 0))] := hl
  refine lv_iconst (v := (nI 0)) hx hb dX8_bares_0 (by decide) ?_
  refine lv_istore_n (lv' := [(1, .int (nI 0)), (0, .ref (ad 0))]) hx hb dX8_bares_1 rfl hl (by decide) rfl (fun ls hl => ?_)
  have lp2 : ∀ (n2 : Nat) (k : Nat) (y : Nat → Nat), (7 - k) < n2 → y = brS sv k → (k ≤ 7) → ∀ (H : Heap) (locs : List Loc), va_P G.1 vwCl (mow G ad z fo y d pa ke ik fa te aw) H → va_D A (mow G ad z fo y d pa ke ik fa te aw) → va_S A s.heap H locs → ∀ (ls : Array Slot), lv_has ls 2 [(0, .ref (ad 0)), (1, .int (nI k))] → WV p l e (rmN 0 0) s m [.ref (ad 0)] below meth c H locs G A (fun (_ : Unit) => True) (fun (_ : Unit) => mow G ad z fo (baS sv) d pa ke ik fa te aw) (F0 m 2 ls []) := by
    intro n2
    induction n2 with
    | zero => intro k y h9; exact absurd h9 (Nat.not_lt_zero _)
    | succ n2 ih2 =>
      intro k y hm2 e_y hk H locs hP hD hS ls hl
      subst e_y
      refine lv_iload_n hx hb dX8_bares_2 rfl (lv_at hl 1 rfl) ?_
      refine lv_bipush (v := (nI 7)) hx hb dX8_bares_3 (by decide) ?_
      refine nv_ge (x := k) (y := 7) (tgt := 24) hx hb dX8_bares_5 (by decide) (by omega) (by decide) (fun c5 => ?_) (fun c5 => ?_)
      · refine lv_aload_n hx hb dX8_bares_24 rfl (lv_at hl 0 rfl) ?_
        refine va_get (D := G.1) (ci := 7) (v := .ref (ad 1)) (C := RX8) (T := TX8) (N := 17) hx hb hts inA8 hown hX.1 hP 0 rfl rfl 1 (by decide) (hts _ kw_681) (fun _ h9 => h9) rfl dX8_bares_25 ?_
        refine lv_bipush (v := (nI 7)) hx hb dX8_bares_28 (by decide) ?_
        refine lv_iconst (v := (nI 0)) hx hb dX8_bares_30 (by decide) ?_
        refine nv_ast (f := (brS sv k)) (k := 7) (v := 0) hx hb hX hP hD hS 1 rfl (by omega) (by decide) dX8_bares_31 (fun H locs hP hD hS => ?_)
        have hP : va_P G.1 vwCl (mow G ad z fo (va_up (brS sv k) 7 0) d pa ke ik fa te aw) H := hP
        have hD : va_D A (mow G ad z fo (va_up (brS sv k) 7 0) d pa ke ik fa te aw) := hD
        have e9 : k = 7 := (by omega)
        rw [e9] at hP hD
        exact re_v hx hb hr hlocks hS () hP hD trivial dX8_bares_32
      · refine lv_aload_n hx hb dX8_bares_8 rfl (lv_at hl 0 rfl) ?_
        refine va_get (D := G.1) (ci := 7) (v := .ref (ad 1)) (C := RX8) (T := TX8) (N := 17) hx hb hts inA8 hown hX.1 hP 0 rfl rfl 1 (by decide) (hts _ kw_681) (fun _ h9 => h9) rfl dX8_bares_9 ?_
        refine lv_bipush (v := (nI 8)) hx hb dX8_bares_12 (by decide) ?_
        refine lv_iload_n hx hb dX8_bares_14 rfl (lv_at hl 1 rfl) ?_
        refine lv_iadd hx hb dX8_bares_15 (ti (y := (nI (8 + k))) (nI_add _ _) ?_)
        refine lv_iconst (v := (nI 0)) hx hb dX8_bares_16 (by decide) ?_
        refine nv_ast (f := (brS sv k)) (k := 8 + k) (v := 0) hx hb hX hP hD hS 1 rfl (by omega) (by decide) dX8_bares_17 (fun H locs hP hD hS => ?_)
        have hP : va_P G.1 vwCl (mow G ad z fo (va_up (brS sv k) (8 + k) 0) d pa ke ik fa te aw) H := hP
        have hD : va_D A (mow G ad z fo (va_up (brS sv k) (8 + k) 0) d pa ke ik fa te aw) := hD
        refine lv_iinc (v := (nI (k + 1))) (lv' := [(1, .int (nI (k + 1))), (0, .ref (ad 0))]) hx hb dX8_bares_18 hl (k := 1) rfl (qn_inc _) (by decide) rfl (fun ls hl => ?_)
        refine lv_goto (tgt := 2) hx hb dX8_bares_21 (by decide) ?_
        exact ih2 (k + 1) (va_up (brS sv k) (8 + k) 0) (by omega) (brS_s _ _) (by omega) _ _ hP hD hS ls (lv_sub hl [1, 0] rfl)
  exact lp2 _ 0 sv (Nat.lt_succ_self _) (brS_0 _).symm (Nat.zero_le _) _ _ hP hD hS ls (lv_sub hl [1, 0] rfl)

theorem hdX8_marks : hdOK yX8_marks 1 := by decide +kernel
set_option maxHeartbeats 4000000 in
set_option maxRecDepth 100000 in
theorem mX8_marks (l : Launch) (G : GG) (ad : Nat → Nat) (z : Nat → Nat) (fo : Option Nat) (sv : Nat → Nat) (d : Nat → Int32) (pa ke : Nat → Nat) (ik fa : Nat → Int32) (te aw : Nat → Nat) (v : Nat) (hB : SB sv) (ha : ∀ j, aw j ≤ 1000000) (hv : v < 7) (hc : mmF (sm sv) v (sv 7) = none → sv 7 < 7) (hB2 : SB (mtS sv v)) (hA3 : AnS (mtS sv v)) : Mv l yX8_marks cX8_marks 4 none (rmN 4 95) G [.ref (ad 0), .int (nI v)] (mow G ad z fo sv d pa ke ik fa te aw) (fun (u9 : (Nat → Nat)) => ∀ j, u9 j ≤ 1000000) (fun (u9 : (Nat → Nat)) => mow G ad z fo (mkS sv v) d pa ke ik fa te u9) := by
  refine Mv.of (cc := cX8_marks) (nL := 4) (by decide) (Nat.le_of_ble_eq_true rfl) ?_
  intro p e s m below meth c A ls F hr hlocks hnm hX hA hD hP hS hl
  have F : CallFix p m c cX8_marks 4 s [.ref (ad 0), .int (nI v)].toArray wA RX8 := F
  obtain ⟨hx, hb, hml, hown, hts⟩ := id F
  have hl : lv_has ls 4 [(0, .ref (ad 0)), (1, .int (nI v))] := hl
  obtain ⟨⟨b0, b1, b2, b3, b4, b5, b6, b7, b8⟩, g1, g2, g3, g4⟩ := id hB
  have gf : ∀ j, sf sv j < 10 := fun j => g1 (16 + j) (by omega)
  have gg : ∀ j, sg sv j < 10 := fun j => g1 (28 + j) (by omega)
  have gc : ∀ j, sc sv j ≤ 9 := fun j => by have := g1 (40 + j) (by omega); unfold sc; omega
  have gf7 : ∀ j, j < 12 → sf sv j < 7 := g2
  have gg7 : ∀ j, j < 12 → sg sv j < 7 := g3
  refine lv_aload_n hx hb dX8_marks_0 rfl (lv_at hl 0 rfl) ?_
  refine lv_iload_n hx hb dX8_marks_1 rfl (lv_at hl 1 rfl) ?_
  refine ca_Vi (ci := 7) (q := (RX8, TX8, 17)) (rest := []) (wr := ([] : va_W)) F hX (mX8_markOf l G ad z fo sv d pa ke ik fa te aw v hB (by omega)) (cA_V hts kw_826 kw_8 kw_823 kw_825 kp_36 hdX8_markOf ⟨Nat.le_of_ble_eq_true rfl, Nat.le_of_ble_eq_true rfl⟩) rfl rfl rfl hl.1 rfl (Nat.le_of_ble_eq_true rfl) dX8_marks_2 ⟨Nat.le_of_ble_eq_true rfl, Nat.le_of_ble_eq_true rfl⟩ hP hD hS hA (pm_nil _) (fun r2 u2 H locs hp2 hP hD hS => ?_)
  have hP : va_P G.1 vwCl (mow G ad z fo sv d pa ke ik fa te aw) H := wp_pm (pm_nil _).symm hP
  have hD : va_D A (mow G ad z fo sv d pa ke ik fa te aw) := wd_pm (pm_nil _).symm hD
  subst hp2
  rcases hj : mmF (sm sv) v (sv 7) with _ | j
  · refine ti (y := -9) rfl ?_
    have hc7 := hc hj
    refine lv_istore_n (lv' := [(2, .int (-9)), (0, .ref (ad 0)), (1, .int (nI v))]) hx hb dX8_marks_5 rfl hl (by decide) rfl (fun ls hl => ?_)
    refine lv_iload_n hx hb dX8_marks_6 rfl (lv_at hl 0 rfl) ?_
    refine lv_bipush (v := (-9)) hx hb dX8_marks_7 (by decide) ?_
    refine lv_icmp_ne (x := (-9)) (y := (-9)) (tgt := 42) hx hb dX8_marks_9 (by decide) (fun h9 => absurd rfl h9) (fun _ => ?_)
    refine lv_aload_n hx hb dX8_marks_12 rfl (lv_at hl 1 rfl) ?_
    refine va_get (D := G.1) (ci := 7) (v := .ref (ad 1)) (C := RX8) (T := TX8) (N := 17) hx hb hts inA8 hown hX.1 hP 0 rfl rfl 1 (by decide) (hts _ kw_681) (fun _ h9 => h9) rfl dX8_marks_13 ?_
    refine lv_bipush (v := (nI 8)) hx hb dX8_marks_16 (by decide) ?_
    refine lv_aload_n hx hb dX8_marks_18 rfl (lv_at hl 1 rfl) ?_
    refine va_get (D := G.1) (ci := 7) (v := .ref (ad 1)) (C := RX8) (T := TX8) (N := 17) hx hb hts inA8 hown hX.1 hP 0 rfl rfl 1 (by decide) (hts _ kw_681) (fun _ h9 => h9) rfl dX8_marks_19 ?_
    refine lv_bipush (v := (nI 7)) hx hb dX8_marks_22 (by decide) ?_
    refine nv_ald (f := sv) (k := 7) hx hb hX hP 1 rfl (by omega) (by decide) dX8_marks_24 ?_
    refine lv_iadd hx hb dX8_marks_25 (ti (y := (nI (8 + (sv 7)))) (nI_add _ _) ?_)
    refine lv_iload_n hx hb dX8_marks_26 rfl (lv_at hl 2 rfl) ?_
    refine nv_ast (f := sv) (k := 8 + (sv 7)) (v := v) hx hb hX hP hD hS 1 rfl (by omega) (by decide) dX8_marks_27 (fun H locs hP hD hS => ?_)
    have hP : va_P G.1 vwCl (mow G ad z fo (va_up sv (8 + (sv 7)) v) d pa ke ik fa te aw) H := hP
    have hD : va_D A (mow G ad z fo (va_up sv (8 + (sv 7)) v) d pa ke ik fa te aw) := hD
    refine lv_aload_n hx hb dX8_marks_28 rfl (lv_at hl 1 rfl) ?_
    refine va_get (D := G.1) (ci := 7) (v := .ref (ad 1)) (C := RX8) (T := TX8) (N := 17) hx hb hts inA8 hown hX.1 hP 0 rfl rfl 1 (by decide) (hts _ kw_681) (fun _ h9 => h9) rfl dX8_marks_29 ?_
    refine lv_bipush (v := (nI 7)) hx hb dX8_marks_32 (by decide) ?_
    refine lv_dup2_11 hx hb dX8_marks_34 rfl rfl ?_
    refine nv_ald (f := va_up sv (8 + (sv 7)) v) (k := 7) hx hb hX hP 1 rfl (by omega) (by decide) dX8_marks_35 ?_
    refine ti (y := (nI (sv 7))) (by unfold va_up; rw [if_neg (by omega)]) ?_
    refine lv_iconst (v := (nI 1)) hx hb dX8_marks_36 (by decide) ?_
    refine lv_iadd hx hb dX8_marks_37 (ti (y := (nI ((sv 7) + 1))) (nI_add _ _) ?_)
    refine nv_ast (f := va_up sv (8 + (sv 7)) v) (k := 7) (v := (sv 7) + 1) hx hb hX hP hD hS 1 rfl (by omega) (by decide) dX8_marks_38 (fun H locs hP hD hS => ?_)
    have hP : va_P G.1 vwCl (mow G ad z fo (va_up (va_up sv (8 + (sv 7)) v) 7 ((sv 7) + 1)) d pa ke ik fa te aw) H := hP
    have hD : va_D A (mow G ad z fo (va_up (va_up sv (8 + (sv 7)) v) 7 ((sv 7) + 1)) d pa ke ik fa te aw) := hD
    refine lv_goto (tgt := 110) hx hb dX8_marks_39 (by decide) ?_
    have e8 : mtS sv v = va_up (va_up sv (8 + (sv 7)) v) 7 ((sv 7) + 1) := by unfold mtS; rw [hj]
    have hP : va_P G.1 vwCl (mow G ad z fo (mtS sv v) d pa ke ik fa te aw) H := by rw [e8]; exact hP
    have hD : va_D A (mow G ad z fo (mtS sv v) d pa ke ik fa te aw) := by rw [e8]; exact hD
    refine lv_aload_n hx hb dX8_marks_110 rfl (lv_at hl 1 rfl) ?_
    refine va_get (D := G.1) (ci := 7) (v := .ref (ad 1)) (C := RX8) (T := TX8) (N := 17) hx hb hts inA8 hown hX.1 hP 0 rfl rfl 1 (by decide) (hts _ kw_681) (fun _ h9 => h9) rfl dX8_marks_111 ?_
    refine lv_iconst (v := (nI 3)) hx hb dX8_marks_114 (by decide) ?_
    refine nv_ald (f := (mtS sv v)) (k := 3) hx hb hX hP 1 rfl (by omega) (by decide) dX8_marks_115 ?_
    refine nv_zle (x := (mtS sv v) 3) (tgt := 178) hx hb dX8_marks_116 (by decide) (by have := hB2.1.2.2.2.1; omega) (fun c116 => ?_) (fun c116 => ?_)
    · have e8 : mkS sv v = (mtS sv v) := by unfold mkS; rw [if_neg (fun h => absurd h.1 (by omega))]
      have hP : va_P G.1 vwCl (mow G ad z fo (mkS sv v) d pa ke ik fa te aw) H := by rw [e8]; exact hP
      have hD : va_D A (mow G ad z fo (mkS sv v) d pa ke ik fa te aw) := by rw [e8]; exact hD
      exact re_v hx hb hr hlocks hS aw hP hD ha dX8_marks_178
    · refine lv_aload_n hx hb dX8_marks_119 rfl (lv_at hl 1 rfl) ?_
      refine va_get (D := G.1) (ci := 7) (v := .ref (ad 1)) (C := RX8) (T := TX8) (N := 17) hx hb hts inA8 hown hX.1 hP 0 rfl rfl 1 (by decide) (hts _ kw_681) (fun _ h9 => h9) rfl dX8_marks_120 ?_
      refine lv_bipush (v := (nI 7)) hx hb dX8_marks_123 (by decide) ?_
      refine nv_ald (f := (mtS sv v)) (k := 7) hx hb hX hP 1 rfl (by omega) (by decide) dX8_marks_125 ?_
      refine lv_aload_n hx hb dX8_marks_126 rfl (lv_at hl 1 rfl) ?_
      refine va_get (D := G.1) (ci := 7) (v := .ref (ad 1)) (C := RX8) (T := TX8) (N := 17) hx hb hts inA8 hown hX.1 hP 0 rfl rfl 1 (by decide) (hts _ kw_681) (fun _ h9 => h9) rfl dX8_marks_127 ?_
      refine lv_iconst (v := (nI 3)) hx hb dX8_marks_130 (by decide) ?_
      refine nv_ald (f := (mtS sv v)) (k := 3) hx hb hX hP 1 rfl (by omega) (by decide) dX8_marks_131 ?_
      refine nv_lt (x := (mtS sv v) 7) (y := (mtS sv v) 3) (tgt := 178) hx hb dX8_marks_132 (by decide) (by have := hB2.1.2.2.2.2.2.2.2.2; omega) (by have := hB2.1.2.2.2.1; omega) (fun c132 => ?_) (fun c132 => ?_)
      · have e8 : mkS sv v = (mtS sv v) := by unfold mkS; rw [if_neg (fun h => absurd h.2 (by omega))]
        have hP : va_P G.1 vwCl (mow G ad z fo (mkS sv v) d pa ke ik fa te aw) H := by rw [e8]; exact hP
        have hD : va_D A (mow G ad z fo (mkS sv v) d pa ke ik fa te aw) := by rw [e8]; exact hD
        exact re_v hx hb hr hlocks hS aw hP hD ha dX8_marks_178
      · refine lv_aload_n hx hb dX8_marks_135 rfl (lv_at hl 1 rfl) ?_
        refine ca_Vi (ci := 7) (q := (RX8, TX8, 17)) (rest := []) (wr := ([] : va_W)) F hX (mX8_anew l G ad z fo (mtS sv v) d pa ke ik fa te aw  hB2 ha hA3) (cA_V hts kw_830 kw_8 kw_827 kw_829 kp_37 hdX8_anew ⟨Nat.le_of_ble_eq_true rfl, Nat.le_of_ble_eq_true rfl⟩) rfl rfl rfl hl.1 rfl (Nat.le_of_ble_eq_true rfl) dX8_marks_136 ⟨Nat.le_of_ble_eq_true rfl, Nat.le_of_ble_eq_true rfl⟩ hP hD hS hA (pm_nil _) (fun r136 u136 H locs hp136 hP hD hS => ?_)
        obtain ⟨e9, hu136⟩ := hp136
        subst e9
        have hP : va_P G.1 vwCl (mow G ad z fo (mtS sv v) d pa ke ik fa te u136) H := wp_pm (pm_nil _).symm hP
        have hD : va_D A (mow G ad z fo (mtS sv v) d pa ke ik fa te u136) := wd_pm (pm_nil _).symm hD
        refine lv_istore_n (lv' := [(3, .int (nI (anS (mtS sv v)))), (2, .int (-9)), (0, .ref (ad 0)), (1, .int (nI v))]) hx hb dX8_marks_139 rfl hl (by decide) rfl (fun ls hl => ?_)
        refine lv_aload_n hx hb dX8_marks_140 rfl (lv_at hl 2 rfl) ?_
        refine va_get (D := G.1) (ci := 7) (v := .ref (ad 1)) (C := RX8) (T := TX8) (N := 17) hx hb hts inA8 hown hX.1 hP 0 rfl rfl 1 (by decide) (hts _ kw_681) (fun _ h9 => h9) rfl dX8_marks_141 ?_
        refine lv_iconst (v := (nI 5)) hx hb dX8_marks_144 (by decide) ?_
        refine lv_aload_n hx hb dX8_marks_145 rfl (lv_at hl 2 rfl) ?_
        refine lv_iload_n hx hb dX8_marks_146 rfl (lv_at hl 0 rfl) ?_
        refine ca_Vi (ci := 7) (q := (RX8, TX8, 17)) (rest := [.int (nI 5), .ref (ad 1)]) (wr := ([] : va_W)) F hX (mX8_costOf l G ad z fo (mtS sv v) d pa ke ik fa te u136 (anS (mtS sv v)) hB2 (Nat.lt_trans hB2.anlt (by decide))) (cA_V hts kw_834 kw_8 kw_831 kw_833 kp_38 hdX8_costOf ⟨Nat.le_of_ble_eq_true rfl, Nat.le_of_ble_eq_true rfl⟩) rfl rfl rfl hl.1 rfl (Nat.le_of_ble_eq_true rfl) dX8_marks_147 ⟨Nat.le_of_ble_eq_true rfl, Nat.le_of_ble_eq_true rfl⟩ hP hD hS hA (pm_nil _) (fun r147 u147 H locs hp147 hP hD hS => ?_)
        have hP : va_P G.1 vwCl (mow G ad z fo (mtS sv v) d pa ke ik fa te u136) H := wp_pm (pm_nil _).symm hP
        have hD : va_D A (mow G ad z fo (mtS sv v) d pa ke ik fa te u136) := wd_pm (pm_nil _).symm hD
        subst hp147
        refine ti (y := (nI (coS (mtS sv v) (anS (mtS sv v))))) rfl ?_
        refine lv_aload_n hx hb dX8_marks_150 rfl (lv_at hl 2 rfl) ?_
        refine lv_aload_n hx hb dX8_marks_151 rfl (lv_at hl 2 rfl) ?_
        refine va_get (D := G.1) (ci := 7) (v := .ref (ad 1)) (C := RX8) (T := TX8) (N := 17) hx hb hts inA8 hown hX.1 hP 0 rfl rfl 1 (by decide) (hts _ kw_681) (fun _ h9 => h9) rfl dX8_marks_152 ?_
        refine lv_iconst (v := (nI 5)) hx hb dX8_marks_155 (by decide) ?_
        refine nv_ald (f := (mtS sv v)) (k := 5) hx hb hX hP 1 rfl (by omega) (by decide) dX8_marks_156 ?_
        refine ca_Vi (ci := 7) (q := (RX8, TX8, 17)) (rest := [.int (nI (coS (mtS sv v) (anS (mtS sv v)))), .int (nI 5), .ref (ad 1)]) (wr := ([] : va_W)) F hX (mX8_costOf l G ad z fo (mtS sv v) d pa ke ik fa te u136 ((mtS sv v) 5) hB2 (by have := hB2.1.2.2.2.2.2.2.1; omega)) (cA_V hts kw_834 kw_8 kw_831 kw_833 kp_38 hdX8_costOf ⟨Nat.le_of_ble_eq_true rfl, Nat.le_of_ble_eq_true rfl⟩) rfl rfl rfl hl.1 rfl (Nat.le_of_ble_eq_true rfl) dX8_marks_157 ⟨Nat.le_of_ble_eq_true rfl, Nat.le_of_ble_eq_true rfl⟩ hP hD hS hA (pm_nil _) (fun r157 u157 H locs hp157 hP hD hS => ?_)
        have hP : va_P G.1 vwCl (mow G ad z fo (mtS sv v) d pa ke ik fa te u136) H := wp_pm (pm_nil _).symm hP
        have hD : va_D A (mow G ad z fo (mtS sv v) d pa ke ik fa te u136) := wd_pm (pm_nil _).symm hD
        subst hp157
        refine ti (y := (nI (coS (mtS sv v) ((mtS sv v) 5)))) rfl ?_
        refine nv_ge (x := coS (mtS sv v) (anS (mtS sv v))) (y := coS (mtS sv v) ((mtS sv v) 5)) (tgt := 167) hx hb dX8_marks_160 (by decide) (by have := hB2.cst (anS (mtS sv v)); omega) (by have := hB2.cst (mtS sv v 5); omega) (fun c160 => ?_) (fun c160 => ?_)
        · refine lv_aload_n hx hb dX8_marks_167 rfl (lv_at hl 2 rfl) ?_
          refine va_get (D := G.1) (ci := 7) (v := .ref (ad 1)) (C := RX8) (T := TX8) (N := 17) hx hb hts inA8 hown hX.1 hP 0 rfl rfl 1 (by decide) (hts _ kw_681) (fun _ h9 => h9) rfl dX8_marks_168 ?_
          refine lv_iconst (v := (nI 5)) hx hb dX8_marks_171 (by decide) ?_
          refine nv_ald (f := (mtS sv v)) (k := 5) hx hb hX hP 1 rfl (by omega) (by decide) dX8_marks_172 ?_
          refine ti (y := (nI (if coS (mtS sv v) (anS (mtS sv v)) < coS (mtS sv v) ((mtS sv v) 5) then anS (mtS sv v) else (mtS sv v) 5))) (by rw [if_neg (Nat.not_lt.mpr c160)]) ?_
          refine nv_ast (f := (mtS sv v)) (k := 5) (v := if coS (mtS sv v) (anS (mtS sv v)) < coS (mtS sv v) ((mtS sv v) 5) then anS (mtS sv v) else (mtS sv v) 5) hx hb hX hP hD hS 1 rfl (by omega) (by decide) dX8_marks_173 (fun H locs hP hD hS => ?_)
          have hP : va_P G.1 vwCl (mow G ad z fo (va_up (mtS sv v) 5 (if coS (mtS sv v) (anS (mtS sv v)) < coS (mtS sv v) ((mtS sv v) 5) then anS (mtS sv v) else (mtS sv v) 5)) d pa ke ik fa te u136) H := hP
          have hD : va_D A (mow G ad z fo (va_up (mtS sv v) 5 (if coS (mtS sv v) (anS (mtS sv v)) < coS (mtS sv v) ((mtS sv v) 5) then anS (mtS sv v) else (mtS sv v) 5)) d pa ke ik fa te u136) := hD
          refine lv_aload_n hx hb dX8_marks_174 rfl (lv_at hl 2 rfl) ?_
          refine ca_Vv (ci := 7) (q := (RX8, TX8, 17)) (rest := []) (wr := ([] : va_W)) F hX (mX8_bares l G ad z fo (va_up (mtS sv v) 5 (if coS (mtS sv v) (anS (mtS sv v)) < coS (mtS sv v) ((mtS sv v) 5) then anS (mtS sv v) else (mtS sv v) 5)) d pa ke ik fa te u136  ) (cA_V hts kw_838 kw_8 kw_835 kw_837 kp_39 hdX8_bares ⟨Nat.le_of_ble_eq_true rfl, Nat.le_of_ble_eq_true rfl⟩) rfl rfl rfl hl.1 rfl (Nat.le_of_ble_eq_true rfl) dX8_marks_175 ⟨Nat.le_of_ble_eq_true rfl, Nat.le_of_ble_eq_true rfl⟩ hP hD hS hA (pm_nil _) (fun u175 H locs hp175 hP hD hS => ?_)
          have hP : va_P G.1 vwCl (mow G ad z fo (baS (va_up (mtS sv v) 5 (if coS (mtS sv v) (anS (mtS sv v)) < coS (mtS sv v) ((mtS sv v) 5) then anS (mtS sv v) else (mtS sv v) 5))) d pa ke ik fa te u136) H := wp_pm (pm_nil _).symm hP
          have hD : va_D A (mow G ad z fo (baS (va_up (mtS sv v) 5 (if coS (mtS sv v) (anS (mtS sv v)) < coS (mtS sv v) ((mtS sv v) 5) then anS (mtS sv v) else (mtS sv v) 5))) d pa ke ik fa te u136) := wd_pm (pm_nil _).symm hD
          have e8 : mkS sv v = baS (va_up (mtS sv v) 5 (if coS (mtS sv v) (anS (mtS sv v)) < coS (mtS sv v) ((mtS sv v) 5) then anS (mtS sv v) else (mtS sv v) 5)) := by unfold mkS; rw [if_pos ⟨c116, c132⟩]
          have hP : va_P G.1 vwCl (mow G ad z fo (mkS sv v) d pa ke ik fa te u136) H := by rw [e8]; exact hP
          have hD : va_D A (mow G ad z fo (mkS sv v) d pa ke ik fa te u136) := by rw [e8]; exact hD
          exact re_v hx hb hr hlocks hS u136 hP hD hu136 dX8_marks_178
        · refine lv_iload_n hx hb dX8_marks_163 rfl (lv_at hl 0 rfl) ?_
          refine lv_goto (tgt := 173) hx hb dX8_marks_164 (by decide) ?_
          refine ti (y := (nI (if coS (mtS sv v) (anS (mtS sv v)) < coS (mtS sv v) ((mtS sv v) 5) then anS (mtS sv v) else (mtS sv v) 5))) (by rw [if_pos c160]) ?_
          refine nv_ast (f := (mtS sv v)) (k := 5) (v := if coS (mtS sv v) (anS (mtS sv v)) < coS (mtS sv v) ((mtS sv v) 5) then anS (mtS sv v) else (mtS sv v) 5) hx hb hX hP hD hS 1 rfl (by omega) (by decide) dX8_marks_173 (fun H locs hP hD hS => ?_)
          have hP : va_P G.1 vwCl (mow G ad z fo (va_up (mtS sv v) 5 (if coS (mtS sv v) (anS (mtS sv v)) < coS (mtS sv v) ((mtS sv v) 5) then anS (mtS sv v) else (mtS sv v) 5)) d pa ke ik fa te u136) H := hP
          have hD : va_D A (mow G ad z fo (va_up (mtS sv v) 5 (if coS (mtS sv v) (anS (mtS sv v)) < coS (mtS sv v) ((mtS sv v) 5) then anS (mtS sv v) else (mtS sv v) 5)) d pa ke ik fa te u136) := hD
          refine lv_aload_n hx hb dX8_marks_174 rfl (lv_at hl 2 rfl) ?_
          refine ca_Vv (ci := 7) (q := (RX8, TX8, 17)) (rest := []) (wr := ([] : va_W)) F hX (mX8_bares l G ad z fo (va_up (mtS sv v) 5 (if coS (mtS sv v) (anS (mtS sv v)) < coS (mtS sv v) ((mtS sv v) 5) then anS (mtS sv v) else (mtS sv v) 5)) d pa ke ik fa te u136  ) (cA_V hts kw_838 kw_8 kw_835 kw_837 kp_39 hdX8_bares ⟨Nat.le_of_ble_eq_true rfl, Nat.le_of_ble_eq_true rfl⟩) rfl rfl rfl hl.1 rfl (Nat.le_of_ble_eq_true rfl) dX8_marks_175 ⟨Nat.le_of_ble_eq_true rfl, Nat.le_of_ble_eq_true rfl⟩ hP hD hS hA (pm_nil _) (fun u175 H locs hp175 hP hD hS => ?_)
          have hP : va_P G.1 vwCl (mow G ad z fo (baS (va_up (mtS sv v) 5 (if coS (mtS sv v) (anS (mtS sv v)) < coS (mtS sv v) ((mtS sv v) 5) then anS (mtS sv v) else (mtS sv v) 5))) d pa ke ik fa te u136) H := wp_pm (pm_nil _).symm hP
          have hD : va_D A (mow G ad z fo (baS (va_up (mtS sv v) 5 (if coS (mtS sv v) (anS (mtS sv v)) < coS (mtS sv v) ((mtS sv v) 5) then anS (mtS sv v) else (mtS sv v) 5))) d pa ke ik fa te u136) := wd_pm (pm_nil _).symm hD
          have e8 : mkS sv v = baS (va_up (mtS sv v) 5 (if coS (mtS sv v) (anS (mtS sv v)) < coS (mtS sv v) ((mtS sv v) 5) then anS (mtS sv v) else (mtS sv v) 5)) := by unfold mkS; rw [if_pos ⟨c116, c132⟩]
          have hP : va_P G.1 vwCl (mow G ad z fo (mkS sv v) d pa ke ik fa te u136) H := by rw [e8]; exact hP
          have hD : va_D A (mow G ad z fo (mkS sv v) d pa ke ik fa te u136) := by rw [e8]; exact hD
          exact re_v hx hb hr hlocks hS u136 hP hD hu136 dX8_marks_178
  · refine ti (y := nI j) rfl ?_
    have hjl := (mmF_lt hj).1
    refine lv_istore_n (lv' := [(2, .int (nI j)), (0, .ref (ad 0)), (1, .int (nI v))]) hx hb dX8_marks_5 rfl hl (by decide) rfl (fun ls hl => ?_)
    refine lv_iload_n hx hb dX8_marks_6 rfl (lv_at hl 0 rfl) ?_
    refine lv_bipush (v := (-9)) hx hb dX8_marks_7 (by decide) ?_
    refine lv_icmp_ne (x := (nI j)) (y := (-9)) (tgt := 42) hx hb dX8_marks_9 (by decide) (fun _ => ?_) (fun h9 => absurd h9 (nI_n9 (by omega)))
    refine lv_iload_n hx hb dX8_marks_42 rfl (lv_at hl 0 rfl) ?_
    refine lv_istore_n (lv' := [(3, .int (nI j)), (2, .int (nI j)), (0, .ref (ad 0)), (1, .int (nI v))]) hx hb dX8_marks_43 rfl hl (by decide) rfl (fun ls hl => ?_)
    have lp44 : ∀ (n44 : Nat) (q : Nat) (y : Nat → Nat), (sv 7 - q) < n44 → y = shM sv (8 + j) q → (j + q + 1 ≤ sv 7) → ∀ (H : Heap) (locs : List Loc), va_P G.1 vwCl (mow G ad z fo y d pa ke ik fa te aw) H → va_D A (mow G ad z fo y d pa ke ik fa te aw) → va_S A s.heap H locs → ∀ (ls : Array Slot), lv_has ls 4 [(0, .ref (ad 0)), (1, .int (nI v)), (2, .int (nI j)), (3, .int (nI (j + q)))] → WV p l e (rmN 4 95) s m [.ref (ad 0), .int (nI v)] below meth c H locs G A (fun (u9 : (Nat → Nat)) => ∀ j, u9 j ≤ 1000000) (fun (u9 : (Nat → Nat)) => mow G ad z fo (mkS sv v) d pa ke ik fa te u9) (F0 m 44 ls []) := by
      intro n44
      induction n44 with
      | zero => intro q y h9; exact absurd h9 (Nat.not_lt_zero _)
      | succ n44 ih44 =>
        intro q y hm44 e_y hq H locs hP hD hS ls hl
        subst e_y
        refine lv_iload_n hx hb dX8_marks_44 rfl (lv_at hl 3 rfl) ?_
        refine lv_iconst (v := (nI 1)) hx hb dX8_marks_45 (by decide) ?_
        refine lv_iadd hx hb dX8_marks_46 (ti (y := (nI ((j + q) + 1))) (nI_add _ _) ?_)
        refine lv_aload_n hx hb dX8_marks_47 rfl (lv_at hl 0 rfl) ?_
        refine va_get (D := G.1) (ci := 7) (v := .ref (ad 1)) (C := RX8) (T := TX8) (N := 17) hx hb hts inA8 hown hX.1 hP 0 rfl rfl 1 (by decide) (hts _ kw_681) (fun _ h9 => h9) rfl dX8_marks_48 ?_
        refine lv_bipush (v := (nI 7)) hx hb dX8_marks_51 (by decide) ?_
        refine nv_ald (f := (shM sv (8 + j) q)) (k := 7) hx hb hX hP 1 rfl (by omega) (by decide) dX8_marks_53 ?_
        refine ti (y := (nI (sv 7))) (by unfold shM; rw [if_neg (by omega)]) ?_
        refine nv_ge (x := (j + q) + 1) (y := sv 7) (tgt := 83) hx hb dX8_marks_54 (by decide) (by omega) (by omega) (fun c54 => ?_) (fun c54 => ?_)
        · refine lv_aload_n hx hb dX8_marks_83 rfl (lv_at hl 0 rfl) ?_
          refine va_get (D := G.1) (ci := 7) (v := .ref (ad 1)) (C := RX8) (T := TX8) (N := 17) hx hb hts inA8 hown hX.1 hP 0 rfl rfl 1 (by decide) (hts _ kw_681) (fun _ h9 => h9) rfl dX8_marks_84 ?_
          refine lv_bipush (v := (nI 7)) hx hb dX8_marks_87 (by decide) ?_
          refine lv_dup2_11 hx hb dX8_marks_89 rfl rfl ?_
          refine nv_ald (f := (shM sv (8 + j) q)) (k := 7) hx hb hX hP 1 rfl (by omega) (by decide) dX8_marks_90 ?_
          refine ti (y := (nI (sv 7))) (by unfold shM; rw [if_neg (by omega)]) ?_
          refine lv_iconst (v := (nI 1)) hx hb dX8_marks_91 (by decide) ?_
          refine lv_isub hx hb dX8_marks_92 (ti (y := (nI ((sv 7) - 1))) (pk_sub (by omega)) ?_)
          refine nv_ast (f := (shM sv (8 + j) q)) (k := 7) (v := (sv 7) - 1) hx hb hX hP hD hS 1 rfl (by omega) (by decide) dX8_marks_93 (fun H locs hP hD hS => ?_)
          have hP : va_P G.1 vwCl (mow G ad z fo (va_up (shM sv (8 + j) q) 7 ((sv 7) - 1)) d pa ke ik fa te aw) H := hP
          have hD : va_D A (mow G ad z fo (va_up (shM sv (8 + j) q) 7 ((sv 7) - 1)) d pa ke ik fa te aw) := hD
          refine lv_aload_n hx hb dX8_marks_94 rfl (lv_at hl 0 rfl) ?_
          refine va_get (D := G.1) (ci := 7) (v := .ref (ad 1)) (C := RX8) (T := TX8) (N := 17) hx hb hts inA8 hown hX.1 hP 0 rfl rfl 1 (by decide) (hts _ kw_681) (fun _ h9 => h9) rfl dX8_marks_95 ?_
          refine lv_bipush (v := (nI 8)) hx hb dX8_marks_98 (by decide) ?_
          refine lv_aload_n hx hb dX8_marks_100 rfl (lv_at hl 0 rfl) ?_
          refine va_get (D := G.1) (ci := 7) (v := .ref (ad 1)) (C := RX8) (T := TX8) (N := 17) hx hb hts inA8 hown hX.1 hP 0 rfl rfl 1 (by decide) (hts _ kw_681) (fun _ h9 => h9) rfl dX8_marks_101 ?_
          refine lv_bipush (v := (nI 7)) hx hb dX8_marks_104 (by decide) ?_
          refine nv_ald (f := va_up (shM sv (8 + j) q) 7 ((sv 7) - 1)) (k := 7) hx hb hX hP 1 rfl (by omega) (by decide) dX8_marks_106 ?_
          refine ti (y := (nI (sv 7 - 1))) rfl ?_
          refine lv_iadd hx hb dX8_marks_107 (ti (y := (nI (8 + (sv 7 - 1)))) (nI_add _ _) ?_)
          refine lv_iconst (v := (nI 0)) hx hb dX8_marks_108 (by decide) ?_
          refine nv_ast (f := va_up (shM sv (8 + j) q) 7 ((sv 7) - 1)) (k := 8 + (sv 7 - 1)) (v := 0) hx hb hX hP hD hS 1 rfl (by omega) (by decide) dX8_marks_109 (fun H locs hP hD hS => ?_)
          have hP : va_P G.1 vwCl (mow G ad z fo (va_up (va_up (shM sv (8 + j) q) 7 ((sv 7) - 1)) (8 + (sv 7 - 1)) 0) d pa ke ik fa te aw) H := hP
          have hD : va_D A (mow G ad z fo (va_up (va_up (shM sv (8 + j) q) 7 ((sv 7) - 1)) (8 + (sv 7 - 1)) 0) d pa ke ik fa te aw) := hD
          have e9 : q = sv 7 - 1 - j := by omega
          have e8 : mtS sv v = va_up (va_up (shM sv (8 + j) q) 7 ((sv 7) - 1)) (8 + (sv 7 - 1)) 0 := by unfold mtS; rw [hj, e9]
          have hP : va_P G.1 vwCl (mow G ad z fo (mtS sv v) d pa ke ik fa te aw) H := by rw [e8]; exact hP
          have hD : va_D A (mow G ad z fo (mtS sv v) d pa ke ik fa te aw) := by rw [e8]; exact hD
          refine lv_aload_n hx hb dX8_marks_110 rfl (lv_at hl 0 rfl) ?_
          refine va_get (D := G.1) (ci := 7) (v := .ref (ad 1)) (C := RX8) (T := TX8) (N := 17) hx hb hts inA8 hown hX.1 hP 0 rfl rfl 1 (by decide) (hts _ kw_681) (fun _ h9 => h9) rfl dX8_marks_111 ?_
          refine lv_iconst (v := (nI 3)) hx hb dX8_marks_114 (by decide) ?_
          refine nv_ald (f := (mtS sv v)) (k := 3) hx hb hX hP 1 rfl (by omega) (by decide) dX8_marks_115 ?_
          refine nv_zle (x := (mtS sv v) 3) (tgt := 178) hx hb dX8_marks_116 (by decide) (by have := hB2.1.2.2.2.1; omega) (fun c116 => ?_) (fun c116 => ?_)
          · have e8 : mkS sv v = (mtS sv v) := by unfold mkS; rw [if_neg (fun h => absurd h.1 (by omega))]
            have hP : va_P G.1 vwCl (mow G ad z fo (mkS sv v) d pa ke ik fa te aw) H := by rw [e8]; exact hP
            have hD : va_D A (mow G ad z fo (mkS sv v) d pa ke ik fa te aw) := by rw [e8]; exact hD
            exact re_v hx hb hr hlocks hS aw hP hD ha dX8_marks_178
          · refine lv_aload_n hx hb dX8_marks_119 rfl (lv_at hl 0 rfl) ?_
            refine va_get (D := G.1) (ci := 7) (v := .ref (ad 1)) (C := RX8) (T := TX8) (N := 17) hx hb hts inA8 hown hX.1 hP 0 rfl rfl 1 (by decide) (hts _ kw_681) (fun _ h9 => h9) rfl dX8_marks_120 ?_
            refine lv_bipush (v := (nI 7)) hx hb dX8_marks_123 (by decide) ?_
            refine nv_ald (f := (mtS sv v)) (k := 7) hx hb hX hP 1 rfl (by omega) (by decide) dX8_marks_125 ?_
            refine lv_aload_n hx hb dX8_marks_126 rfl (lv_at hl 0 rfl) ?_
            refine va_get (D := G.1) (ci := 7) (v := .ref (ad 1)) (C := RX8) (T := TX8) (N := 17) hx hb hts inA8 hown hX.1 hP 0 rfl rfl 1 (by decide) (hts _ kw_681) (fun _ h9 => h9) rfl dX8_marks_127 ?_
            refine lv_iconst (v := (nI 3)) hx hb dX8_marks_130 (by decide) ?_
            refine nv_ald (f := (mtS sv v)) (k := 3) hx hb hX hP 1 rfl (by omega) (by decide) dX8_marks_131 ?_
            refine nv_lt (x := (mtS sv v) 7) (y := (mtS sv v) 3) (tgt := 178) hx hb dX8_marks_132 (by decide) (by have := hB2.1.2.2.2.2.2.2.2.2; omega) (by have := hB2.1.2.2.2.1; omega) (fun c132 => ?_) (fun c132 => ?_)
            · have e8 : mkS sv v = (mtS sv v) := by unfold mkS; rw [if_neg (fun h => absurd h.2 (by omega))]
              have hP : va_P G.1 vwCl (mow G ad z fo (mkS sv v) d pa ke ik fa te aw) H := by rw [e8]; exact hP
              have hD : va_D A (mow G ad z fo (mkS sv v) d pa ke ik fa te aw) := by rw [e8]; exact hD
              exact re_v hx hb hr hlocks hS aw hP hD ha dX8_marks_178
            · refine lv_aload_n hx hb dX8_marks_135 rfl (lv_at hl 0 rfl) ?_
              refine ca_Vi (ci := 7) (q := (RX8, TX8, 17)) (rest := []) (wr := ([] : va_W)) F hX (mX8_anew l G ad z fo (mtS sv v) d pa ke ik fa te aw  hB2 ha hA3) (cA_V hts kw_830 kw_8 kw_827 kw_829 kp_37 hdX8_anew ⟨Nat.le_of_ble_eq_true rfl, Nat.le_of_ble_eq_true rfl⟩) rfl rfl rfl hl.1 rfl (Nat.le_of_ble_eq_true rfl) dX8_marks_136 ⟨Nat.le_of_ble_eq_true rfl, Nat.le_of_ble_eq_true rfl⟩ hP hD hS hA (pm_nil _) (fun r136 u136 H locs hp136 hP hD hS => ?_)
              obtain ⟨e9, hu136⟩ := hp136
              subst e9
              have hP : va_P G.1 vwCl (mow G ad z fo (mtS sv v) d pa ke ik fa te u136) H := wp_pm (pm_nil _).symm hP
              have hD : va_D A (mow G ad z fo (mtS sv v) d pa ke ik fa te u136) := wd_pm (pm_nil _).symm hD
              refine lv_istore_n (lv' := [(3, .int (nI (anS (mtS sv v)))), (0, .ref (ad 0)), (1, .int (nI v)), (2, .int (nI j))]) hx hb dX8_marks_139 rfl hl (by decide) rfl (fun ls hl => ?_)
              refine lv_aload_n hx hb dX8_marks_140 rfl (lv_at hl 1 rfl) ?_
              refine va_get (D := G.1) (ci := 7) (v := .ref (ad 1)) (C := RX8) (T := TX8) (N := 17) hx hb hts inA8 hown hX.1 hP 0 rfl rfl 1 (by decide) (hts _ kw_681) (fun _ h9 => h9) rfl dX8_marks_141 ?_
              refine lv_iconst (v := (nI 5)) hx hb dX8_marks_144 (by decide) ?_
              refine lv_aload_n hx hb dX8_marks_145 rfl (lv_at hl 1 rfl) ?_
              refine lv_iload_n hx hb dX8_marks_146 rfl (lv_at hl 0 rfl) ?_
              refine ca_Vi (ci := 7) (q := (RX8, TX8, 17)) (rest := [.int (nI 5), .ref (ad 1)]) (wr := ([] : va_W)) F hX (mX8_costOf l G ad z fo (mtS sv v) d pa ke ik fa te u136 (anS (mtS sv v)) hB2 (Nat.lt_trans hB2.anlt (by decide))) (cA_V hts kw_834 kw_8 kw_831 kw_833 kp_38 hdX8_costOf ⟨Nat.le_of_ble_eq_true rfl, Nat.le_of_ble_eq_true rfl⟩) rfl rfl rfl hl.1 rfl (Nat.le_of_ble_eq_true rfl) dX8_marks_147 ⟨Nat.le_of_ble_eq_true rfl, Nat.le_of_ble_eq_true rfl⟩ hP hD hS hA (pm_nil _) (fun r147 u147 H locs hp147 hP hD hS => ?_)
              have hP : va_P G.1 vwCl (mow G ad z fo (mtS sv v) d pa ke ik fa te u136) H := wp_pm (pm_nil _).symm hP
              have hD : va_D A (mow G ad z fo (mtS sv v) d pa ke ik fa te u136) := wd_pm (pm_nil _).symm hD
              subst hp147
              refine ti (y := (nI (coS (mtS sv v) (anS (mtS sv v))))) rfl ?_
              refine lv_aload_n hx hb dX8_marks_150 rfl (lv_at hl 1 rfl) ?_
              refine lv_aload_n hx hb dX8_marks_151 rfl (lv_at hl 1 rfl) ?_
              refine va_get (D := G.1) (ci := 7) (v := .ref (ad 1)) (C := RX8) (T := TX8) (N := 17) hx hb hts inA8 hown hX.1 hP 0 rfl rfl 1 (by decide) (hts _ kw_681) (fun _ h9 => h9) rfl dX8_marks_152 ?_
              refine lv_iconst (v := (nI 5)) hx hb dX8_marks_155 (by decide) ?_
              refine nv_ald (f := (mtS sv v)) (k := 5) hx hb hX hP 1 rfl (by omega) (by decide) dX8_marks_156 ?_
              refine ca_Vi (ci := 7) (q := (RX8, TX8, 17)) (rest := [.int (nI (coS (mtS sv v) (anS (mtS sv v)))), .int (nI 5), .ref (ad 1)]) (wr := ([] : va_W)) F hX (mX8_costOf l G ad z fo (mtS sv v) d pa ke ik fa te u136 ((mtS sv v) 5) hB2 (by have := hB2.1.2.2.2.2.2.2.1; omega)) (cA_V hts kw_834 kw_8 kw_831 kw_833 kp_38 hdX8_costOf ⟨Nat.le_of_ble_eq_true rfl, Nat.le_of_ble_eq_true rfl⟩) rfl rfl rfl hl.1 rfl (Nat.le_of_ble_eq_true rfl) dX8_marks_157 ⟨Nat.le_of_ble_eq_true rfl, Nat.le_of_ble_eq_true rfl⟩ hP hD hS hA (pm_nil _) (fun r157 u157 H locs hp157 hP hD hS => ?_)
              have hP : va_P G.1 vwCl (mow G ad z fo (mtS sv v) d pa ke ik fa te u136) H := wp_pm (pm_nil _).symm hP
              have hD : va_D A (mow G ad z fo (mtS sv v) d pa ke ik fa te u136) := wd_pm (pm_nil _).symm hD
              subst hp157
              refine ti (y := (nI (coS (mtS sv v) ((mtS sv v) 5)))) rfl ?_
              refine nv_ge (x := coS (mtS sv v) (anS (mtS sv v))) (y := coS (mtS sv v) ((mtS sv v) 5)) (tgt := 167) hx hb dX8_marks_160 (by decide) (by have := hB2.cst (anS (mtS sv v)); omega) (by have := hB2.cst (mtS sv v 5); omega) (fun c160 => ?_) (fun c160 => ?_)
              · refine lv_aload_n hx hb dX8_marks_167 rfl (lv_at hl 1 rfl) ?_
                refine va_get (D := G.1) (ci := 7) (v := .ref (ad 1)) (C := RX8) (T := TX8) (N := 17) hx hb hts inA8 hown hX.1 hP 0 rfl rfl 1 (by decide) (hts _ kw_681) (fun _ h9 => h9) rfl dX8_marks_168 ?_
                refine lv_iconst (v := (nI 5)) hx hb dX8_marks_171 (by decide) ?_
                refine nv_ald (f := (mtS sv v)) (k := 5) hx hb hX hP 1 rfl (by omega) (by decide) dX8_marks_172 ?_
                refine ti (y := (nI (if coS (mtS sv v) (anS (mtS sv v)) < coS (mtS sv v) ((mtS sv v) 5) then anS (mtS sv v) else (mtS sv v) 5))) (by rw [if_neg (Nat.not_lt.mpr c160)]) ?_
                refine nv_ast (f := (mtS sv v)) (k := 5) (v := if coS (mtS sv v) (anS (mtS sv v)) < coS (mtS sv v) ((mtS sv v) 5) then anS (mtS sv v) else (mtS sv v) 5) hx hb hX hP hD hS 1 rfl (by omega) (by decide) dX8_marks_173 (fun H locs hP hD hS => ?_)
                have hP : va_P G.1 vwCl (mow G ad z fo (va_up (mtS sv v) 5 (if coS (mtS sv v) (anS (mtS sv v)) < coS (mtS sv v) ((mtS sv v) 5) then anS (mtS sv v) else (mtS sv v) 5)) d pa ke ik fa te u136) H := hP
                have hD : va_D A (mow G ad z fo (va_up (mtS sv v) 5 (if coS (mtS sv v) (anS (mtS sv v)) < coS (mtS sv v) ((mtS sv v) 5) then anS (mtS sv v) else (mtS sv v) 5)) d pa ke ik fa te u136) := hD
                refine lv_aload_n hx hb dX8_marks_174 rfl (lv_at hl 1 rfl) ?_
                refine ca_Vv (ci := 7) (q := (RX8, TX8, 17)) (rest := []) (wr := ([] : va_W)) F hX (mX8_bares l G ad z fo (va_up (mtS sv v) 5 (if coS (mtS sv v) (anS (mtS sv v)) < coS (mtS sv v) ((mtS sv v) 5) then anS (mtS sv v) else (mtS sv v) 5)) d pa ke ik fa te u136  ) (cA_V hts kw_838 kw_8 kw_835 kw_837 kp_39 hdX8_bares ⟨Nat.le_of_ble_eq_true rfl, Nat.le_of_ble_eq_true rfl⟩) rfl rfl rfl hl.1 rfl (Nat.le_of_ble_eq_true rfl) dX8_marks_175 ⟨Nat.le_of_ble_eq_true rfl, Nat.le_of_ble_eq_true rfl⟩ hP hD hS hA (pm_nil _) (fun u175 H locs hp175 hP hD hS => ?_)
                have hP : va_P G.1 vwCl (mow G ad z fo (baS (va_up (mtS sv v) 5 (if coS (mtS sv v) (anS (mtS sv v)) < coS (mtS sv v) ((mtS sv v) 5) then anS (mtS sv v) else (mtS sv v) 5))) d pa ke ik fa te u136) H := wp_pm (pm_nil _).symm hP
                have hD : va_D A (mow G ad z fo (baS (va_up (mtS sv v) 5 (if coS (mtS sv v) (anS (mtS sv v)) < coS (mtS sv v) ((mtS sv v) 5) then anS (mtS sv v) else (mtS sv v) 5))) d pa ke ik fa te u136) := wd_pm (pm_nil _).symm hD
                have e8 : mkS sv v = baS (va_up (mtS sv v) 5 (if coS (mtS sv v) (anS (mtS sv v)) < coS (mtS sv v) ((mtS sv v) 5) then anS (mtS sv v) else (mtS sv v) 5)) := by unfold mkS; rw [if_pos ⟨c116, c132⟩]
                have hP : va_P G.1 vwCl (mow G ad z fo (mkS sv v) d pa ke ik fa te u136) H := by rw [e8]; exact hP
                have hD : va_D A (mow G ad z fo (mkS sv v) d pa ke ik fa te u136) := by rw [e8]; exact hD
                exact re_v hx hb hr hlocks hS u136 hP hD hu136 dX8_marks_178
              · refine lv_iload_n hx hb dX8_marks_163 rfl (lv_at hl 0 rfl) ?_
                refine lv_goto (tgt := 173) hx hb dX8_marks_164 (by decide) ?_
                refine ti (y := (nI (if coS (mtS sv v) (anS (mtS sv v)) < coS (mtS sv v) ((mtS sv v) 5) then anS (mtS sv v) else (mtS sv v) 5))) (by rw [if_pos c160]) ?_
                refine nv_ast (f := (mtS sv v)) (k := 5) (v := if coS (mtS sv v) (anS (mtS sv v)) < coS (mtS sv v) ((mtS sv v) 5) then anS (mtS sv v) else (mtS sv v) 5) hx hb hX hP hD hS 1 rfl (by omega) (by decide) dX8_marks_173 (fun H locs hP hD hS => ?_)
                have hP : va_P G.1 vwCl (mow G ad z fo (va_up (mtS sv v) 5 (if coS (mtS sv v) (anS (mtS sv v)) < coS (mtS sv v) ((mtS sv v) 5) then anS (mtS sv v) else (mtS sv v) 5)) d pa ke ik fa te u136) H := hP
                have hD : va_D A (mow G ad z fo (va_up (mtS sv v) 5 (if coS (mtS sv v) (anS (mtS sv v)) < coS (mtS sv v) ((mtS sv v) 5) then anS (mtS sv v) else (mtS sv v) 5)) d pa ke ik fa te u136) := hD
                refine lv_aload_n hx hb dX8_marks_174 rfl (lv_at hl 1 rfl) ?_
                refine ca_Vv (ci := 7) (q := (RX8, TX8, 17)) (rest := []) (wr := ([] : va_W)) F hX (mX8_bares l G ad z fo (va_up (mtS sv v) 5 (if coS (mtS sv v) (anS (mtS sv v)) < coS (mtS sv v) ((mtS sv v) 5) then anS (mtS sv v) else (mtS sv v) 5)) d pa ke ik fa te u136  ) (cA_V hts kw_838 kw_8 kw_835 kw_837 kp_39 hdX8_bares ⟨Nat.le_of_ble_eq_true rfl, Nat.le_of_ble_eq_true rfl⟩) rfl rfl rfl hl.1 rfl (Nat.le_of_ble_eq_true rfl) dX8_marks_175 ⟨Nat.le_of_ble_eq_true rfl, Nat.le_of_ble_eq_true rfl⟩ hP hD hS hA (pm_nil _) (fun u175 H locs hp175 hP hD hS => ?_)
                have hP : va_P G.1 vwCl (mow G ad z fo (baS (va_up (mtS sv v) 5 (if coS (mtS sv v) (anS (mtS sv v)) < coS (mtS sv v) ((mtS sv v) 5) then anS (mtS sv v) else (mtS sv v) 5))) d pa ke ik fa te u136) H := wp_pm (pm_nil _).symm hP
                have hD : va_D A (mow G ad z fo (baS (va_up (mtS sv v) 5 (if coS (mtS sv v) (anS (mtS sv v)) < coS (mtS sv v) ((mtS sv v) 5) then anS (mtS sv v) else (mtS sv v) 5))) d pa ke ik fa te u136) := wd_pm (pm_nil _).symm hD
                have e8 : mkS sv v = baS (va_up (mtS sv v) 5 (if coS (mtS sv v) (anS (mtS sv v)) < coS (mtS sv v) ((mtS sv v) 5) then anS (mtS sv v) else (mtS sv v) 5)) := by unfold mkS; rw [if_pos ⟨c116, c132⟩]
                have hP : va_P G.1 vwCl (mow G ad z fo (mkS sv v) d pa ke ik fa te u136) H := by rw [e8]; exact hP
                have hD : va_D A (mow G ad z fo (mkS sv v) d pa ke ik fa te u136) := by rw [e8]; exact hD
                exact re_v hx hb hr hlocks hS u136 hP hD hu136 dX8_marks_178
        · refine lv_aload_n hx hb dX8_marks_57 rfl (lv_at hl 0 rfl) ?_
          refine va_get (D := G.1) (ci := 7) (v := .ref (ad 1)) (C := RX8) (T := TX8) (N := 17) hx hb hts inA8 hown hX.1 hP 0 rfl rfl 1 (by decide) (hts _ kw_681) (fun _ h9 => h9) rfl dX8_marks_58 ?_
          refine lv_bipush (v := (nI 8)) hx hb dX8_marks_61 (by decide) ?_
          refine lv_iload_n hx hb dX8_marks_63 rfl (lv_at hl 3 rfl) ?_
          refine lv_iadd hx hb dX8_marks_64 (ti (y := (nI (8 + (j + q)))) (nI_add _ _) ?_)
          refine lv_aload_n hx hb dX8_marks_65 rfl (lv_at hl 0 rfl) ?_
          refine va_get (D := G.1) (ci := 7) (v := .ref (ad 1)) (C := RX8) (T := TX8) (N := 17) hx hb hts inA8 hown hX.1 hP 0 rfl rfl 1 (by decide) (hts _ kw_681) (fun _ h9 => h9) rfl dX8_marks_66 ?_
          refine lv_bipush (v := (nI 8)) hx hb dX8_marks_69 (by decide) ?_
          refine lv_iload_n hx hb dX8_marks_71 rfl (lv_at hl 3 rfl) ?_
          refine lv_iadd hx hb dX8_marks_72 (ti (y := (nI (8 + (j + q)))) (nI_add _ _) ?_)
          refine lv_iconst (v := (nI 1)) hx hb dX8_marks_73 (by decide) ?_
          refine lv_iadd hx hb dX8_marks_74 (ti (y := (nI ((8 + (j + q)) + 1))) (nI_add _ _) ?_)
          refine nv_ald (f := (shM sv (8 + j) q)) (k := (8 + (j + q)) + 1) hx hb hX hP 1 rfl (by omega) (by decide) dX8_marks_75 ?_
          refine nv_ast (f := (shM sv (8 + j) q)) (k := 8 + (j + q)) (v := (shM sv (8 + j) q) ((8 + (j + q)) + 1)) hx hb hX hP hD hS 1 rfl (by omega) (by decide) dX8_marks_76 (fun H locs hP hD hS => ?_)
          have hP : va_P G.1 vwCl (mow G ad z fo (va_up (shM sv (8 + j) q) (8 + (j + q)) ((shM sv (8 + j) q) ((8 + (j + q)) + 1))) d pa ke ik fa te aw) H := hP
          have hD : va_D A (mow G ad z fo (va_up (shM sv (8 + j) q) (8 + (j + q)) ((shM sv (8 + j) q) ((8 + (j + q)) + 1))) d pa ke ik fa te aw) := hD
          refine lv_iinc (v := (nI ((j + q) + 1))) (lv' := [(3, .int (nI ((j + q) + 1))), (0, .ref (ad 0)), (1, .int (nI v)), (2, .int (nI j))]) hx hb dX8_marks_77 hl (k := 3) rfl (qn_inc _) (by decide) rfl (fun ls hl => ?_)
          refine lv_goto (tgt := 44) hx hb dX8_marks_80 (by decide) ?_
          exact ih44 (q + 1) (va_up (shM sv (8 + j) q) (8 + (j + q)) ((shM sv (8 + j) q) ((8 + (j + q)) + 1))) (by omega) (by rw [← Nat.add_assoc 8 j q]; exact shM_s _ _ _) (by omega) _ _ hP hD hS ls (lv_sub hl [1, 2, 3, 0] rfl)
    exact lp44 _ 0 sv (Nat.lt_succ_self _) (shM_0 _ _).symm (by omega) _ _ hP hD hS ls (lv_sub hl [2, 3, 1, 0] rfl)

theorem hdX8_isNode : hdOK yX8_isNode 1 := by decide +kernel
set_option maxHeartbeats 4000000 in
set_option maxRecDepth 100000 in
theorem mX8_isNode (l : Launch) (G : GG) (ad : Nat → Nat) (z : Nat → Nat) (fo : Option Nat) (sv : Nat → Nat) (d : Nat → Int32) (pa ke : Nat → Nat) (ik fa : Nat → Int32) (te aw : Nat → Nat) (x : Int32) (hB : SB sv) : Mi l yX8_isNode cX8_isNode 2 (some .boolean) (rmN 1 22) G [.ref (ad 0), .int x] (mow G ad z fo sv d pa ke ik fa te aw) (fun (r9 : Int32) (_ : Unit) => r9 = (bI (decide (0 ≤ x.toInt ∧ x.toInt < sv 0)))) (fun (_ : Unit) => mow G ad z fo sv d pa ke ik fa te aw) := by
  refine Mi.of (cc := cX8_isNode) (nL := 2) (by decide) (Nat.le_of_ble_eq_true rfl) ?_
  intro p e s m below meth c A ls F hr hlocks hnm hX hA hD hP hS hl
  have F : CallFix p m c cX8_isNode 2 s [.ref (ad 0), .int x].toArray wA RX8 := F
  obtain ⟨hx, hb, hml, hown, hts⟩ := id F
  have hl : lv_has ls 2 [(0, .ref (ad 0)), (1, .int x)] := hl
  obtain ⟨⟨b0, b1, b2, b3, b4, b5, b6, b7, b8⟩, g1, g2, g3, g4⟩ := id hB
  have gf : ∀ j, sf sv j < 10 := fun j => g1 (16 + j) (by omega)
  have gg : ∀ j, sg sv j < 10 := fun j => g1 (28 + j) (by omega)
  have gc : ∀ j, sc sv j ≤ 9 := fun j => by have := g1 (40 + j) (by omega); unfold sc; omega
  have gf7 : ∀ j, j < 12 → sf sv j < 7 := g2
  have gg7 : ∀ j, j < 12 → sg sv j < 7 := g3
  refine lv_iload_n hx hb dX8_isNode_0 rfl (lv_at hl 1 rfl) ?_
  refine lv_iconst (v := (nI 0)) hx hb dX8_isNode_1 (by decide) ?_
  refine lv_aload_n hx hb dX8_isNode_2 rfl (lv_at hl 0 rfl) ?_
  refine va_get (D := G.1) (ci := 7) (v := .ref (ad 1)) (C := RX8) (T := TX8) (N := 17) hx hb hts inA8 hown hX.1 hP 0 rfl rfl 1 (by decide) (hts _ kw_681) (fun _ h9 => h9) rfl dX8_isNode_3 ?_
  refine lv_iconst (v := (nI 0)) hx hb dX8_isNode_6 (by decide) ?_
  refine nv_ald (f := sv) (k := 0) hx hb hX hP 1 rfl (by omega) (by decide) dX8_isNode_7 ?_
  refine lv_iconst (v := (nI 1)) hx hb dX8_isNode_8 (by decide) ?_
  refine lv_isub hx hb dX8_isNode_9 (ti (y := (nI (sv 0) - nI 1)) rfl ?_)
  refine ca_Si (rest := []) (wr := mow G ad z fo sv d pa ke ik fa te aw) F hX (mX8_in l G x (nI 0) (nI (sv 0) - nI 1)) (cA_S hts kw_738 kw_8 kw_736 kw_737 hdX8_in ⟨Nat.le_of_ble_eq_true rfl, Nat.le_of_ble_eq_true rfl⟩) rfl hl.1 rfl (Nat.le_of_ble_eq_true rfl) dX8_isNode_10 ⟨Nat.le_of_ble_eq_true rfl, Nat.le_of_ble_eq_true rfl⟩ hP hD hS hA (List.Perm.refl _) (fun r10 u10 H locs hp10 hP hD hS => ?_)
  have hP : va_P G.1 vwCl (mow G ad z fo sv d pa ke ik fa te aw) H := hP
  have hD : va_D A (mow G ad z fo sv d pa ke ik fa te aw) := hD
  subst hp10
  exact re_z (v := (bI (decide ((nI 0) ≤ x ∧ x ≤ (nI (sv 0) - nI 1))))) hx hb hr hlocks hS () hP hD (by rw [in_dec x (by omega)]) (bI_nar _) dX8_isNode_13

theorem hdX8_isLink : hdOK yX8_isLink 1 := by decide +kernel
set_option maxHeartbeats 4000000 in
set_option maxRecDepth 100000 in
theorem mX8_isLink (l : Launch) (G : GG) (ad : Nat → Nat) (z : Nat → Nat) (fo : Option Nat) (sv : Nat → Nat) (d : Nat → Int32) (pa ke : Nat → Nat) (ik fa : Nat → Int32) (te aw : Nat → Nat) (x : Int32) (hB : SB sv) : Mi l yX8_isLink cX8_isLink 2 (some .boolean) (rmN 1 22) G [.ref (ad 0), .int x] (mow G ad z fo sv d pa ke ik fa te aw) (fun (r9 : Int32) (_ : Unit) => r9 = (bI (decide (0 ≤ x.toInt ∧ x.toInt < sv 1)))) (fun (_ : Unit) => mow G ad z fo sv d pa ke ik fa te aw) := by
  refine Mi.of (cc := cX8_isLink) (nL := 2) (by decide) (Nat.le_of_ble_eq_true rfl) ?_
  intro p e s m below meth c A ls F hr hlocks hnm hX hA hD hP hS hl
  have F : CallFix p m c cX8_isLink 2 s [.ref (ad 0), .int x].toArray wA RX8 := F
  obtain ⟨hx, hb, hml, hown, hts⟩ := id F
  have hl : lv_has ls 2 [(0, .ref (ad 0)), (1, .int x)] := hl
  obtain ⟨⟨b0, b1, b2, b3, b4, b5, b6, b7, b8⟩, g1, g2, g3, g4⟩ := id hB
  have gf : ∀ j, sf sv j < 10 := fun j => g1 (16 + j) (by omega)
  have gg : ∀ j, sg sv j < 10 := fun j => g1 (28 + j) (by omega)
  have gc : ∀ j, sc sv j ≤ 9 := fun j => by have := g1 (40 + j) (by omega); unfold sc; omega
  have gf7 : ∀ j, j < 12 → sf sv j < 7 := g2
  have gg7 : ∀ j, j < 12 → sg sv j < 7 := g3
  refine lv_iload_n hx hb dX8_isLink_0 rfl (lv_at hl 1 rfl) ?_
  refine lv_iconst (v := (nI 0)) hx hb dX8_isLink_1 (by decide) ?_
  refine lv_aload_n hx hb dX8_isLink_2 rfl (lv_at hl 0 rfl) ?_
  refine va_get (D := G.1) (ci := 7) (v := .ref (ad 1)) (C := RX8) (T := TX8) (N := 17) hx hb hts inA8 hown hX.1 hP 0 rfl rfl 1 (by decide) (hts _ kw_681) (fun _ h9 => h9) rfl dX8_isLink_3 ?_
  refine lv_iconst (v := (nI 1)) hx hb dX8_isLink_6 (by decide) ?_
  refine nv_ald (f := sv) (k := 1) hx hb hX hP 1 rfl (by omega) (by decide) dX8_isLink_7 ?_
  refine lv_iconst (v := (nI 1)) hx hb dX8_isLink_8 (by decide) ?_
  refine lv_isub hx hb dX8_isLink_9 (ti (y := (nI (sv 1) - nI 1)) rfl ?_)
  refine ca_Si (rest := []) (wr := mow G ad z fo sv d pa ke ik fa te aw) F hX (mX8_in l G x (nI 0) (nI (sv 1) - nI 1)) (cA_S hts kw_738 kw_8 kw_736 kw_737 hdX8_in ⟨Nat.le_of_ble_eq_true rfl, Nat.le_of_ble_eq_true rfl⟩) rfl hl.1 rfl (Nat.le_of_ble_eq_true rfl) dX8_isLink_10 ⟨Nat.le_of_ble_eq_true rfl, Nat.le_of_ble_eq_true rfl⟩ hP hD hS hA (List.Perm.refl _) (fun r10 u10 H locs hp10 hP hD hS => ?_)
  have hP : va_P G.1 vwCl (mow G ad z fo sv d pa ke ik fa te aw) H := hP
  have hD : va_D A (mow G ad z fo sv d pa ke ik fa te aw) := hD
  subst hp10
  exact re_z (v := (bI (decide ((nI 0) ≤ x ∧ x ≤ (nI (sv 1) - nI 1))))) hx hb hr hlocks hS () hP hD (by rw [in_dec x (by omega)]) (bI_nar _) dX8_isLink_13

theorem hdX8_hanging : hdOK yX8_hanging 1 := by decide +kernel
set_option maxHeartbeats 4000000 in
set_option maxRecDepth 100000 in
theorem mX8_hanging (l : Launch) (G : GG) (ad : Nat → Nat) (z : Nat → Nat) (fo : Option Nat) (sv : Nat → Nat) (d : Nat → Int32) (pa ke : Nat → Nat) (ik fa : Nat → Int32) (te aw : Nat → Nat) (lk : Nat) (hB : SB sv) (hs : lk < 2 ^ 31) : Mi l yX8_hanging cX8_hanging 5 (some .int) (rmN 2 46) G [.ref (ad 0), .int (nI lk)] (mow G ad z fo sv d pa ke ik fa te aw) (fun (r9 : Int32) (_ : Unit) => r9 = (nI (mhaN (sf sv) lk (clo (sf sv) (sg sv) lk (sv 1) (sv 2)) (sv 1)))) (fun (_ : Unit) => mow G ad z fo sv d pa ke ik fa te aw) := by
  refine Mi.of (cc := cX8_hanging) (nL := 5) (by decide) (Nat.le_of_ble_eq_true rfl) ?_
  intro p e s m below meth c A ls F hr hlocks hnm hX hA hD hP hS hl
  have F : CallFix p m c cX8_hanging 5 s [.ref (ad 0), .int (nI lk)].toArray wA RX8 := F
  obtain ⟨hx, hb, hml, hown, hts⟩ := id F
  have hl : lv_has ls 5 [(0, .ref (ad 0)), (1, .int (nI lk))] := hl
  obtain ⟨⟨b0, b1, b2, b3, b4, b5, b6, b7, b8⟩, g1, g2, g3, g4⟩ := id hB
  have gf : ∀ j, sf sv j < 10 := fun j => g1 (16 + j) (by omega)
  have gg : ∀ j, sg sv j < 10 := fun j => g1 (28 + j) (by omega)
  have gc : ∀ j, sc sv j ≤ 9 := fun j => by have := g1 (40 + j) (by omega); unfold sc; omega
  have gf7 : ∀ j, j < 12 → sf sv j < 7 := g2
  have gg7 : ∀ j, j < 12 → sg sv j < 7 := g3
  have hcl : clo (sf sv) (sg sv) lk (sv 1) (sv 2) < 1024 := clo_lt gf gg (by omega)
  refine lv_aload_n hx hb dX8_hanging_0 rfl (lv_at hl 0 rfl) ?_
  refine lv_iload_n hx hb dX8_hanging_1 rfl (lv_at hl 1 rfl) ?_
  refine ca_Vi (ci := 7) (q := (RX8, TX8, 17)) (rest := []) (wr := ([] : va_W)) F hX (mX8_nodesOf l G ad z fo sv d pa ke ik fa te aw lk hB (by omega)) (cA_V hts kw_798 kw_8 kw_795 kw_797 kp_30 hdX8_nodesOf ⟨Nat.le_of_ble_eq_true rfl, Nat.le_of_ble_eq_true rfl⟩) rfl rfl rfl hl.1 rfl (Nat.le_of_ble_eq_true rfl) dX8_hanging_2 ⟨Nat.le_of_ble_eq_true rfl, Nat.le_of_ble_eq_true rfl⟩ hP hD hS hA (pm_nil _) (fun r2 u2 H locs hp2 hP hD hS => ?_)
  have hP : va_P G.1 vwCl (mow G ad z fo sv d pa ke ik fa te aw) H := wp_pm (pm_nil _).symm hP
  have hD : va_D A (mow G ad z fo sv d pa ke ik fa te aw) := wd_pm (pm_nil _).symm hD
  subst hp2
  refine lv_istore_n (lv' := [(2, .int (nI (clo (sf sv) (sg sv) lk (sv 1) (sv 2)))), (0, .ref (ad 0)), (1, .int (nI lk))]) hx hb dX8_hanging_5 rfl hl (by decide) rfl (fun ls hl => ?_)
  refine lv_iconst (v := (nI 0)) hx hb dX8_hanging_6 (by decide) ?_
  refine lv_istore_n (lv' := [(3, .int (nI 0)), (2, .int (nI (clo (sf sv) (sg sv) lk (sv 1) (sv 2)))), (0, .ref (ad 0)), (1, .int (nI lk))]) hx hb dX8_hanging_7 rfl hl (by decide) rfl (fun ls hl => ?_)
  refine lv_iconst (v := (nI 0)) hx hb dX8_hanging_8 (by decide) ?_
  refine lv_istore (lv' := [(4, .int (nI 0)), (3, .int (nI 0)), (2, .int (nI (clo (sf sv) (sg sv) lk (sv 1) (sv 2)))), (0, .ref (ad 0)), (1, .int (nI lk))]) hx hb dX8_hanging_9 hl (by decide) rfl (fun ls hl => ?_)
  have lp11 : ∀ (n11 : Nat) (k : Nat) (x : Nat), (sv 1 - k) < n11 → x = mhaN (sf sv) lk (clo (sf sv) (sg sv) lk (sv 1) (sv 2)) k → (k ≤ sv 1) → ∀ (H : Heap) (locs : List Loc), va_P G.1 vwCl (mow G ad z fo sv d pa ke ik fa te aw) H → va_D A (mow G ad z fo sv d pa ke ik fa te aw) → va_S A s.heap H locs → ∀ (ls : Array Slot), lv_has ls 5 [(0, .ref (ad 0)), (1, .int (nI lk)), (2, .int (nI (clo (sf sv) (sg sv) lk (sv 1) (sv 2)))), (3, .int (nI x)), (4, .int (nI k))] → WI p l e (rmN 2 46) s m [.ref (ad 0), .int (nI lk)] below meth c H locs G A (fun (r9 : Int32) (_ : Unit) => r9 = (nI (mhaN (sf sv) lk (clo (sf sv) (sg sv) lk (sv 1) (sv 2)) (sv 1)))) (fun (_ : Unit) => mow G ad z fo sv d pa ke ik fa te aw) (F0 m 11 ls []) := by
    intro n11
    induction n11 with
    | zero => intro k x h9; exact absurd h9 (Nat.not_lt_zero _)
    | succ n11 ih11 =>
      intro k x hm11 e_x hk H locs hP hD hS ls hl
      subst e_x
      refine lv_iload hx hb dX8_hanging_11 (lv_at hl 4 rfl) ?_
      refine lv_aload_n hx hb dX8_hanging_13 rfl (lv_at hl 0 rfl) ?_
      refine va_get (D := G.1) (ci := 7) (v := .ref (ad 1)) (C := RX8) (T := TX8) (N := 17) hx hb hts inA8 hown hX.1 hP 0 rfl rfl 1 (by decide) (hts _ kw_681) (fun _ h9 => h9) rfl dX8_hanging_14 ?_
      refine lv_iconst (v := (nI 1)) hx hb dX8_hanging_17 (by decide) ?_
      refine nv_ald (f := sv) (k := 1) hx hb hX hP 1 rfl (by omega) (by decide) dX8_hanging_18 ?_
      refine nv_ge (x := k) (y := sv 1) (tgt := 65) hx hb dX8_hanging_19 (by decide) (by omega) (by omega) (fun c19 => ?_) (fun c19 => ?_)
      · refine lv_iload_n hx hb dX8_hanging_65 rfl (lv_at hl 3 rfl) ?_
        exact re_i (v := (nI (mhaN (sf sv) lk (clo (sf sv) (sg sv) lk (sv 1) (sv 2)) k))) hx hb hr hlocks hS () hP hD (by have e9 : k = sv 1 := (by omega); rw [e9]) dX8_hanging_66
      · refine lv_iload_n hx hb dX8_hanging_22 rfl (lv_at hl 3 rfl) ?_
        refine lv_iload_n hx hb dX8_hanging_23 rfl (lv_at hl 1 rfl) ?_
        refine lv_iload hx hb dX8_hanging_24 (lv_at hl 4 rfl) ?_
        refine ca_Si (rest := [.int (nI (mhaN (sf sv) lk (clo (sf sv) (sg sv) lk (sv 1) (sv 2)) k))]) (wr := mow G ad z fo sv d pa ke ik fa te aw) F hX (mX8_has l G lk k (by omega) (by omega)) (cA_S hts kw_801 kw_8 kw_799 kw_800 hdX8_has ⟨Nat.le_of_ble_eq_true rfl, Nat.le_of_ble_eq_true rfl⟩) rfl hl.1 rfl (Nat.le_of_ble_eq_true rfl) dX8_hanging_26 ⟨Nat.le_of_ble_eq_true rfl, Nat.le_of_ble_eq_true rfl⟩ hP hD hS hA (List.Perm.refl _) (fun r26 u26 H locs hp26 hP hD hS => ?_)
        have hP : va_P G.1 vwCl (mow G ad z fo sv d pa ke ik fa te aw) H := hP
        have hD : va_D A (mow G ad z fo sv d pa ke ik fa te aw) := hD
        subst hp26
        refine bv_eq (b := lk.testBit k) (tgt := 56) hx hb dX8_hanging_29 (by decide) (fun c29 => ?_) (fun c29 => ?_)
        · refine lv_iconst (v := (nI 0)) hx hb dX8_hanging_56 (by decide) ?_
          refine lv_ior hx hb dX8_hanging_57 (ti (y := (nI ((mhaN (sf sv) lk (clo (sf sv) (sg sv) lk (sv 1) (sv 2)) k) ||| 0))) (qn_or _ _) ?_)
          refine lv_istore_n (lv' := [(3, .int (nI ((mhaN (sf sv) lk (clo (sf sv) (sg sv) lk (sv 1) (sv 2)) k) ||| 0))), (0, .ref (ad 0)), (1, .int (nI lk)), (2, .int (nI (clo (sf sv) (sg sv) lk (sv 1) (sv 2)))), (4, .int (nI k))]) hx hb dX8_hanging_58 rfl hl (by decide) rfl (fun ls hl => ?_)
          refine lv_iinc (v := (nI (k + 1))) (lv' := [(4, .int (nI (k + 1))), (3, .int (nI ((mhaN (sf sv) lk (clo (sf sv) (sg sv) lk (sv 1) (sv 2)) k) ||| 0))), (0, .ref (ad 0)), (1, .int (nI lk)), (2, .int (nI (clo (sf sv) (sg sv) lk (sv 1) (sv 2))))]) hx hb dX8_hanging_59 hl (k := 4) rfl (qn_inc _) (by decide) rfl (fun ls hl => ?_)
          refine lv_goto (tgt := 11) hx hb dX8_hanging_62 (by decide) ?_
          exact ih11 (k + 1) ((mhaN (sf sv) lk (clo (sf sv) (sg sv) lk (sv 1) (sv 2)) k) ||| 0) (by omega) (by rw [Nat.or_zero, mhaN, if_neg (fun h => absurd (c29.symm.trans h.1) (by decide))]) (by omega) _ _ hP hD hS ls (lv_sub hl [2, 3, 4, 1, 0] rfl)
        · refine lv_iload_n hx hb dX8_hanging_32 rfl (lv_at hl 2 rfl) ?_
          refine lv_aload_n hx hb dX8_hanging_33 rfl (lv_at hl 0 rfl) ?_
          refine va_get (D := G.1) (ci := 7) (v := .ref (ad 1)) (C := RX8) (T := TX8) (N := 17) hx hb hts inA8 hown hX.1 hP 0 rfl rfl 1 (by decide) (hts _ kw_681) (fun _ h9 => h9) rfl dX8_hanging_34 ?_
          refine lv_bipush (v := (nI 16)) hx hb dX8_hanging_37 (by decide) ?_
          refine lv_iload hx hb dX8_hanging_39 (lv_at hl 4 rfl) ?_
          refine lv_iadd hx hb dX8_hanging_41 (ti (y := (nI (16 + k))) (nI_add _ _) ?_)
          refine nv_ald (f := sv) (k := 16 + k) hx hb hX hP 1 rfl (by omega) (by decide) dX8_hanging_42 ?_
          refine ti (y := (nI (sf sv k))) rfl ?_
          refine ca_Si (rest := [.int (nI (mhaN (sf sv) lk (clo (sf sv) (sg sv) lk (sv 1) (sv 2)) k))]) (wr := mow G ad z fo sv d pa ke ik fa te aw) F hX (mX8_has l G (clo (sf sv) (sg sv) lk (sv 1) (sv 2)) (sf sv k) (by omega) (by have := gf k; omega)) (cA_S hts kw_801 kw_8 kw_799 kw_800 hdX8_has ⟨Nat.le_of_ble_eq_true rfl, Nat.le_of_ble_eq_true rfl⟩) rfl hl.1 rfl (Nat.le_of_ble_eq_true rfl) dX8_hanging_43 ⟨Nat.le_of_ble_eq_true rfl, Nat.le_of_ble_eq_true rfl⟩ hP hD hS hA (List.Perm.refl _) (fun r43 u43 H locs hp43 hP hD hS => ?_)
          have hP : va_P G.1 vwCl (mow G ad z fo sv d pa ke ik fa te aw) H := hP
          have hD : va_D A (mow G ad z fo sv d pa ke ik fa te aw) := hD
          subst hp43
          refine bv_eq (b := (clo (sf sv) (sg sv) lk (sv 1) (sv 2)).testBit (sf sv k)) (tgt := 56) hx hb dX8_hanging_46 (by decide) (fun c46 => ?_) (fun c46 => ?_)
          · refine lv_iconst (v := (nI 0)) hx hb dX8_hanging_56 (by decide) ?_
            refine lv_ior hx hb dX8_hanging_57 (ti (y := (nI ((mhaN (sf sv) lk (clo (sf sv) (sg sv) lk (sv 1) (sv 2)) k) ||| 0))) (qn_or _ _) ?_)
            refine lv_istore_n (lv' := [(3, .int (nI ((mhaN (sf sv) lk (clo (sf sv) (sg sv) lk (sv 1) (sv 2)) k) ||| 0))), (0, .ref (ad 0)), (1, .int (nI lk)), (2, .int (nI (clo (sf sv) (sg sv) lk (sv 1) (sv 2)))), (4, .int (nI k))]) hx hb dX8_hanging_58 rfl hl (by decide) rfl (fun ls hl => ?_)
            refine lv_iinc (v := (nI (k + 1))) (lv' := [(4, .int (nI (k + 1))), (3, .int (nI ((mhaN (sf sv) lk (clo (sf sv) (sg sv) lk (sv 1) (sv 2)) k) ||| 0))), (0, .ref (ad 0)), (1, .int (nI lk)), (2, .int (nI (clo (sf sv) (sg sv) lk (sv 1) (sv 2))))]) hx hb dX8_hanging_59 hl (k := 4) rfl (qn_inc _) (by decide) rfl (fun ls hl => ?_)
            refine lv_goto (tgt := 11) hx hb dX8_hanging_62 (by decide) ?_
            exact ih11 (k + 1) ((mhaN (sf sv) lk (clo (sf sv) (sg sv) lk (sv 1) (sv 2)) k) ||| 0) (by omega) (by rw [Nat.or_zero, mhaN, if_neg (fun h => absurd (c46.symm.trans h.2) (by decide))]) (by omega) _ _ hP hD hS ls (lv_sub hl [2, 3, 4, 1, 0] rfl)
          · refine lv_iconst (v := (nI 1)) hx hb dX8_hanging_49 (by decide) ?_
            refine lv_iload hx hb dX8_hanging_50 (lv_at hl 4 rfl) ?_
            refine lv_ishl hx hb dX8_hanging_52 (ti (y := (nI (2 ^ k))) (qn_sh1 (by omega)) ?_)
            refine lv_goto (tgt := 57) hx hb dX8_hanging_53 (by decide) ?_
            refine lv_ior hx hb dX8_hanging_57 (ti (y := (nI ((mhaN (sf sv) lk (clo (sf sv) (sg sv) lk (sv 1) (sv 2)) k) ||| (2 ^ k)))) (qn_or _ _) ?_)
            refine lv_istore_n (lv' := [(3, .int (nI ((mhaN (sf sv) lk (clo (sf sv) (sg sv) lk (sv 1) (sv 2)) k) ||| (2 ^ k)))), (0, .ref (ad 0)), (1, .int (nI lk)), (2, .int (nI (clo (sf sv) (sg sv) lk (sv 1) (sv 2)))), (4, .int (nI k))]) hx hb dX8_hanging_58 rfl hl (by decide) rfl (fun ls hl => ?_)
            refine lv_iinc (v := (nI (k + 1))) (lv' := [(4, .int (nI (k + 1))), (3, .int (nI ((mhaN (sf sv) lk (clo (sf sv) (sg sv) lk (sv 1) (sv 2)) k) ||| (2 ^ k)))), (0, .ref (ad 0)), (1, .int (nI lk)), (2, .int (nI (clo (sf sv) (sg sv) lk (sv 1) (sv 2))))]) hx hb dX8_hanging_59 hl (k := 4) rfl (qn_inc _) (by decide) rfl (fun ls hl => ?_)
            refine lv_goto (tgt := 11) hx hb dX8_hanging_62 (by decide) ?_
            exact ih11 (k + 1) ((mhaN (sf sv) lk (clo (sf sv) (sg sv) lk (sv 1) (sv 2)) k) ||| (2 ^ k)) (by omega) (by rw [mhaN, if_pos ⟨c29, c46⟩]) (by omega) _ _ hP hD hS ls (lv_sub hl [2, 3, 4, 1, 0] rfl)
  exact lp11 _ 0 0 (Nat.lt_succ_self _) rfl (Nat.zero_le _) _ _ hP hD hS ls (lv_sub hl [3, 4, 2, 1, 0] rfl)

theorem hdX8_load : hdOK yX8_load 1 := by decide +kernel
set_option maxHeartbeats 4000000 in
set_option maxRecDepth 100000 in
theorem mX8_load (l : Launch) (G : GG) (ad : Nat → Nat) (z : Nat → Nat) (fo : Option Nat) (sv : Nat → Nat) (d : Nat → Int32) (pa ke : Nat → Nat) (ik fa : Nat → Int32) (te aw : Nat → Nat) (k : Nat) (hB : SB sv) (hk : k < 12) : Mi l yX8_load cX8_load 2 (some .int) (rmN 2 46) G [.ref (ad 0), .int (nI k)] (mow G ad z fo sv d pa ke ik fa te aw) (fun (r9 : Int32) (_ : Unit) => r9 = (nI (mldN (sf sv) (sg sv) (sv 1) (sv 2) (sv 4) (sv 5) k))) (fun (_ : Unit) => mow G ad z fo sv d pa ke ik fa te aw) := by
  refine Mi.of (cc := cX8_load) (nL := 2) (by decide) (Nat.le_of_ble_eq_true rfl) ?_
  intro p e s m below meth c A ls F hr hlocks hnm hX hA hD hP hS hl
  have F : CallFix p m c cX8_load 2 s [.ref (ad 0), .int (nI k)].toArray wA RX8 := F
  obtain ⟨hx, hb, hml, hown, hts⟩ := id F
  have hl : lv_has ls 2 [(0, .ref (ad 0)), (1, .int (nI k))] := hl
  obtain ⟨⟨b0, b1, b2, b3, b4, b5, b6, b7, b8⟩, g1, g2, g3, g4⟩ := id hB
  have gf : ∀ j, sf sv j < 10 := fun j => g1 (16 + j) (by omega)
  have gg : ∀ j, sg sv j < 10 := fun j => g1 (28 + j) (by omega)
  have gc : ∀ j, sc sv j ≤ 9 := fun j => by have := g1 (40 + j) (by omega); unfold sc; omega
  have gf7 : ∀ j, j < 12 → sf sv j < 7 := g2
  have gg7 : ∀ j, j < 12 → sg sv j < 7 := g3
  refine lv_aload_n hx hb dX8_load_0 rfl (lv_at hl 0 rfl) ?_
  refine va_get (D := G.1) (ci := 7) (v := .ref (ad 1)) (C := RX8) (T := TX8) (N := 17) hx hb hts inA8 hown hX.1 hP 0 rfl rfl 1 (by decide) (hts _ kw_681) (fun _ h9 => h9) rfl dX8_load_1 ?_
  refine lv_iconst (v := (nI 5)) hx hb dX8_load_4 (by decide) ?_
  refine nv_ald (f := sv) (k := 5) hx hb hX hP 1 rfl (by omega) (by decide) dX8_load_5 ?_
  refine lv_iload_n hx hb dX8_load_6 rfl (lv_at hl 1 rfl) ?_
  refine ca_Si (rest := []) (wr := mow G ad z fo sv d pa ke ik fa te aw) F hX (mX8_has l G (sv 5) k (by omega) (by omega)) (cA_S hts kw_801 kw_8 kw_799 kw_800 hdX8_has ⟨Nat.le_of_ble_eq_true rfl, Nat.le_of_ble_eq_true rfl⟩) rfl hl.1 rfl (Nat.le_of_ble_eq_true rfl) dX8_load_7 ⟨Nat.le_of_ble_eq_true rfl, Nat.le_of_ble_eq_true rfl⟩ hP hD hS hA (List.Perm.refl _) (fun r7 u7 H locs hp7 hP hD hS => ?_)
  have hP : va_P G.1 vwCl (mow G ad z fo sv d pa ke ik fa te aw) H := hP
  have hD : va_D A (mow G ad z fo sv d pa ke ik fa te aw) := hD
  subst hp7
  refine bv_eq (b := (sv 5).testBit k) (tgt := 44) hx hb dX8_load_10 (by decide) (fun c10 => ?_) (fun c10 => ?_)
  · refine lv_iconst (v := (nI 0)) hx hb dX8_load_44 (by decide) ?_
    exact re_i (v := (nI 0)) hx hb hr hlocks hS () hP hD (by rw [mldN, if_neg (by rw [c10]; decide)]) dX8_load_45
  · refine lv_aload_n hx hb dX8_load_13 rfl (lv_at hl 0 rfl) ?_
    refine va_get (D := G.1) (ci := 7) (v := .ref (ad 1)) (C := RX8) (T := TX8) (N := 17) hx hb hts inA8 hown hX.1 hP 0 rfl rfl 1 (by decide) (hts _ kw_681) (fun _ h9 => h9) rfl dX8_load_14 ?_
    refine lv_iconst (v := (nI 4)) hx hb dX8_load_17 (by decide) ?_
    refine nv_ald (f := sv) (k := 4) hx hb hX hP 1 rfl (by omega) (by decide) dX8_load_18 ?_
    refine lv_aload_n hx hb dX8_load_19 rfl (lv_at hl 0 rfl) ?_
    refine lv_aload_n hx hb dX8_load_20 rfl (lv_at hl 0 rfl) ?_
    refine va_get (D := G.1) (ci := 7) (v := .ref (ad 1)) (C := RX8) (T := TX8) (N := 17) hx hb hts inA8 hown hX.1 hP 0 rfl rfl 1 (by decide) (hts _ kw_681) (fun _ h9 => h9) rfl dX8_load_21 ?_
    refine lv_iconst (v := (nI 5)) hx hb dX8_load_24 (by decide) ?_
    refine nv_ald (f := sv) (k := 5) hx hb hX hP 1 rfl (by omega) (by decide) dX8_load_25 ?_
    refine lv_iconst (v := (nI 1)) hx hb dX8_load_26 (by decide) ?_
    refine lv_iload_n hx hb dX8_load_27 rfl (lv_at hl 1 rfl) ?_
    refine lv_ishl hx hb dX8_load_28 (ti (y := (nI (2 ^ k))) (qn_sh1 (by omega)) ?_)
    refine lv_iconst (v := (-1)) hx hb dX8_load_29 (by decide) ?_
    refine lv_ixor hx hb dX8_load_30 ?_
    refine lv_iand hx hb dX8_load_31 (ti (y := (nI (nd (sv 5) (2 ^ k)))) (qn_andn _ _) ?_)
    refine ca_Vi (ci := 7) (q := (RX8, TX8, 17)) (rest := [.int (nI (sv 4))]) (wr := ([] : va_W)) F hX (mX8_nodesOf l G ad z fo sv d pa ke ik fa te aw (nd (sv 5) (2 ^ k)) hB (by have := nd_le (sv 5) (2 ^ k); omega)) (cA_V hts kw_798 kw_8 kw_795 kw_797 kp_30 hdX8_nodesOf ⟨Nat.le_of_ble_eq_true rfl, Nat.le_of_ble_eq_true rfl⟩) rfl rfl rfl hl.1 rfl (Nat.le_of_ble_eq_true rfl) dX8_load_32 ⟨Nat.le_of_ble_eq_true rfl, Nat.le_of_ble_eq_true rfl⟩ hP hD hS hA (pm_nil _) (fun r32 u32 H locs hp32 hP hD hS => ?_)
    have hP : va_P G.1 vwCl (mow G ad z fo sv d pa ke ik fa te aw) H := wp_pm (pm_nil _).symm hP
    have hD : va_D A (mow G ad z fo sv d pa ke ik fa te aw) := wd_pm (pm_nil _).symm hD
    subst hp32
    refine lv_iconst (v := (-1)) hx hb dX8_load_35 (by decide) ?_
    refine lv_ixor hx hb dX8_load_36 ?_
    refine lv_iand hx hb dX8_load_37 (ti (y := (nI (nd (sv 4) (clo (sf sv) (sg sv) (nd (sv 5) (2 ^ k)) (sv 1) (sv 2))))) (qn_andn _ _) ?_)
    refine ca_Si (rest := []) (wr := mow G ad z fo sv d pa ke ik fa te aw) F hX (mX8_bits l G (nd (sv 4) (clo (sf sv) (sg sv) (nd (sv 5) (2 ^ k)) (sv 1) (sv 2))) (by have := nd_le (sv 4) (clo (sf sv) (sg sv) (nd (sv 5) (2 ^ k)) (sv 1) (sv 2)); omega)) (cA_S hts kw_869 kw_8 kw_867 kw_868 hdX8_bits ⟨Nat.le_of_ble_eq_true rfl, Nat.le_of_ble_eq_true rfl⟩) rfl hl.1 rfl (Nat.le_of_ble_eq_true rfl) dX8_load_38 ⟨Nat.le_of_ble_eq_true rfl, Nat.le_of_ble_eq_true rfl⟩ hP hD hS hA (List.Perm.refl _) (fun r38 u38 H locs hp38 hP hD hS => ?_)
    have hP : va_P G.1 vwCl (mow G ad z fo sv d pa ke ik fa te aw) H := hP
    have hD : va_D A (mow G ad z fo sv d pa ke ik fa te aw) := hD
    subst hp38
    refine lv_goto (tgt := 45) hx hb dX8_load_41 (by decide) ?_
    exact re_i (v := (nI (bts (nd (sv 4) (clo (sf sv) (sg sv) (nd (sv 5) (2 ^ k)) (sv 1) (sv 2))) 12))) hx hb hr hlocks hS () hP hD (by rw [mldN, if_pos c10]) dX8_load_45

theorem hdX8_farOf : hdOK yX8_farOf 1 := by decide +kernel
set_option maxHeartbeats 4000000 in
set_option maxRecDepth 100000 in
theorem mX8_farOf (l : Launch) (G : GG) (ad : Nat → Nat) (z : Nat → Nat) (fo : Option Nat) (sv : Nat → Nat) (d : Nat → Int32) (pa ke : Nat → Nat) (ik fa : Nat → Int32) (te aw : Nat → Nat) (v : Nat) (hB : SB sv) (hv : v < 7) : Mi l yX8_farOf cX8_farOf 4 (some .int) (rmN 2 46) G [.ref (ad 0), .int (nI v)] (mow G ad z fo sv d pa ke ik fa te aw) (fun (r9 : Int32) (_ : Unit) => r9 = (oN (if (clo (sf sv) (sg sv) (sv 5) (sv 1) (sv 2)).testBit v = true then some (mfaN (sf sv) (sg sv) (sc sv) (sv 1) (sv 2) (sv 5) v (sv 1)) else none))) (fun (_ : Unit) => mow G ad z fo sv d pa ke ik fa te aw) := by
  refine Mi.of (cc := cX8_farOf) (nL := 4) (by decide) (Nat.le_of_ble_eq_true rfl) ?_
  intro p e s m below meth c A ls F hr hlocks hnm hX hA hD hP hS hl
  have F : CallFix p m c cX8_farOf 4 s [.ref (ad 0), .int (nI v)].toArray wA RX8 := F
  obtain ⟨hx, hb, hml, hown, hts⟩ := id F
  have hl : lv_has ls 4 [(0, .ref (ad 0)), (1, .int (nI v))] := hl
  obtain ⟨⟨b0, b1, b2, b3, b4, b5, b6, b7, b8⟩, g1, g2, g3, g4⟩ := id hB
  have gf : ∀ j, sf sv j < 10 := fun j => g1 (16 + j) (by omega)
  have gg : ∀ j, sg sv j < 10 := fun j => g1 (28 + j) (by omega)
  have gc : ∀ j, sc sv j ≤ 9 := fun j => by have := g1 (40 + j) (by omega); unfold sc; omega
  have gf7 : ∀ j, j < 12 → sf sv j < 7 := g2
  have gg7 : ∀ j, j < 12 → sg sv j < 7 := g3
  refine lv_aload_n hx hb dX8_farOf_0 rfl (lv_at hl 0 rfl) ?_
  refine lv_aload_n hx hb dX8_farOf_1 rfl (lv_at hl 0 rfl) ?_
  refine va_get (D := G.1) (ci := 7) (v := .ref (ad 1)) (C := RX8) (T := TX8) (N := 17) hx hb hts inA8 hown hX.1 hP 0 rfl rfl 1 (by decide) (hts _ kw_681) (fun _ h9 => h9) rfl dX8_farOf_2 ?_
  refine lv_iconst (v := (nI 5)) hx hb dX8_farOf_5 (by decide) ?_
  refine nv_ald (f := sv) (k := 5) hx hb hX hP 1 rfl (by omega) (by decide) dX8_farOf_6 ?_
  refine ca_Vi (ci := 7) (q := (RX8, TX8, 17)) (rest := []) (wr := ([] : va_W)) F hX (mX8_nodesOf l G ad z fo sv d pa ke ik fa te aw (sv 5) hB (by omega)) (cA_V hts kw_798 kw_8 kw_795 kw_797 kp_30 hdX8_nodesOf ⟨Nat.le_of_ble_eq_true rfl, Nat.le_of_ble_eq_true rfl⟩) rfl rfl rfl hl.1 rfl (Nat.le_of_ble_eq_true rfl) dX8_farOf_7 ⟨Nat.le_of_ble_eq_true rfl, Nat.le_of_ble_eq_true rfl⟩ hP hD hS hA (pm_nil _) (fun r7 u7 H locs hp7 hP hD hS => ?_)
  have hP : va_P G.1 vwCl (mow G ad z fo sv d pa ke ik fa te aw) H := wp_pm (pm_nil _).symm hP
  have hD : va_D A (mow G ad z fo sv d pa ke ik fa te aw) := wd_pm (pm_nil _).symm hD
  subst hp7
  refine lv_iload_n hx hb dX8_farOf_10 rfl (lv_at hl 1 rfl) ?_
  refine ca_Si (rest := []) (wr := mow G ad z fo sv d pa ke ik fa te aw) F hX (mX8_has l G (clo (sf sv) (sg sv) (sv 5) (sv 1) (sv 2)) v (by have := clo_lt gf gg (set := sv 5) (L := sv 1) (src := sv 2) (by omega); omega) (by omega)) (cA_S hts kw_801 kw_8 kw_799 kw_800 hdX8_has ⟨Nat.le_of_ble_eq_true rfl, Nat.le_of_ble_eq_true rfl⟩) rfl hl.1 rfl (Nat.le_of_ble_eq_true rfl) dX8_farOf_11 ⟨Nat.le_of_ble_eq_true rfl, Nat.le_of_ble_eq_true rfl⟩ hP hD hS hA (List.Perm.refl _) (fun r11 u11 H locs hp11 hP hD hS => ?_)
  have hP : va_P G.1 vwCl (mow G ad z fo sv d pa ke ik fa te aw) H := hP
  have hD : va_D A (mow G ad z fo sv d pa ke ik fa te aw) := hD
  subst hp11
  refine bv_ne (b := (clo (sf sv) (sg sv) (sv 5) (sv 1) (sv 2)).testBit v) (tgt := 20) hx hb dX8_farOf_14 (by decide) (fun c14 => ?_) (fun c14 => ?_)
  · refine lv_iconst (v := (nI 0)) hx hb dX8_farOf_20 (by decide) ?_
    refine lv_istore_n (lv' := [(2, .int (nI 0)), (0, .ref (ad 0)), (1, .int (nI v))]) hx hb dX8_farOf_21 rfl hl (by decide) rfl (fun ls hl => ?_)
    refine lv_iconst (v := (nI 0)) hx hb dX8_farOf_22 (by decide) ?_
    refine lv_istore_n (lv' := [(3, .int (nI 0)), (2, .int (nI 0)), (0, .ref (ad 0)), (1, .int (nI v))]) hx hb dX8_farOf_23 rfl hl (by decide) rfl (fun ls hl => ?_)
    have lp24 : ∀ (n24 : Nat) (k : Nat) (x : Nat), (sv 1 - k) < n24 → x = mfaN (sf sv) (sg sv) (sc sv) (sv 1) (sv 2) (sv 5) v k → (k ≤ sv 1) → ∀ (H : Heap) (locs : List Loc), va_P G.1 vwCl (mow G ad z fo sv d pa ke ik fa te aw) H → va_D A (mow G ad z fo sv d pa ke ik fa te aw) → va_S A s.heap H locs → ∀ (ls : Array Slot), lv_has ls 4 [(0, .ref (ad 0)), (1, .int (nI v)), (2, .int (nI x)), (3, .int (nI k))] → WI p l e (rmN 2 46) s m [.ref (ad 0), .int (nI v)] below meth c H locs G A (fun (r9 : Int32) (_ : Unit) => r9 = (oN (if (clo (sf sv) (sg sv) (sv 5) (sv 1) (sv 2)).testBit v = true then some (mfaN (sf sv) (sg sv) (sc sv) (sv 1) (sv 2) (sv 5) v (sv 1)) else none))) (fun (_ : Unit) => mow G ad z fo sv d pa ke ik fa te aw) (F0 m 24 ls []) := by
      intro n24
      induction n24 with
      | zero => intro k x h9; exact absurd h9 (Nat.not_lt_zero _)
      | succ n24 ih24 =>
        intro k x hm24 e_x hk H locs hP hD hS ls hl
        subst e_x
        refine lv_iload_n hx hb dX8_farOf_24 rfl (lv_at hl 3 rfl) ?_
        refine lv_aload_n hx hb dX8_farOf_25 rfl (lv_at hl 0 rfl) ?_
        refine va_get (D := G.1) (ci := 7) (v := .ref (ad 1)) (C := RX8) (T := TX8) (N := 17) hx hb hts inA8 hown hX.1 hP 0 rfl rfl 1 (by decide) (hts _ kw_681) (fun _ h9 => h9) rfl dX8_farOf_26 ?_
        refine lv_iconst (v := (nI 1)) hx hb dX8_farOf_29 (by decide) ?_
        refine nv_ald (f := sv) (k := 1) hx hb hX hP 1 rfl (by omega) (by decide) dX8_farOf_30 ?_
        refine nv_ge (x := k) (y := sv 1) (tgt := 92) hx hb dX8_farOf_31 (by decide) (by omega) (by omega) (fun c31 => ?_) (fun c31 => ?_)
        · refine lv_iload_n hx hb dX8_farOf_92 rfl (lv_at hl 2 rfl) ?_
          exact re_i (v := (nI (mfaN (sf sv) (sg sv) (sc sv) (sv 1) (sv 2) (sv 5) v k))) hx hb hr hlocks hS () hP hD (by have e9 : k = sv 1 := (by omega); rw [e9, if_pos c14]; rfl) dX8_farOf_93
        · refine lv_iload_n hx hb dX8_farOf_34 rfl (lv_at hl 2 rfl) ?_
          refine lv_aload_n hx hb dX8_farOf_35 rfl (lv_at hl 0 rfl) ?_
          refine va_get (D := G.1) (ci := 7) (v := .ref (ad 1)) (C := RX8) (T := TX8) (N := 17) hx hb hts inA8 hown hX.1 hP 0 rfl rfl 1 (by decide) (hts _ kw_681) (fun _ h9 => h9) rfl dX8_farOf_36 ?_
          refine lv_iconst (v := (nI 5)) hx hb dX8_farOf_39 (by decide) ?_
          refine nv_ald (f := sv) (k := 5) hx hb hX hP 1 rfl (by omega) (by decide) dX8_farOf_40 ?_
          refine lv_iload_n hx hb dX8_farOf_41 rfl (lv_at hl 3 rfl) ?_
          refine ca_Si (rest := [.int (nI (mfaN (sf sv) (sg sv) (sc sv) (sv 1) (sv 2) (sv 5) v k))]) (wr := mow G ad z fo sv d pa ke ik fa te aw) F hX (mX8_has l G (sv 5) k (by omega) (by omega)) (cA_S hts kw_801 kw_8 kw_799 kw_800 hdX8_has ⟨Nat.le_of_ble_eq_true rfl, Nat.le_of_ble_eq_true rfl⟩) rfl hl.1 rfl (Nat.le_of_ble_eq_true rfl) dX8_farOf_42 ⟨Nat.le_of_ble_eq_true rfl, Nat.le_of_ble_eq_true rfl⟩ hP hD hS hA (List.Perm.refl _) (fun r42 u42 H locs hp42 hP hD hS => ?_)
          have hP : va_P G.1 vwCl (mow G ad z fo sv d pa ke ik fa te aw) H := hP
          have hD : va_D A (mow G ad z fo sv d pa ke ik fa te aw) := hD
          subst hp42
          refine bv_eq (b := (sv 5).testBit k) (tgt := 83) hx hb dX8_farOf_45 (by decide) (fun c45 => ?_) (fun c45 => ?_)
          · refine lv_iconst (v := (nI 0)) hx hb dX8_farOf_83 (by decide) ?_
            refine lv_iadd hx hb dX8_farOf_84 (ti (y := (nI ((mfaN (sf sv) (sg sv) (sc sv) (sv 1) (sv 2) (sv 5) v k) + 0))) (nI_add _ _) ?_)
            refine lv_istore_n (lv' := [(2, .int (nI ((mfaN (sf sv) (sg sv) (sc sv) (sv 1) (sv 2) (sv 5) v k) + 0))), (0, .ref (ad 0)), (1, .int (nI v)), (3, .int (nI k))]) hx hb dX8_farOf_85 rfl hl (by decide) rfl (fun ls hl => ?_)
            refine lv_iinc (v := (nI (k + 1))) (lv' := [(3, .int (nI (k + 1))), (2, .int (nI ((mfaN (sf sv) (sg sv) (sc sv) (sv 1) (sv 2) (sv 5) v k) + 0))), (0, .ref (ad 0)), (1, .int (nI v))]) hx hb dX8_farOf_86 hl (k := 3) rfl (qn_inc _) (by decide) rfl (fun ls hl => ?_)
            refine lv_goto (tgt := 24) hx hb dX8_farOf_89 (by decide) ?_
            exact ih24 (k + 1) ((mfaN (sf sv) (sg sv) (sc sv) (sv 1) (sv 2) (sv 5) v k) + 0) (by omega) (by rw [mfaN, if_neg (fun h => absurd (c45.symm.trans h.1) (by decide))] <;> rfl) (by omega) _ _ hP hD hS ls (lv_sub hl [2, 3, 1, 0] rfl)
          · refine lv_aload_n hx hb dX8_farOf_48 rfl (lv_at hl 0 rfl) ?_
            refine lv_aload_n hx hb dX8_farOf_49 rfl (lv_at hl 0 rfl) ?_
            refine va_get (D := G.1) (ci := 7) (v := .ref (ad 1)) (C := RX8) (T := TX8) (N := 17) hx hb hts inA8 hown hX.1 hP 0 rfl rfl 1 (by decide) (hts _ kw_681) (fun _ h9 => h9) rfl dX8_farOf_50 ?_
            refine lv_iconst (v := (nI 5)) hx hb dX8_farOf_53 (by decide) ?_
            refine nv_ald (f := sv) (k := 5) hx hb hX hP 1 rfl (by omega) (by decide) dX8_farOf_54 ?_
            refine lv_iconst (v := (nI 1)) hx hb dX8_farOf_55 (by decide) ?_
            refine lv_iload_n hx hb dX8_farOf_56 rfl (lv_at hl 3 rfl) ?_
            refine lv_ishl hx hb dX8_farOf_57 (ti (y := (nI (2 ^ k))) (qn_sh1 (by omega)) ?_)
            refine lv_iconst (v := (-1)) hx hb dX8_farOf_58 (by decide) ?_
            refine lv_ixor hx hb dX8_farOf_59 ?_
            refine lv_iand hx hb dX8_farOf_60 (ti (y := (nI (nd (sv 5) (2 ^ k)))) (qn_andn _ _) ?_)
            refine ca_Vi (ci := 7) (q := (RX8, TX8, 17)) (rest := [.int (nI (mfaN (sf sv) (sg sv) (sc sv) (sv 1) (sv 2) (sv 5) v k))]) (wr := ([] : va_W)) F hX (mX8_nodesOf l G ad z fo sv d pa ke ik fa te aw (nd (sv 5) (2 ^ k)) hB (by have := nd_le (sv 5) (2 ^ k); omega)) (cA_V hts kw_798 kw_8 kw_795 kw_797 kp_30 hdX8_nodesOf ⟨Nat.le_of_ble_eq_true rfl, Nat.le_of_ble_eq_true rfl⟩) rfl rfl rfl hl.1 rfl (Nat.le_of_ble_eq_true rfl) dX8_farOf_61 ⟨Nat.le_of_ble_eq_true rfl, Nat.le_of_ble_eq_true rfl⟩ hP hD hS hA (pm_nil _) (fun r61 u61 H locs hp61 hP hD hS => ?_)
            have hP : va_P G.1 vwCl (mow G ad z fo sv d pa ke ik fa te aw) H := wp_pm (pm_nil _).symm hP
            have hD : va_D A (mow G ad z fo sv d pa ke ik fa te aw) := wd_pm (pm_nil _).symm hD
            subst hp61
            refine lv_iload_n hx hb dX8_farOf_64 rfl (lv_at hl 1 rfl) ?_
            refine ca_Si (rest := [.int (nI (mfaN (sf sv) (sg sv) (sc sv) (sv 1) (sv 2) (sv 5) v k))]) (wr := mow G ad z fo sv d pa ke ik fa te aw) F hX (mX8_has l G (clo (sf sv) (sg sv) (nd (sv 5) (2 ^ k)) (sv 1) (sv 2)) v (by have := clo_lt gf gg (set := nd (sv 5) (2 ^ k)) (L := sv 1) (src := sv 2) (by omega); omega) (by omega)) (cA_S hts kw_801 kw_8 kw_799 kw_800 hdX8_has ⟨Nat.le_of_ble_eq_true rfl, Nat.le_of_ble_eq_true rfl⟩) rfl hl.1 rfl (Nat.le_of_ble_eq_true rfl) dX8_farOf_65 ⟨Nat.le_of_ble_eq_true rfl, Nat.le_of_ble_eq_true rfl⟩ hP hD hS hA (List.Perm.refl _) (fun r65 u65 H locs hp65 hP hD hS => ?_)
            have hP : va_P G.1 vwCl (mow G ad z fo sv d pa ke ik fa te aw) H := hP
            have hD : va_D A (mow G ad z fo sv d pa ke ik fa te aw) := hD
            subst hp65
            refine bv_ne (b := (clo (sf sv) (sg sv) (nd (sv 5) (2 ^ k)) (sv 1) (sv 2)).testBit v) (tgt := 83) hx hb dX8_farOf_68 (by decide) (fun c68 => ?_) (fun c68 => ?_)
            · refine lv_iconst (v := (nI 0)) hx hb dX8_farOf_83 (by decide) ?_
              refine lv_iadd hx hb dX8_farOf_84 (ti (y := (nI ((mfaN (sf sv) (sg sv) (sc sv) (sv 1) (sv 2) (sv 5) v k) + 0))) (nI_add _ _) ?_)
              refine lv_istore_n (lv' := [(2, .int (nI ((mfaN (sf sv) (sg sv) (sc sv) (sv 1) (sv 2) (sv 5) v k) + 0))), (0, .ref (ad 0)), (1, .int (nI v)), (3, .int (nI k))]) hx hb dX8_farOf_85 rfl hl (by decide) rfl (fun ls hl => ?_)
              refine lv_iinc (v := (nI (k + 1))) (lv' := [(3, .int (nI (k + 1))), (2, .int (nI ((mfaN (sf sv) (sg sv) (sc sv) (sv 1) (sv 2) (sv 5) v k) + 0))), (0, .ref (ad 0)), (1, .int (nI v))]) hx hb dX8_farOf_86 hl (k := 3) rfl (qn_inc _) (by decide) rfl (fun ls hl => ?_)
              refine lv_goto (tgt := 24) hx hb dX8_farOf_89 (by decide) ?_
              exact ih24 (k + 1) ((mfaN (sf sv) (sg sv) (sc sv) (sv 1) (sv 2) (sv 5) v k) + 0) (by omega) (by rw [mfaN, if_neg (fun h => absurd (c68.symm.trans h.2) (by decide))] <;> rfl) (by omega) _ _ hP hD hS ls (lv_sub hl [2, 3, 1, 0] rfl)
            · refine lv_aload_n hx hb dX8_farOf_71 rfl (lv_at hl 0 rfl) ?_
              refine va_get (D := G.1) (ci := 7) (v := .ref (ad 1)) (C := RX8) (T := TX8) (N := 17) hx hb hts inA8 hown hX.1 hP 0 rfl rfl 1 (by decide) (hts _ kw_681) (fun _ h9 => h9) rfl dX8_farOf_72 ?_
              refine lv_bipush (v := (nI 40)) hx hb dX8_farOf_75 (by decide) ?_
              refine lv_iload_n hx hb dX8_farOf_77 rfl (lv_at hl 3 rfl) ?_
              refine lv_iadd hx hb dX8_farOf_78 (ti (y := (nI (40 + k))) (nI_add _ _) ?_)
              refine nv_ald (f := sv) (k := 40 + k) hx hb hX hP 1 rfl (by omega) (by decide) dX8_farOf_79 ?_
              refine ti (y := (nI (sc sv k))) rfl ?_
              refine lv_goto (tgt := 84) hx hb dX8_farOf_80 (by decide) ?_
              refine lv_iadd hx hb dX8_farOf_84 (ti (y := (nI ((mfaN (sf sv) (sg sv) (sc sv) (sv 1) (sv 2) (sv 5) v k) + (sc sv k)))) (nI_add _ _) ?_)
              refine lv_istore_n (lv' := [(2, .int (nI ((mfaN (sf sv) (sg sv) (sc sv) (sv 1) (sv 2) (sv 5) v k) + (sc sv k)))), (0, .ref (ad 0)), (1, .int (nI v)), (3, .int (nI k))]) hx hb dX8_farOf_85 rfl hl (by decide) rfl (fun ls hl => ?_)
              refine lv_iinc (v := (nI (k + 1))) (lv' := [(3, .int (nI (k + 1))), (2, .int (nI ((mfaN (sf sv) (sg sv) (sc sv) (sv 1) (sv 2) (sv 5) v k) + (sc sv k)))), (0, .ref (ad 0)), (1, .int (nI v))]) hx hb dX8_farOf_86 hl (k := 3) rfl (qn_inc _) (by decide) rfl (fun ls hl => ?_)
              refine lv_goto (tgt := 24) hx hb dX8_farOf_89 (by decide) ?_
              exact ih24 (k + 1) ((mfaN (sf sv) (sg sv) (sc sv) (sv 1) (sv 2) (sv 5) v k) + (sc sv k)) (by omega) (by rw [mfaN, if_pos ⟨c45, c68⟩] <;> rfl) (by omega) _ _ hP hD hS ls (lv_sub hl [2, 3, 1, 0] rfl)
    exact lp24 _ 0 0 (Nat.lt_succ_self _) rfl (Nat.zero_le _) _ _ hP hD hS ls (lv_sub hl [2, 3, 1, 0] rfl)
  · refine lv_bipush (v := (-9)) hx hb dX8_farOf_17 (by decide) ?_
    exact re_i (v := (-9)) hx hb hr hlocks hS () hP hD (by rw [if_neg (by rw [c14]; decide)]; rfl) dX8_farOf_19

theorem hdX8_linksAt : hdOK yX8_linksAt 1 := by decide +kernel
set_option maxHeartbeats 4000000 in
set_option maxRecDepth 100000 in
theorem mX8_linksAt (l : Launch) (G : GG) (ad : Nat → Nat) (z : Nat → Nat) (fo : Option Nat) (sv : Nat → Nat) (d : Nat → Int32) (pa ke : Nat → Nat) (ik fa : Nat → Int32) (te aw : Nat → Nat) (v : Nat) (hB : SB sv) (hv : v < 7) : Mi l yX8_linksAt cX8_linksAt 4 (some .int) (rmN 1 22) G [.ref (ad 0), .int (nI v)] (mow G ad z fo sv d pa ke ik fa te aw) (fun (r9 : Int32) (_ : Unit) => r9 = (nI (mlaN (sf sv) (sg sv) (sv 5) v (sv 1)))) (fun (_ : Unit) => mow G ad z fo sv d pa ke ik fa te aw) := by
  refine Mi.of (cc := cX8_linksAt) (nL := 4) (by decide) (Nat.le_of_ble_eq_true rfl) ?_
  intro p e s m below meth c A ls F hr hlocks hnm hX hA hD hP hS hl
  have F : CallFix p m c cX8_linksAt 4 s [.ref (ad 0), .int (nI v)].toArray wA RX8 := F
  obtain ⟨hx, hb, hml, hown, hts⟩ := id F
  have hl : lv_has ls 4 [(0, .ref (ad 0)), (1, .int (nI v))] := hl
  obtain ⟨⟨b0, b1, b2, b3, b4, b5, b6, b7, b8⟩, g1, g2, g3, g4⟩ := id hB
  have gf : ∀ j, sf sv j < 10 := fun j => g1 (16 + j) (by omega)
  have gg : ∀ j, sg sv j < 10 := fun j => g1 (28 + j) (by omega)
  have gc : ∀ j, sc sv j ≤ 9 := fun j => by have := g1 (40 + j) (by omega); unfold sc; omega
  have gf7 : ∀ j, j < 12 → sf sv j < 7 := g2
  have gg7 : ∀ j, j < 12 → sg sv j < 7 := g3
  refine lv_iconst (v := (nI 0)) hx hb dX8_linksAt_0 (by decide) ?_
  refine lv_istore_n (lv' := [(2, .int (nI 0)), (0, .ref (ad 0)), (1, .int (nI v))]) hx hb dX8_linksAt_1 rfl hl (by decide) rfl (fun ls hl => ?_)
  refine lv_iconst (v := (nI 0)) hx hb dX8_linksAt_2 (by decide) ?_
  refine lv_istore_n (lv' := [(3, .int (nI 0)), (2, .int (nI 0)), (0, .ref (ad 0)), (1, .int (nI v))]) hx hb dX8_linksAt_3 rfl hl (by decide) rfl (fun ls hl => ?_)
  have lp4 : ∀ (n4 : Nat) (k : Nat) (x : Nat), (sv 1 - k) < n4 → x = mlaN (sf sv) (sg sv) (sv 5) v k → (k ≤ sv 1) → ∀ (H : Heap) (locs : List Loc), va_P G.1 vwCl (mow G ad z fo sv d pa ke ik fa te aw) H → va_D A (mow G ad z fo sv d pa ke ik fa te aw) → va_S A s.heap H locs → ∀ (ls : Array Slot), lv_has ls 4 [(0, .ref (ad 0)), (1, .int (nI v)), (2, .int (nI x)), (3, .int (nI k))] → WI p l e (rmN 1 22) s m [.ref (ad 0), .int (nI v)] below meth c H locs G A (fun (r9 : Int32) (_ : Unit) => r9 = (nI (mlaN (sf sv) (sg sv) (sv 5) v (sv 1)))) (fun (_ : Unit) => mow G ad z fo sv d pa ke ik fa te aw) (F0 m 4 ls []) := by
    intro n4
    induction n4 with
    | zero => intro k x h9; exact absurd h9 (Nat.not_lt_zero _)
    | succ n4 ih4 =>
      intro k x hm4 e_x hk H locs hP hD hS ls hl
      subst e_x
      refine lv_iload_n hx hb dX8_linksAt_4 rfl (lv_at hl 3 rfl) ?_
      refine lv_aload_n hx hb dX8_linksAt_5 rfl (lv_at hl 0 rfl) ?_
      refine va_get (D := G.1) (ci := 7) (v := .ref (ad 1)) (C := RX8) (T := TX8) (N := 17) hx hb hts inA8 hown hX.1 hP 0 rfl rfl 1 (by decide) (hts _ kw_681) (fun _ h9 => h9) rfl dX8_linksAt_6 ?_
      refine lv_iconst (v := (nI 1)) hx hb dX8_linksAt_9 (by decide) ?_
      refine nv_ald (f := sv) (k := 1) hx hb hX hP 1 rfl (by omega) (by decide) dX8_linksAt_10 ?_
      refine nv_ge (x := k) (y := sv 1) (tgt := 52) hx hb dX8_linksAt_11 (by decide) (by omega) (by omega) (fun c11 => ?_) (fun c11 => ?_)
      · refine lv_iload_n hx hb dX8_linksAt_52 rfl (lv_at hl 2 rfl) ?_
        exact re_i (v := (nI (mlaN (sf sv) (sg sv) (sv 5) v k))) hx hb hr hlocks hS () hP hD (by have e9 : k = sv 1 := (by omega); rw [e9]) dX8_linksAt_53
      · refine lv_iload_n hx hb dX8_linksAt_14 rfl (lv_at hl 2 rfl) ?_
        refine lv_aload_n hx hb dX8_linksAt_15 rfl (lv_at hl 0 rfl) ?_
        refine va_get (D := G.1) (ci := 7) (v := .ref (ad 1)) (C := RX8) (T := TX8) (N := 17) hx hb hts inA8 hown hX.1 hP 0 rfl rfl 1 (by decide) (hts _ kw_681) (fun _ h9 => h9) rfl dX8_linksAt_16 ?_
        refine lv_iconst (v := (nI 5)) hx hb dX8_linksAt_19 (by decide) ?_
        refine nv_ald (f := sv) (k := 5) hx hb hX hP 1 rfl (by omega) (by decide) dX8_linksAt_20 ?_
        refine lv_iload_n hx hb dX8_linksAt_21 rfl (lv_at hl 3 rfl) ?_
        refine ca_Si (rest := [.int (nI (mlaN (sf sv) (sg sv) (sv 5) v k))]) (wr := mow G ad z fo sv d pa ke ik fa te aw) F hX (mX8_has l G (sv 5) k (by omega) (by omega)) (cA_S hts kw_801 kw_8 kw_799 kw_800 hdX8_has ⟨Nat.le_of_ble_eq_true rfl, Nat.le_of_ble_eq_true rfl⟩) rfl hl.1 rfl (Nat.le_of_ble_eq_true rfl) dX8_linksAt_22 ⟨Nat.le_of_ble_eq_true rfl, Nat.le_of_ble_eq_true rfl⟩ hP hD hS hA (List.Perm.refl _) (fun r22 u22 H locs hp22 hP hD hS => ?_)
        have hP : va_P G.1 vwCl (mow G ad z fo sv d pa ke ik fa te aw) H := hP
        have hD : va_D A (mow G ad z fo sv d pa ke ik fa te aw) := hD
        subst hp22
        refine bv_eq (b := (sv 5).testBit k) (tgt := 43) hx hb dX8_linksAt_25 (by decide) (fun c25 => ?_) (fun c25 => ?_)
        · refine lv_iconst (v := (nI 0)) hx hb dX8_linksAt_43 (by decide) ?_
          refine lv_iadd hx hb dX8_linksAt_44 (ti (y := (nI ((mlaN (sf sv) (sg sv) (sv 5) v k) + 0))) (nI_add _ _) ?_)
          refine lv_istore_n (lv' := [(2, .int (nI ((mlaN (sf sv) (sg sv) (sv 5) v k) + 0))), (0, .ref (ad 0)), (1, .int (nI v)), (3, .int (nI k))]) hx hb dX8_linksAt_45 rfl hl (by decide) rfl (fun ls hl => ?_)
          refine lv_iinc (v := (nI (k + 1))) (lv' := [(3, .int (nI (k + 1))), (2, .int (nI ((mlaN (sf sv) (sg sv) (sv 5) v k) + 0))), (0, .ref (ad 0)), (1, .int (nI v))]) hx hb dX8_linksAt_46 hl (k := 3) rfl (qn_inc _) (by decide) rfl (fun ls hl => ?_)
          refine lv_goto (tgt := 4) hx hb dX8_linksAt_49 (by decide) ?_
          exact ih4 (k + 1) ((mlaN (sf sv) (sg sv) (sv 5) v k) + 0) (by omega) (by rw [mlaN, if_neg (fun h => absurd (c25.symm.trans h.1) (by decide))] <;> rfl) (by omega) _ _ hP hD hS ls (lv_sub hl [2, 3, 1, 0] rfl)
        · refine lv_aload_n hx hb dX8_linksAt_28 rfl (lv_at hl 0 rfl) ?_
          refine lv_iload_n hx hb dX8_linksAt_29 rfl (lv_at hl 3 rfl) ?_
          refine lv_iload_n hx hb dX8_linksAt_30 rfl (lv_at hl 1 rfl) ?_
          refine ca_Vi (ci := 7) (q := (RX8, TX8, 17)) (rest := [.int (nI (mlaN (sf sv) (sg sv) (sv 5) v k))]) (wr := ([] : va_W)) F hX (mX8_beyond l G ad z fo sv d pa ke ik fa te aw k v hB (by omega) (by omega)) (cA_V hts kw_818 kw_8 kw_815 kw_817 kp_34 hdX8_beyond ⟨Nat.le_of_ble_eq_true rfl, Nat.le_of_ble_eq_true rfl⟩) rfl rfl rfl hl.1 rfl (Nat.le_of_ble_eq_true rfl) dX8_linksAt_31 ⟨Nat.le_of_ble_eq_true rfl, Nat.le_of_ble_eq_true rfl⟩ hP hD hS hA (pm_nil _) (fun r31 u31 H locs hp31 hP hD hS => ?_)
          have hP : va_P G.1 vwCl (mow G ad z fo sv d pa ke ik fa te aw) H := wp_pm (pm_nil _).symm hP
          have hD : va_D A (mow G ad z fo sv d pa ke ik fa te aw) := wd_pm (pm_nil _).symm hD
          subst hp31
          rcases hj : byO (sf sv) (sg sv) k v with _ | j
          · refine ti (y := -9) rfl ?_
            refine lv_bipush (v := (-9)) hx hb dX8_linksAt_34 (by decide) ?_
            refine lv_icmp_eq (x := (-9)) (y := (-9)) (tgt := 43) hx hb dX8_linksAt_36 (by decide) (fun _ => ?_) (fun h9 => absurd rfl h9)
            refine lv_iconst (v := (nI 0)) hx hb dX8_linksAt_43 (by decide) ?_
            refine lv_iadd hx hb dX8_linksAt_44 (ti (y := (nI ((mlaN (sf sv) (sg sv) (sv 5) v k) + 0))) (nI_add _ _) ?_)
            refine lv_istore_n (lv' := [(2, .int (nI ((mlaN (sf sv) (sg sv) (sv 5) v k) + 0))), (0, .ref (ad 0)), (1, .int (nI v)), (3, .int (nI k))]) hx hb dX8_linksAt_45 rfl hl (by decide) rfl (fun ls hl => ?_)
            refine lv_iinc (v := (nI (k + 1))) (lv' := [(3, .int (nI (k + 1))), (2, .int (nI ((mlaN (sf sv) (sg sv) (sv 5) v k) + 0))), (0, .ref (ad 0)), (1, .int (nI v))]) hx hb dX8_linksAt_46 hl (k := 3) rfl (qn_inc _) (by decide) rfl (fun ls hl => ?_)
            refine lv_goto (tgt := 4) hx hb dX8_linksAt_49 (by decide) ?_
            exact ih4 (k + 1) ((mlaN (sf sv) (sg sv) (sv 5) v k) + 0) (by omega) (by rw [mlaN, if_neg (fun h => h.2 hj)] <;> rfl) (by omega) _ _ hP hD hS ls (lv_sub hl [2, 3, 1, 0] rfl)
          · refine ti (y := nI j) rfl ?_
            refine lv_bipush (v := (-9)) hx hb dX8_linksAt_34 (by decide) ?_
            refine lv_icmp_eq (x := (nI j)) (y := (-9)) (tgt := 43) hx hb dX8_linksAt_36 (by decide) (fun h9 => absurd h9 (nI_n9 (by have h1 := byO_lt (gf7 k (by omega)) (gg7 k (by omega)) hj; omega))) (fun _ => ?_)
            refine lv_iconst (v := (nI 1)) hx hb dX8_linksAt_39 (by decide) ?_
            refine lv_goto (tgt := 44) hx hb dX8_linksAt_40 (by decide) ?_
            refine lv_iadd hx hb dX8_linksAt_44 (ti (y := (nI ((mlaN (sf sv) (sg sv) (sv 5) v k) + 1))) (nI_add _ _) ?_)
            refine lv_istore_n (lv' := [(2, .int (nI ((mlaN (sf sv) (sg sv) (sv 5) v k) + 1))), (0, .ref (ad 0)), (1, .int (nI v)), (3, .int (nI k))]) hx hb dX8_linksAt_45 rfl hl (by decide) rfl (fun ls hl => ?_)
            refine lv_iinc (v := (nI (k + 1))) (lv' := [(3, .int (nI (k + 1))), (2, .int (nI ((mlaN (sf sv) (sg sv) (sv 5) v k) + 1))), (0, .ref (ad 0)), (1, .int (nI v))]) hx hb dX8_linksAt_46 hl (k := 3) rfl (qn_inc _) (by decide) rfl (fun ls hl => ?_)
            refine lv_goto (tgt := 4) hx hb dX8_linksAt_49 (by decide) ?_
            exact ih4 (k + 1) ((mlaN (sf sv) (sg sv) (sv 5) v k) + 1) (by omega) (by rw [mlaN, if_pos ⟨c25, by rw [hj]; exact fun h => by cases h⟩] <;> rfl) (by omega) _ _ hP hD hS ls (lv_sub hl [2, 3, 1, 0] rfl)
  exact lp4 _ 0 0 (Nat.lt_succ_self _) rfl (Nat.zero_le _) _ _ hP hD hS ls (lv_sub hl [2, 3, 1, 0] rfl)

theorem hdX8_away : hdOK yX8_away 2 := by decide +kernel
set_option maxHeartbeats 4000000 in
set_option maxRecDepth 100000 in
theorem mX8_away (l : Launch) (G : GG) (ad : Nat → Nat) (z : Nat → Nat) (fo : Option Nat) (sv : Nat → Nat) (d : Nat → Int32) (pa ke : Nat → Nat) (ik fa : Nat → Int32) (te aw : Nat → Nat) (v : Nat) (x : Int32) (ha : ∀ j, aw j ≤ 1000000) (hv : v < 7) : Mi l yX8_away cX8_away 3 (some .int) (rmN 0 0) G [.ref (ad 0), .int (nI v), .int x] (mow G ad z fo sv d pa ke ik fa te aw) (fun (r9 : Int32) (_ : Unit) => r9 = (oN (mawI aw v x))) (fun (_ : Unit) => mow G ad z fo sv d pa ke ik fa te aw) := by
  refine Mi.of (cc := cX8_away) (nL := 3) (by decide) (Nat.le_of_ble_eq_true rfl) ?_
  intro p e s m below meth c A ls F hr hlocks hnm hX hA hD hP hS hl
  have F : CallFix p m c cX8_away 3 s [.ref (ad 0), .int (nI v), .int x].toArray wA RX8 := F
  obtain ⟨hx, hb, hml, hown, hts⟩ := id F
  have hl : lv_has ls 3 [(0, .ref (ad 0)), (1, .int (nI v)), (2, .int x)] := hl
  refine lv_aload_n hx hb dX8_away_0 rfl (lv_at hl 0 rfl) ?_
  refine va_get (D := G.1) (ci := 7) (v := .ref (ad 8)) (C := RX8) (T := TX8) (N := 17) hx hb hts inA8 hown hX.1 hP 0 rfl rfl 15 (by decide) (hts _ kw_695) (fun _ h9 => h9) rfl dX8_away_1 ?_
  refine lv_iload_n hx hb dX8_away_4 rfl (lv_at hl 1 rfl) ?_
  refine nv_ald (f := aw) (k := v) hx hb hX hP 8 rfl (by omega) (by decide) dX8_away_5 ?_
  refine lv_ldc (v := (nI 1000000)) hx hb hown (hts _ kw_806) dX8_away_6 ?_
  refine nv_lt (x := aw v) (y := 1000000) (tgt := 16) hx hb dX8_away_8 (by decide) (by have := ha v; omega) (by decide) (fun c8 => ?_) (fun c8 => ?_)
  · refine lv_iload_n hx hb dX8_away_16 rfl (lv_at hl 2 rfl) ?_
    refine lv_if_ne (x := x) (tgt := 32) hx hb dX8_away_17 (by decide) (fun c17 => ?_) (fun c17 => ?_)
    · refine lv_aload_n hx hb dX8_away_32 rfl (lv_at hl 0 rfl) ?_
      refine va_get (D := G.1) (ci := 7) (v := .ref (ad 8)) (C := RX8) (T := TX8) (N := 17) hx hb hts inA8 hown hX.1 hP 0 rfl rfl 15 (by decide) (hts _ kw_695) (fun _ h9 => h9) rfl dX8_away_33 ?_
      refine lv_iload_n hx hb dX8_away_36 rfl (lv_at hl 1 rfl) ?_
      refine nv_ald (f := aw) (k := v) hx hb hX hP 8 rfl (by omega) (by decide) dX8_away_37 ?_
      refine lv_bipush (v := (nI 16)) hx hb dX8_away_38 (by decide) ?_
      refine lv_irem hx hb dX8_away_40 (by decide) (ti (y := (nI ((aw v) % 16))) (pk_rem (by have := ha v; omega) (by decide) (by decide)) ?_)
      exact re_i (v := (nI ((aw v) % 16))) hx hb hr hlocks hS () hP hD (by rw [mawI, if_neg (by omega), if_neg c17]; rfl) dX8_away_41
    · refine lv_aload_n hx hb dX8_away_20 rfl (lv_at hl 0 rfl) ?_
      refine va_get (D := G.1) (ci := 7) (v := .ref (ad 8)) (C := RX8) (T := TX8) (N := 17) hx hb hts inA8 hown hX.1 hP 0 rfl rfl 15 (by decide) (hts _ kw_695) (fun _ h9 => h9) rfl dX8_away_21 ?_
      refine lv_iload_n hx hb dX8_away_24 rfl (lv_at hl 1 rfl) ?_
      refine nv_ald (f := aw) (k := v) hx hb hX hP 8 rfl (by omega) (by decide) dX8_away_25 ?_
      refine lv_bipush (v := (nI 16)) hx hb dX8_away_26 (by decide) ?_
      refine lv_idiv hx hb dX8_away_28 (by decide) (ti (y := (nI ((aw v) / 16))) (pk_div (by have := ha v; omega) (by decide) (by decide)) ?_)
      refine lv_goto (tgt := 41) hx hb dX8_away_29 (by decide) ?_
      exact re_i (v := (nI ((aw v) / 16))) hx hb hr hlocks hS () hP hD (by rw [mawI, if_neg (by omega), if_pos c17]; rfl) dX8_away_41
  · refine lv_bipush (v := (-9)) hx hb dX8_away_11 (by decide) ?_
    refine lv_goto (tgt := 41) hx hb dX8_away_13 (by decide) ?_
    exact re_i (v := (-9)) hx hb hr hlocks hS () hP hD (by rw [mawI, if_pos c8]; rfl) dX8_away_41

theorem hdX8_least : hdOK yX8_least 0 := by decide +kernel
set_option maxHeartbeats 4000000 in
set_option maxRecDepth 100000 in
theorem mX8_least (l : Launch) (G : GG) (ad : Nat → Nat) (z : Nat → Nat) (fo : Option Nat) (sv : Nat → Nat) (d : Nat → Int32) (pa ke : Nat → Nat) (ik fa : Nat → Int32) (te aw : Nat → Nat) (hB : SB sv) : Mi l yX8_least cX8_least 4 (some .int) (rmN 2 46) G [.ref (ad 0)] (mow G ad z fo sv d pa ke ik fa te aw) (fun (r9 : Int32) (_ : Unit) => r9 = (nI ((mleN (sf sv) (sg sv) (sc sv) (sv 1) (sv 2) (sv 4) (sv 6) (2 ^ sv 1)).1))) (fun (_ : Unit) => mow G ad (va_up z 16 ((mleN (sf sv) (sg sv) (sc sv) (sv 1) (sv 2) (sv 4) (sv 6) (2 ^ sv 1)).2)) fo sv d pa ke ik fa te aw) := by
  refine Mi.of (cc := cX8_least) (nL := 4) (by decide) (Nat.le_of_ble_eq_true rfl) ?_
  intro p e s m below meth c A ls F hr hlocks hnm hX hA hD hP hS hl
  have F : CallFix p m c cX8_least 4 s [.ref (ad 0)].toArray wA RX8 := F
  obtain ⟨hx, hb, hml, hown, hts⟩ := id F
  have hl : lv_has ls 4 [(0, .ref (ad 0))] := hl
  obtain ⟨⟨b0, b1, b2, b3, b4, b5, b6, b7, b8⟩, g1, g2, g3, g4⟩ := id hB
  have gf : ∀ j, sf sv j < 10 := fun j => g1 (16 + j) (by omega)
  have gg : ∀ j, sg sv j < 10 := fun j => g1 (28 + j) (by omega)
  have gc : ∀ j, sc sv j ≤ 9 := fun j => by have := g1 (40 + j) (by omega); unfold sc; omega
  have gf7 : ∀ j, j < 12 → sf sv j < 7 := g2
  have gg7 : ∀ j, j < 12 → sg sv j < 7 := g3
  have hp := pw12 b4
  refine lv_iconst (v := (nI 0)) hx hb dX8_least_0 (by decide) ?_
  refine lv_istore_n (lv' := [(1, .int (nI 0)), (0, .ref (ad 0))]) hx hb dX8_least_1 rfl hl (by decide) rfl (fun ls hl => ?_)
  refine lv_aload_n hx hb dX8_least_2 rfl (lv_at hl 1 rfl) ?_
  refine lv_ldc (v := (nI 1000000)) hx hb hown (hts _ kw_806) dX8_least_3 ?_
  refine va_put (D := G.1) (ci := 7) (v := .int (nI 1000000)) (ty := .int) (C := RX8) (T := TX8) (N := 17) hx hb hts inA8 tyX8 tyX8_ok nmX8 hown hX.1 hP hD hS 0 rfl rfl 16 (by decide) (hts _ kw_696) (fun _ h9 => h9) rfl (by decide +kernel) rfl rfl (Nat.le_of_ble_eq_true rfl) dX8_least_5 (fun H locs hP hD hS => ?_)
  have hP : va_P G.1 vwCl (mow G ad (va_up z 16 1000000) fo sv d pa ke ik fa te aw) H := hP
  have hD : va_D A (mow G ad (va_up z 16 1000000) fo sv d pa ke ik fa te aw) := hD
  refine lv_iconst (v := (nI 0)) hx hb dX8_least_8 (by decide) ?_
  refine lv_istore_n (lv' := [(2, .int (nI 0)), (1, .int (nI 0)), (0, .ref (ad 0))]) hx hb dX8_least_9 rfl hl (by decide) rfl (fun ls hl => ?_)
  have lp10 : ∀ (n10 : Nat) (i : Nat) (x : Nat) (y : Nat), (2 ^ sv 1 - i) < n10 → x = (mleN (sf sv) (sg sv) (sc sv) (sv 1) (sv 2) (sv 4) (sv 6) i).1 → y = (mleN (sf sv) (sg sv) (sc sv) (sv 1) (sv 2) (sv 4) (sv 6) i).2 → (i ≤ 2 ^ sv 1) → ∀ (H : Heap) (locs : List Loc), va_P G.1 vwCl (mow G ad (va_up z 16 y) fo sv d pa ke ik fa te aw) H → va_D A (mow G ad (va_up z 16 y) fo sv d pa ke ik fa te aw) → va_S A s.heap H locs → ∀ (ls : Array Slot), lv_has ls 4 [(0, .ref (ad 0)), (1, .int (nI x)), (2, .int (nI i))] → WI p l e (rmN 2 46) s m [.ref (ad 0)] below meth c H locs G A (fun (r9 : Int32) (_ : Unit) => r9 = (nI ((mleN (sf sv) (sg sv) (sc sv) (sv 1) (sv 2) (sv 4) (sv 6) (2 ^ sv 1)).1))) (fun (_ : Unit) => mow G ad (va_up z 16 ((mleN (sf sv) (sg sv) (sc sv) (sv 1) (sv 2) (sv 4) (sv 6) (2 ^ sv 1)).2)) fo sv d pa ke ik fa te aw) (F0 m 10 ls []) := by
    intro n10
    induction n10 with
    | zero => intro i x y h9; exact absurd h9 (Nat.not_lt_zero _)
    | succ n10 ih10 =>
      intro i x y hm10 e_x e_y hi H locs hP hD hS ls hl
      subst e_x
      subst e_y
      refine lv_iload_n hx hb dX8_least_10 rfl (lv_at hl 2 rfl) ?_
      refine lv_iconst (v := (nI 1)) hx hb dX8_least_11 (by decide) ?_
      refine lv_aload_n hx hb dX8_least_12 rfl (lv_at hl 0 rfl) ?_
      refine va_get (D := G.1) (ci := 7) (v := .ref (ad 1)) (C := RX8) (T := TX8) (N := 17) hx hb hts inA8 hown hX.1 hP 0 rfl rfl 1 (by decide) (hts _ kw_681) (fun _ h9 => h9) rfl dX8_least_13 ?_
      refine lv_iconst (v := (nI 1)) hx hb dX8_least_16 (by decide) ?_
      refine nv_ald (f := sv) (k := 1) hx hb hX hP 1 rfl (by omega) (by decide) dX8_least_17 ?_
      refine lv_ishl hx hb dX8_least_18 (ti (y := (nI (2 ^ (sv 1)))) (qn_sh1 (by omega)) ?_)
      refine nv_ge (x := i) (y := 2 ^ (sv 1)) (tgt := 78) hx hb dX8_least_19 (by decide) (by omega) (by omega) (fun c19 => ?_) (fun c19 => ?_)
      · refine lv_iload_n hx hb dX8_least_78 rfl (lv_at hl 1 rfl) ?_
        have e9 : i = 2 ^ sv 1 := (by omega)
        rw [e9] at hP hD
        exact re_i (v := (nI ((mleN (sf sv) (sg sv) (sc sv) (sv 1) (sv 2) (sv 4) (sv 6) i).1))) hx hb hr hlocks hS () hP hD (by have e9 : i = 2 ^ sv 1 := (by omega); rw [e9]) dX8_least_79
      · refine lv_aload_n hx hb dX8_least_22 rfl (lv_at hl 0 rfl) ?_
        refine lv_iload_n hx hb dX8_least_23 rfl (lv_at hl 2 rfl) ?_
        refine ca_Vi (ci := 7) (q := (RX8, TX8, 17)) (rest := []) (wr := ([] : va_W)) F hX (mX8_costOf l G ad (va_up z 16 ((mleN (sf sv) (sg sv) (sc sv) (sv 1) (sv 2) (sv 4) (sv 6) i).2)) fo sv d pa ke ik fa te aw i hB (by omega)) (cA_V hts kw_834 kw_8 kw_831 kw_833 kp_38 hdX8_costOf ⟨Nat.le_of_ble_eq_true rfl, Nat.le_of_ble_eq_true rfl⟩) rfl rfl rfl hl.1 rfl (Nat.le_of_ble_eq_true rfl) dX8_least_24 ⟨Nat.le_of_ble_eq_true rfl, Nat.le_of_ble_eq_true rfl⟩ hP hD hS hA (pm_nil _) (fun r24 u24 H locs hp24 hP hD hS => ?_)
        have hP : va_P G.1 vwCl (mow G ad (va_up z 16 ((mleN (sf sv) (sg sv) (sc sv) (sv 1) (sv 2) (sv 4) (sv 6) i).2)) fo sv d pa ke ik fa te aw) H := wp_pm (pm_nil _).symm hP
        have hD : va_D A (mow G ad (va_up z 16 ((mleN (sf sv) (sg sv) (sc sv) (sv 1) (sv 2) (sv 4) (sv 6) i).2)) fo sv d pa ke ik fa te aw) := wd_pm (pm_nil _).symm hD
        subst hp24
        refine lv_istore_n (lv' := [(3, .int (nI (cst (sc sv) i (sv 1)))), (0, .ref (ad 0)), (1, .int (nI ((mleN (sf sv) (sg sv) (sc sv) (sv 1) (sv 2) (sv 4) (sv 6) i).1))), (2, .int (nI i))]) hx hb dX8_least_27 rfl hl (by decide) rfl (fun ls hl => ?_)
        refine lv_iload_n hx hb dX8_least_28 rfl (lv_at hl 3 rfl) ?_
        refine lv_aload_n hx hb dX8_least_29 rfl (lv_at hl 1 rfl) ?_
        refine va_get (D := G.1) (ci := 7) (v := .ref (ad 1)) (C := RX8) (T := TX8) (N := 17) hx hb hts inA8 hown hX.1 hP 0 rfl rfl 1 (by decide) (hts _ kw_681) (fun _ h9 => h9) rfl dX8_least_30 ?_
        refine lv_bipush (v := (nI 6)) hx hb dX8_least_33 (by decide) ?_
        refine nv_ald (f := sv) (k := 6) hx hb hX hP 1 rfl (by omega) (by decide) dX8_least_35 ?_
        refine lv_iand hx hb dX8_least_36 (ti (y := (nI (i &&& (sv 6)))) (qn_and _ _) ?_)
        refine nv_zne (x := i &&& (sv 6)) (tgt := 72) hx hb dX8_least_37 (by decide) (by have := Nat.and_le_left (n := i) (m := sv 6); omega) (fun c37 => ?_) (fun c37 => ?_)
        · refine lv_iinc (v := (nI (i + 1))) (lv' := [(2, .int (nI (i + 1))), (3, .int (nI (cst (sc sv) i (sv 1)))), (0, .ref (ad 0)), (1, .int (nI ((mleN (sf sv) (sg sv) (sc sv) (sv 1) (sv 2) (sv 4) (sv 6) i).1)))]) hx hb dX8_least_72 hl (k := 3) rfl (qn_inc _) (by decide) rfl (fun ls hl => ?_)
          refine lv_goto (tgt := 10) hx hb dX8_least_75 (by decide) ?_
          exact ih10 (i + 1) ((mleN (sf sv) (sg sv) (sc sv) (sv 1) (sv 2) (sv 4) (sv 6) i).1) ((mleN (sf sv) (sg sv) (sc sv) (sv 1) (sv 2) (sv 4) (sv 6) i).2) (by omega) (by rw [mleN, if_neg (fun h => c37 h.1)]) (by rw [mleN, if_neg (fun h => c37 h.1)]) (by omega) _ _ hP hD hS ls (lv_sub hl [2, 3, 0] rfl)
        · refine lv_iload_n hx hb dX8_least_40 rfl (lv_at hl 0 rfl) ?_
          refine lv_aload_n hx hb dX8_least_41 rfl (lv_at hl 1 rfl) ?_
          refine va_get (D := G.1) (ci := 7) (v := .int (nI ((mleN (sf sv) (sg sv) (sc sv) (sv 1) (sv 2) (sv 4) (sv 6) i).2))) (C := RX8) (T := TX8) (N := 17) hx hb hts inA8 hown hX.1 hP 0 rfl rfl 16 (by decide) (hts _ kw_696) (fun _ h9 => h9) rfl dX8_least_42 ?_
          refine nv_ge (x := cst (sc sv) i (sv 1)) (y := ((mleN (sf sv) (sg sv) (sc sv) (sv 1) (sv 2) (sv 4) (sv 6) i).2)) (tgt := 72) hx hb dX8_least_45 (by decide) (by have : cst (sc sv) i (sv 1) ≤ 9 * sv 1 := cst_le gc i (sv 1); omega) (by have := mleN_lt (f := sf sv) (g := sg sv) (src := sv 2) (mem := sv 4) (dn := sv 6) gc b4 i; omega) (fun c45 => ?_) (fun c45 => ?_)
          · refine lv_iinc (v := (nI (i + 1))) (lv' := [(2, .int (nI (i + 1))), (3, .int (nI (cst (sc sv) i (sv 1)))), (0, .ref (ad 0)), (1, .int (nI ((mleN (sf sv) (sg sv) (sc sv) (sv 1) (sv 2) (sv 4) (sv 6) i).1)))]) hx hb dX8_least_72 hl (k := 3) rfl (qn_inc _) (by decide) rfl (fun ls hl => ?_)
            refine lv_goto (tgt := 10) hx hb dX8_least_75 (by decide) ?_
            exact ih10 (i + 1) ((mleN (sf sv) (sg sv) (sc sv) (sv 1) (sv 2) (sv 4) (sv 6) i).1) ((mleN (sf sv) (sg sv) (sc sv) (sv 1) (sv 2) (sv 4) (sv 6) i).2) (by omega) (by rw [mleN, if_neg (fun h => absurd h.2.1 (Nat.not_lt.mpr c45))]) (by rw [mleN, if_neg (fun h => absurd h.2.1 (Nat.not_lt.mpr c45))]) (by omega) _ _ hP hD hS ls (lv_sub hl [2, 3, 0] rfl)
          · refine lv_aload_n hx hb dX8_least_48 rfl (lv_at hl 1 rfl) ?_
            refine va_get (D := G.1) (ci := 7) (v := .ref (ad 1)) (C := RX8) (T := TX8) (N := 17) hx hb hts inA8 hown hX.1 hP 0 rfl rfl 1 (by decide) (hts _ kw_681) (fun _ h9 => h9) rfl dX8_least_49 ?_
            refine lv_iconst (v := (nI 4)) hx hb dX8_least_52 (by decide) ?_
            refine nv_ald (f := sv) (k := 4) hx hb hX hP 1 rfl (by omega) (by decide) dX8_least_53 ?_
            refine lv_aload_n hx hb dX8_least_54 rfl (lv_at hl 1 rfl) ?_
            refine lv_iload_n hx hb dX8_least_55 rfl (lv_at hl 3 rfl) ?_
            refine ca_Vi (ci := 7) (q := (RX8, TX8, 17)) (rest := [.int (nI (sv 4))]) (wr := ([] : va_W)) F hX (mX8_nodesOf l G ad (va_up z 16 ((mleN (sf sv) (sg sv) (sc sv) (sv 1) (sv 2) (sv 4) (sv 6) i).2)) fo sv d pa ke ik fa te aw i hB (by omega)) (cA_V hts kw_798 kw_8 kw_795 kw_797 kp_30 hdX8_nodesOf ⟨Nat.le_of_ble_eq_true rfl, Nat.le_of_ble_eq_true rfl⟩) rfl rfl rfl hl.1 rfl (Nat.le_of_ble_eq_true rfl) dX8_least_56 ⟨Nat.le_of_ble_eq_true rfl, Nat.le_of_ble_eq_true rfl⟩ hP hD hS hA (pm_nil _) (fun r56 u56 H locs hp56 hP hD hS => ?_)
            have hP : va_P G.1 vwCl (mow G ad (va_up z 16 ((mleN (sf sv) (sg sv) (sc sv) (sv 1) (sv 2) (sv 4) (sv 6) i).2)) fo sv d pa ke ik fa te aw) H := wp_pm (pm_nil _).symm hP
            have hD : va_D A (mow G ad (va_up z 16 ((mleN (sf sv) (sg sv) (sc sv) (sv 1) (sv 2) (sv 4) (sv 6) i).2)) fo sv d pa ke ik fa te aw) := wd_pm (pm_nil _).symm hD
            subst hp56
            refine lv_iconst (v := (-1)) hx hb dX8_least_59 (by decide) ?_
            refine lv_ixor hx hb dX8_least_60 ?_
            refine lv_iand hx hb dX8_least_61 (ti (y := (nI (nd (sv 4) (clo (sf sv) (sg sv) i (sv 1) (sv 2))))) (qn_andn _ _) ?_)
            refine nv_zne (x := nd (sv 4) (clo (sf sv) (sg sv) i (sv 1) (sv 2))) (tgt := 72) hx hb dX8_least_62 (by decide) (by have := nd_le (sv 4) (clo (sf sv) (sg sv) i (sv 1) (sv 2)); omega) (fun c62 => ?_) (fun c62 => ?_)
            · refine lv_iinc (v := (nI (i + 1))) (lv' := [(2, .int (nI (i + 1))), (3, .int (nI (cst (sc sv) i (sv 1)))), (0, .ref (ad 0)), (1, .int (nI ((mleN (sf sv) (sg sv) (sc sv) (sv 1) (sv 2) (sv 4) (sv 6) i).1)))]) hx hb dX8_least_72 hl (k := 3) rfl (qn_inc _) (by decide) rfl (fun ls hl => ?_)
              refine lv_goto (tgt := 10) hx hb dX8_least_75 (by decide) ?_
              exact ih10 (i + 1) ((mleN (sf sv) (sg sv) (sc sv) (sv 1) (sv 2) (sv 4) (sv 6) i).1) ((mleN (sf sv) (sg sv) (sc sv) (sv 1) (sv 2) (sv 4) (sv 6) i).2) (by omega) (by rw [mleN, if_neg (fun h => c62 h.2.2)]) (by rw [mleN, if_neg (fun h => c62 h.2.2)]) (by omega) _ _ hP hD hS ls (lv_sub hl [2, 3, 0] rfl)
            · refine lv_iload_n hx hb dX8_least_65 rfl (lv_at hl 3 rfl) ?_
              refine lv_istore_n (lv' := [(1, .int (nI i)), (3, .int (nI (cst (sc sv) i (sv 1)))), (0, .ref (ad 0)), (2, .int (nI i))]) hx hb dX8_least_66 rfl hl (by decide) rfl (fun ls hl => ?_)
              refine lv_aload_n hx hb dX8_least_67 rfl (lv_at hl 2 rfl) ?_
              refine lv_iload_n hx hb dX8_least_68 rfl (lv_at hl 1 rfl) ?_
              refine va_put (D := G.1) (ci := 7) (v := .int (nI (cst (sc sv) i (sv 1)))) (ty := .int) (C := RX8) (T := TX8) (N := 17) hx hb hts inA8 tyX8 tyX8_ok nmX8 hown hX.1 hP hD hS 0 rfl rfl 16 (by decide) (hts _ kw_696) (fun _ h9 => h9) rfl (by decide +kernel) rfl rfl (Nat.le_of_ble_eq_true rfl) dX8_least_69 (fun H locs hP hD hS => ?_)
              have hP : va_P G.1 vwCl (mow G ad (va_up z 16 (cst (sc sv) i (sv 1))) fo sv d pa ke ik fa te aw) H := hP
              have hD : va_D A (mow G ad (va_up z 16 (cst (sc sv) i (sv 1))) fo sv d pa ke ik fa te aw) := hD
              refine lv_iinc (v := (nI (i + 1))) (lv' := [(2, .int (nI (i + 1))), (1, .int (nI i)), (3, .int (nI (cst (sc sv) i (sv 1)))), (0, .ref (ad 0))]) hx hb dX8_least_72 hl (k := 3) rfl (qn_inc _) (by decide) rfl (fun ls hl => ?_)
              refine lv_goto (tgt := 10) hx hb dX8_least_75 (by decide) ?_
              exact ih10 (i + 1) i (cst (sc sv) i (sv 1)) (by omega) (by rw [mleN, if_pos ⟨c37, c45, c62⟩]) (by rw [mleN, if_pos ⟨c37, c45, c62⟩]) (by omega) _ _ hP hD hS ls (lv_sub hl [3, 1, 0] rfl)
  exact lp10 _ 0 0 1000000 (Nat.lt_succ_self _) rfl rfl (Nat.zero_le _) _ _ hP hD hS ls (lv_sub hl [2, 1, 0] rfl)

theorem hdX8_busiest : hdOK yX8_busiest 0 := by decide +kernel
set_option maxHeartbeats 4000000 in
set_option maxRecDepth 100000 in
theorem mX8_busiest (l : Launch) (G : GG) (ad : Nat → Nat) (z : Nat → Nat) (fo : Option Nat) (sv : Nat → Nat) (d : Nat → Int32) (pa ke : Nat → Nat) (ik fa : Nat → Int32) (te aw : Nat → Nat) (hB : SB sv) : Mi l yX8_busiest cX8_busiest 3 (some .int) (rmN 3 67) G [.ref (ad 0)] (mow G ad z fo sv d pa ke ik fa te aw) (fun (r9 : Int32) (_ : Unit) => r9 = (oN (bstN (mldN (sf sv) (sg sv) (sv 1) (sv 2) (sv 4) (sv 5)) (sv 5) (sv 1)))) (fun (_ : Unit) => mow G ad z fo sv d pa ke ik fa te aw) := by
  refine Mi.of (cc := cX8_busiest) (nL := 3) (by decide) (Nat.le_of_ble_eq_true rfl) ?_
  intro p e s m below meth c A ls F hr hlocks hnm hX hA hD hP hS hl
  have F : CallFix p m c cX8_busiest 3 s [.ref (ad 0)].toArray wA RX8 := F
  obtain ⟨hx, hb, hml, hown, hts⟩ := id F
  have hl : lv_has ls 3 [(0, .ref (ad 0))] := hl
  obtain ⟨⟨b0, b1, b2, b3, b4, b5, b6, b7, b8⟩, g1, g2, g3, g4⟩ := id hB
  have gf : ∀ j, sf sv j < 10 := fun j => g1 (16 + j) (by omega)
  have gg : ∀ j, sg sv j < 10 := fun j => g1 (28 + j) (by omega)
  have gc : ∀ j, sc sv j ≤ 9 := fun j => by have := g1 (40 + j) (by omega); unfold sc; omega
  have gf7 : ∀ j, j < 12 → sf sv j < 7 := g2
  have gg7 : ∀ j, j < 12 → sg sv j < 7 := g3
  refine lv_bipush (v := (-9)) hx hb dX8_busiest_0 (by decide) ?_
  refine lv_istore_n (lv' := [(1, .int (-9)), (0, .ref (ad 0))]) hx hb dX8_busiest_2 rfl hl (by decide) rfl (fun ls hl => ?_)
  refine lv_iconst (v := (nI 0)) hx hb dX8_busiest_3 (by decide) ?_
  refine lv_istore_n (lv' := [(2, .int (nI 0)), (1, .int (-9)), (0, .ref (ad 0))]) hx hb dX8_busiest_4 rfl hl (by decide) rfl (fun ls hl => ?_)
  have lp5 : ∀ (n5 : Nat) (k : Nat) (o : Option Nat), (sv 1 - k) < n5 → o = bstN (mldN (sf sv) (sg sv) (sv 1) (sv 2) (sv 4) (sv 5)) (sv 5) k → (k ≤ sv 1) → ∀ (H : Heap) (locs : List Loc), va_P G.1 vwCl (mow G ad z fo sv d pa ke ik fa te aw) H → va_D A (mow G ad z fo sv d pa ke ik fa te aw) → va_S A s.heap H locs → ∀ (ls : Array Slot), lv_has ls 3 [(0, .ref (ad 0)), (1, .int (oN o)), (2, .int (nI k))] → WI p l e (rmN 3 67) s m [.ref (ad 0)] below meth c H locs G A (fun (r9 : Int32) (_ : Unit) => r9 = (oN (bstN (mldN (sf sv) (sg sv) (sv 1) (sv 2) (sv 4) (sv 5)) (sv 5) (sv 1)))) (fun (_ : Unit) => mow G ad z fo sv d pa ke ik fa te aw) (F0 m 5 ls []) := by
    intro n5
    induction n5 with
    | zero => intro k o h9; exact absurd h9 (Nat.not_lt_zero _)
    | succ n5 ih5 =>
      intro k o hm5 e_o hk H locs hP hD hS ls hl
      subst e_o
      refine lv_iload_n hx hb dX8_busiest_5 rfl (lv_at hl 2 rfl) ?_
      refine lv_aload_n hx hb dX8_busiest_6 rfl (lv_at hl 0 rfl) ?_
      refine va_get (D := G.1) (ci := 7) (v := .ref (ad 1)) (C := RX8) (T := TX8) (N := 17) hx hb hts inA8 hown hX.1 hP 0 rfl rfl 1 (by decide) (hts _ kw_681) (fun _ h9 => h9) rfl dX8_busiest_7 ?_
      refine lv_iconst (v := (nI 1)) hx hb dX8_busiest_10 (by decide) ?_
      refine nv_ald (f := sv) (k := 1) hx hb hX hP 1 rfl (by omega) (by decide) dX8_busiest_11 ?_
      refine nv_ge (x := k) (y := sv 1) (tgt := 59) hx hb dX8_busiest_12 (by decide) (by omega) (by omega) (fun c12 => ?_) (fun c12 => ?_)
      · refine lv_iload_n hx hb dX8_busiest_59 rfl (lv_at hl 1 rfl) ?_
        exact re_i (v := (oN (bstN (mldN (sf sv) (sg sv) (sv 1) (sv 2) (sv 4) (sv 5)) (sv 5) k))) hx hb hr hlocks hS () hP hD (by have e9 : k = sv 1 := (by omega); rw [e9]) dX8_busiest_60
      · refine lv_aload_n hx hb dX8_busiest_15 rfl (lv_at hl 0 rfl) ?_
        refine va_get (D := G.1) (ci := 7) (v := .ref (ad 1)) (C := RX8) (T := TX8) (N := 17) hx hb hts inA8 hown hX.1 hP 0 rfl rfl 1 (by decide) (hts _ kw_681) (fun _ h9 => h9) rfl dX8_busiest_16 ?_
        refine lv_iconst (v := (nI 5)) hx hb dX8_busiest_19 (by decide) ?_
        refine nv_ald (f := sv) (k := 5) hx hb hX hP 1 rfl (by omega) (by decide) dX8_busiest_20 ?_
        refine lv_iload_n hx hb dX8_busiest_21 rfl (lv_at hl 2 rfl) ?_
        refine ca_Si (rest := []) (wr := mow G ad z fo sv d pa ke ik fa te aw) F hX (mX8_has l G (sv 5) k (by omega) (by omega)) (cA_S hts kw_801 kw_8 kw_799 kw_800 hdX8_has ⟨Nat.le_of_ble_eq_true rfl, Nat.le_of_ble_eq_true rfl⟩) rfl hl.1 rfl (Nat.le_of_ble_eq_true rfl) dX8_busiest_22 ⟨Nat.le_of_ble_eq_true rfl, Nat.le_of_ble_eq_true rfl⟩ hP hD hS hA (List.Perm.refl _) (fun r22 u22 H locs hp22 hP hD hS => ?_)
        have hP : va_P G.1 vwCl (mow G ad z fo sv d pa ke ik fa te aw) H := hP
        have hD : va_D A (mow G ad z fo sv d pa ke ik fa te aw) := hD
        subst hp22
        refine bv_eq (b := (sv 5).testBit k) (tgt := 51) hx hb dX8_busiest_25 (by decide) (fun c25 => ?_) (fun c25 => ?_)
        · refine lv_iload_n hx hb dX8_busiest_51 rfl (lv_at hl 1 rfl) ?_
          refine lv_istore_n (lv' := [(1, .int (oN (bstN (mldN (sf sv) (sg sv) (sv 1) (sv 2) (sv 4) (sv 5)) (sv 5) k))), (0, .ref (ad 0)), (2, .int (nI k))]) hx hb dX8_busiest_52 rfl hl (by decide) rfl (fun ls hl => ?_)
          refine lv_iinc (v := (nI (k + 1))) (lv' := [(2, .int (nI (k + 1))), (1, .int (oN (bstN (mldN (sf sv) (sg sv) (sv 1) (sv 2) (sv 4) (sv 5)) (sv 5) k))), (0, .ref (ad 0))]) hx hb dX8_busiest_53 hl (k := 2) rfl (qn_inc _) (by decide) rfl (fun ls hl => ?_)
          refine lv_goto (tgt := 5) hx hb dX8_busiest_56 (by decide) ?_
          exact ih5 (k + 1) (bstN (mldN (sf sv) (sg sv) (sv 1) (sv 2) (sv 4) (sv 5)) (sv 5) k) (by omega) (by rw [bstN_no c25]) (by omega) _ _ hP hD hS ls (lv_sub hl [2, 1, 0] rfl)
        · refine lv_iload_n hx hb dX8_busiest_28 rfl (lv_at hl 1 rfl) ?_
          rcases hu : (bstN (mldN (sf sv) (sg sv) (sv 1) (sv 2) (sv 4) (sv 5)) (sv 5) k) with _ | u
          · have hl : lv_has ls 3 [(0, .ref (ad 0)), (1, .int (-9)), (2, .int (nI k))] := by rw [hu] at hl; exact hl
            refine lv_bipush (v := (-9)) hx hb dX8_busiest_29 (by decide) ?_
            refine lv_icmp_eq (x := (-9)) (y := (-9)) (tgt := 47) hx hb dX8_busiest_31 (by decide) (fun _ => ?_) (fun h9 => absurd rfl h9)
            refine lv_iload_n hx hb dX8_busiest_47 rfl (lv_at hl 2 rfl) ?_
            refine lv_goto (tgt := 52) hx hb dX8_busiest_48 (by decide) ?_
            refine lv_istore_n (lv' := [(1, .int (nI k)), (0, .ref (ad 0)), (2, .int (nI k))]) hx hb dX8_busiest_52 rfl hl (by decide) rfl (fun ls hl => ?_)
            refine lv_iinc (v := (nI (k + 1))) (lv' := [(2, .int (nI (k + 1))), (1, .int (nI k)), (0, .ref (ad 0))]) hx hb dX8_busiest_53 hl (k := 2) rfl (qn_inc _) (by decide) rfl (fun ls hl => ?_)
            refine lv_goto (tgt := 5) hx hb dX8_busiest_56 (by decide) ?_
            exact ih5 (k + 1) (some k) (by omega) (by rw [bstN_first hu c25]) (by omega) _ _ hP hD hS ls (lv_sub hl [2, 1, 0] rfl)
          · have hl : lv_has ls 3 [(0, .ref (ad 0)), (1, .int (nI u)), (2, .int (nI k))] := by rw [hu] at hl; exact hl
            have hu7 := bstN_lt hu
            refine lv_bipush (v := (-9)) hx hb dX8_busiest_29 (by decide) ?_
            refine lv_icmp_eq (x := (nI u)) (y := (-9)) (tgt := 47) hx hb dX8_busiest_31 (by decide) (fun h9 => absurd h9 (nI_n9 (by omega))) (fun _ => ?_)
            refine lv_aload_n hx hb dX8_busiest_34 rfl (lv_at hl 0 rfl) ?_
            refine lv_iload_n hx hb dX8_busiest_35 rfl (lv_at hl 2 rfl) ?_
            refine ca_Vi (ci := 7) (q := (RX8, TX8, 17)) (rest := []) (wr := ([] : va_W)) F hX (mX8_load l G ad z fo sv d pa ke ik fa te aw k hB (by omega)) (cA_V hts kw_885 kw_8 kw_882 kw_884 kp_43 hdX8_load ⟨Nat.le_of_ble_eq_true rfl, Nat.le_of_ble_eq_true rfl⟩) rfl rfl rfl hl.1 rfl (Nat.le_of_ble_eq_true rfl) dX8_busiest_36 ⟨Nat.le_of_ble_eq_true rfl, Nat.le_of_ble_eq_true rfl⟩ hP hD hS hA (pm_nil _) (fun r36 u36 H locs hp36 hP hD hS => ?_)
            have hP : va_P G.1 vwCl (mow G ad z fo sv d pa ke ik fa te aw) H := wp_pm (pm_nil _).symm hP
            have hD : va_D A (mow G ad z fo sv d pa ke ik fa te aw) := wd_pm (pm_nil _).symm hD
            subst hp36
            refine lv_aload_n hx hb dX8_busiest_39 rfl (lv_at hl 0 rfl) ?_
            refine lv_iload_n hx hb dX8_busiest_40 rfl (lv_at hl 1 rfl) ?_
            refine ca_Vi (ci := 7) (q := (RX8, TX8, 17)) (rest := [.int (nI (mldN (sf sv) (sg sv) (sv 1) (sv 2) (sv 4) (sv 5) k))]) (wr := ([] : va_W)) F hX (mX8_load l G ad z fo sv d pa ke ik fa te aw u hB (by omega)) (cA_V hts kw_885 kw_8 kw_882 kw_884 kp_43 hdX8_load ⟨Nat.le_of_ble_eq_true rfl, Nat.le_of_ble_eq_true rfl⟩) rfl rfl rfl hl.1 rfl (Nat.le_of_ble_eq_true rfl) dX8_busiest_41 ⟨Nat.le_of_ble_eq_true rfl, Nat.le_of_ble_eq_true rfl⟩ hP hD hS hA (pm_nil _) (fun r41 u41 H locs hp41 hP hD hS => ?_)
            have hP : va_P G.1 vwCl (mow G ad z fo sv d pa ke ik fa te aw) H := wp_pm (pm_nil _).symm hP
            have hD : va_D A (mow G ad z fo sv d pa ke ik fa te aw) := wd_pm (pm_nil _).symm hD
            subst hp41
            refine nv_le (x := mldN (sf sv) (sg sv) (sv 1) (sv 2) (sv 4) (sv 5) k) (y := mldN (sf sv) (sg sv) (sv 1) (sv 2) (sv 4) (sv 5) u) (tgt := 51) hx hb dX8_busiest_44 (by decide) (by have := mldN_le (sf sv) (sg sv) (sv 1) (sv 2) (sv 4) (sv 5) k; omega) (by have := mldN_le (sf sv) (sg sv) (sv 1) (sv 2) (sv 4) (sv 5) u; omega) (fun c44 => ?_) (fun c44 => ?_)
            · refine lv_iload_n hx hb dX8_busiest_51 rfl (lv_at hl 1 rfl) ?_
              refine lv_istore_n (lv' := [(1, .int (nI u)), (0, .ref (ad 0)), (2, .int (nI k))]) hx hb dX8_busiest_52 rfl hl (by decide) rfl (fun ls hl => ?_)
              refine lv_iinc (v := (nI (k + 1))) (lv' := [(2, .int (nI (k + 1))), (1, .int (nI u)), (0, .ref (ad 0))]) hx hb dX8_busiest_53 hl (k := 2) rfl (qn_inc _) (by decide) rfl (fun ls hl => ?_)
              refine lv_goto (tgt := 5) hx hb dX8_busiest_56 (by decide) ?_
              exact ih5 (k + 1) (some u) (by omega) (by rw [bstN_keep hu c44]) (by omega) _ _ hP hD hS ls (lv_sub hl [2, 1, 0] rfl)
            · refine lv_iload_n hx hb dX8_busiest_47 rfl (lv_at hl 2 rfl) ?_
              refine lv_goto (tgt := 52) hx hb dX8_busiest_48 (by decide) ?_
              refine lv_istore_n (lv' := [(1, .int (nI k)), (0, .ref (ad 0)), (2, .int (nI k))]) hx hb dX8_busiest_52 rfl hl (by decide) rfl (fun ls hl => ?_)
              refine lv_iinc (v := (nI (k + 1))) (lv' := [(2, .int (nI (k + 1))), (1, .int (nI k)), (0, .ref (ad 0))]) hx hb dX8_busiest_53 hl (k := 2) rfl (qn_inc _) (by decide) rfl (fun ls hl => ?_)
              refine lv_goto (tgt := 5) hx hb dX8_busiest_56 (by decide) ?_
              exact ih5 (k + 1) (some k) (by omega) (by rw [bstN_more hu c25 c44]) (by omega) _ _ hP hD hS ls (lv_sub hl [2, 1, 0] rfl)
  exact lp5 _ 0 none (Nat.lt_succ_self _) rfl (Nat.zero_le _) _ _ hP hD hS ls (lv_sub hl [2, 1, 0] rfl)

theorem hdX8_needed : hdOK yX8_needed 0 := by decide +kernel
set_option maxHeartbeats 4000000 in
set_option maxRecDepth 100000 in
theorem mX8_needed (l : Launch) (G : GG) (ad : Nat → Nat) (z : Nat → Nat) (fo : Option Nat) (sv : Nat → Nat) (d : Nat → Int32) (pa ke : Nat → Nat) (ik fa : Nat → Int32) (te aw : Nat → Nat) (hB : SB sv) : Mi l yX8_needed cX8_needed 4 (some .int) (rmN 2 46) G [.ref (ad 0)] (mow G ad z fo sv d pa ke ik fa te aw) (fun (r9 : Int32) (_ : Unit) => r9 = (nI (mneN (sf sv) (sg sv) (sv 1) (sv 2) (sv 4) (sv 5) (nd (2 ^ sv 1 - 1) (sv 6)) (sv 1)))) (fun (_ : Unit) => mow G ad z fo sv d pa ke ik fa te aw) := by
  refine Mi.of (cc := cX8_needed) (nL := 4) (by decide) (Nat.le_of_ble_eq_true rfl) ?_
  intro p e s m below meth c A ls F hr hlocks hnm hX hA hD hP hS hl
  have F : CallFix p m c cX8_needed 4 s [.ref (ad 0)].toArray wA RX8 := F
  obtain ⟨hx, hb, hml, hown, hts⟩ := id F
  have hl : lv_has ls 4 [(0, .ref (ad 0))] := hl
  obtain ⟨⟨b0, b1, b2, b3, b4, b5, b6, b7, b8⟩, g1, g2, g3, g4⟩ := id hB
  have gf : ∀ j, sf sv j < 10 := fun j => g1 (16 + j) (by omega)
  have gg : ∀ j, sg sv j < 10 := fun j => g1 (28 + j) (by omega)
  have gc : ∀ j, sc sv j ≤ 9 := fun j => by have := g1 (40 + j) (by omega); unfold sc; omega
  have gf7 : ∀ j, j < 12 → sf sv j < 7 := g2
  have gg7 : ∀ j, j < 12 → sg sv j < 7 := g3
  have hp := pw12 b4
  have hp1 := Nat.one_le_two_pow (n := sv 1)
  have hup := nd_le (2 ^ sv 1 - 1) (sv 6)
  refine lv_iconst (v := (nI 1)) hx hb dX8_needed_0 (by decide) ?_
  refine lv_aload_n hx hb dX8_needed_1 rfl (lv_at hl 0 rfl) ?_
  refine va_get (D := G.1) (ci := 7) (v := .ref (ad 1)) (C := RX8) (T := TX8) (N := 17) hx hb hts inA8 hown hX.1 hP 0 rfl rfl 1 (by decide) (hts _ kw_681) (fun _ h9 => h9) rfl dX8_needed_2 ?_
  refine lv_iconst (v := (nI 1)) hx hb dX8_needed_5 (by decide) ?_
  refine nv_ald (f := sv) (k := 1) hx hb hX hP 1 rfl (by omega) (by decide) dX8_needed_6 ?_
  refine lv_ishl hx hb dX8_needed_7 (ti (y := (nI (2 ^ (sv 1)))) (qn_sh1 (by omega)) ?_)
  refine lv_iconst (v := (nI 1)) hx hb dX8_needed_8 (by decide) ?_
  refine lv_isub hx hb dX8_needed_9 (ti (y := (nI ((2 ^ (sv 1)) - 1))) (pk_sub (by omega)) ?_)
  refine lv_aload_n hx hb dX8_needed_10 rfl (lv_at hl 0 rfl) ?_
  refine va_get (D := G.1) (ci := 7) (v := .ref (ad 1)) (C := RX8) (T := TX8) (N := 17) hx hb hts inA8 hown hX.1 hP 0 rfl rfl 1 (by decide) (hts _ kw_681) (fun _ h9 => h9) rfl dX8_needed_11 ?_
  refine lv_bipush (v := (nI 6)) hx hb dX8_needed_14 (by decide) ?_
  refine nv_ald (f := sv) (k := 6) hx hb hX hP 1 rfl (by omega) (by decide) dX8_needed_16 ?_
  refine lv_iconst (v := (-1)) hx hb dX8_needed_17 (by decide) ?_
  refine lv_ixor hx hb dX8_needed_18 ?_
  refine lv_iand hx hb dX8_needed_19 (ti (y := (nI (nd ((2 ^ (sv 1)) - 1) (sv 6)))) (qn_andn _ _) ?_)
  refine lv_istore_n (lv' := [(1, .int (nI (nd ((2 ^ (sv 1)) - 1) (sv 6)))), (0, .ref (ad 0))]) hx hb dX8_needed_20 rfl hl (by decide) rfl (fun ls hl => ?_)
  refine lv_iconst (v := (nI 0)) hx hb dX8_needed_21 (by decide) ?_
  refine lv_istore_n (lv' := [(2, .int (nI 0)), (1, .int (nI (nd ((2 ^ (sv 1)) - 1) (sv 6)))), (0, .ref (ad 0))]) hx hb dX8_needed_22 rfl hl (by decide) rfl (fun ls hl => ?_)
  refine lv_iconst (v := (nI 0)) hx hb dX8_needed_23 (by decide) ?_
  refine lv_istore_n (lv' := [(3, .int (nI 0)), (2, .int (nI 0)), (1, .int (nI (nd ((2 ^ (sv 1)) - 1) (sv 6)))), (0, .ref (ad 0))]) hx hb dX8_needed_24 rfl hl (by decide) rfl (fun ls hl => ?_)
  have lp25 : ∀ (n25 : Nat) (k : Nat) (x : Nat), (sv 1 - k) < n25 → x = mneN (sf sv) (sg sv) (sv 1) (sv 2) (sv 4) (sv 5) (nd (2 ^ sv 1 - 1) (sv 6)) k → (k ≤ sv 1) → ∀ (H : Heap) (locs : List Loc), va_P G.1 vwCl (mow G ad z fo sv d pa ke ik fa te aw) H → va_D A (mow G ad z fo sv d pa ke ik fa te aw) → va_S A s.heap H locs → ∀ (ls : Array Slot), lv_has ls 4 [(0, .ref (ad 0)), (1, .int (nI (nd (2 ^ sv 1 - 1) (sv 6)))), (2, .int (nI x)), (3, .int (nI k))] → WI p l e (rmN 2 46) s m [.ref (ad 0)] below meth c H locs G A (fun (r9 : Int32) (_ : Unit) => r9 = (nI (mneN (sf sv) (sg sv) (sv 1) (sv 2) (sv 4) (sv 5) (nd (2 ^ sv 1 - 1) (sv 6)) (sv 1)))) (fun (_ : Unit) => mow G ad z fo sv d pa ke ik fa te aw) (F0 m 25 ls []) := by
    intro n25
    induction n25 with
    | zero => intro k x h9; exact absurd h9 (Nat.not_lt_zero _)
    | succ n25 ih25 =>
      intro k x hm25 e_x hk H locs hP hD hS ls hl
      subst e_x
      refine lv_iload_n hx hb dX8_needed_25 rfl (lv_at hl 3 rfl) ?_
      refine lv_aload_n hx hb dX8_needed_26 rfl (lv_at hl 0 rfl) ?_
      refine va_get (D := G.1) (ci := 7) (v := .ref (ad 1)) (C := RX8) (T := TX8) (N := 17) hx hb hts inA8 hown hX.1 hP 0 rfl rfl 1 (by decide) (hts _ kw_681) (fun _ h9 => h9) rfl dX8_needed_27 ?_
      refine lv_iconst (v := (nI 1)) hx hb dX8_needed_30 (by decide) ?_
      refine nv_ald (f := sv) (k := 1) hx hb hX hP 1 rfl (by omega) (by decide) dX8_needed_31 ?_
      refine nv_ge (x := k) (y := sv 1) (tgt := 87) hx hb dX8_needed_32 (by decide) (by omega) (by omega) (fun c32 => ?_) (fun c32 => ?_)
      · refine lv_iload_n hx hb dX8_needed_87 rfl (lv_at hl 2 rfl) ?_
        exact re_i (v := (nI (mneN (sf sv) (sg sv) (sv 1) (sv 2) (sv 4) (sv 5) (nd (2 ^ sv 1 - 1) (sv 6)) k))) hx hb hr hlocks hS () hP hD (by have e9 : k = sv 1 := (by omega); rw [e9]) dX8_needed_88
      · refine lv_iload_n hx hb dX8_needed_35 rfl (lv_at hl 2 rfl) ?_
        refine lv_aload_n hx hb dX8_needed_36 rfl (lv_at hl 0 rfl) ?_
        refine va_get (D := G.1) (ci := 7) (v := .ref (ad 1)) (C := RX8) (T := TX8) (N := 17) hx hb hts inA8 hown hX.1 hP 0 rfl rfl 1 (by decide) (hts _ kw_681) (fun _ h9 => h9) rfl dX8_needed_37 ?_
        refine lv_iconst (v := (nI 5)) hx hb dX8_needed_40 (by decide) ?_
        refine nv_ald (f := sv) (k := 5) hx hb hX hP 1 rfl (by omega) (by decide) dX8_needed_41 ?_
        refine lv_iload_n hx hb dX8_needed_42 rfl (lv_at hl 3 rfl) ?_
        refine ca_Si (rest := [.int (nI (mneN (sf sv) (sg sv) (sv 1) (sv 2) (sv 4) (sv 5) (nd (2 ^ sv 1 - 1) (sv 6)) k))]) (wr := mow G ad z fo sv d pa ke ik fa te aw) F hX (mX8_has l G (sv 5) k (by omega) (by omega)) (cA_S hts kw_801 kw_8 kw_799 kw_800 hdX8_has ⟨Nat.le_of_ble_eq_true rfl, Nat.le_of_ble_eq_true rfl⟩) rfl hl.1 rfl (Nat.le_of_ble_eq_true rfl) dX8_needed_43 ⟨Nat.le_of_ble_eq_true rfl, Nat.le_of_ble_eq_true rfl⟩ hP hD hS hA (List.Perm.refl _) (fun r43 u43 H locs hp43 hP hD hS => ?_)
        have hP : va_P G.1 vwCl (mow G ad z fo sv d pa ke ik fa te aw) H := hP
        have hD : va_D A (mow G ad z fo sv d pa ke ik fa te aw) := hD
        subst hp43
        refine bv_eq (b := (sv 5).testBit k) (tgt := 78) hx hb dX8_needed_46 (by decide) (fun c46 => ?_) (fun c46 => ?_)
        · refine lv_iconst (v := (nI 0)) hx hb dX8_needed_78 (by decide) ?_
          refine lv_ior hx hb dX8_needed_79 (ti (y := (nI ((mneN (sf sv) (sg sv) (sv 1) (sv 2) (sv 4) (sv 5) (nd (2 ^ sv 1 - 1) (sv 6)) k) ||| 0))) (qn_or _ _) ?_)
          refine lv_istore_n (lv' := [(2, .int (nI ((mneN (sf sv) (sg sv) (sv 1) (sv 2) (sv 4) (sv 5) (nd (2 ^ sv 1 - 1) (sv 6)) k) ||| 0))), (0, .ref (ad 0)), (1, .int (nI (nd (2 ^ sv 1 - 1) (sv 6)))), (3, .int (nI k))]) hx hb dX8_needed_80 rfl hl (by decide) rfl (fun ls hl => ?_)
          refine lv_iinc (v := (nI (k + 1))) (lv' := [(3, .int (nI (k + 1))), (2, .int (nI ((mneN (sf sv) (sg sv) (sv 1) (sv 2) (sv 4) (sv 5) (nd (2 ^ sv 1 - 1) (sv 6)) k) ||| 0))), (0, .ref (ad 0)), (1, .int (nI (nd (2 ^ sv 1 - 1) (sv 6))))]) hx hb dX8_needed_81 hl (k := 3) rfl (qn_inc _) (by decide) rfl (fun ls hl => ?_)
          refine lv_goto (tgt := 25) hx hb dX8_needed_84 (by decide) ?_
          exact ih25 (k + 1) ((mneN (sf sv) (sg sv) (sv 1) (sv 2) (sv 4) (sv 5) (nd (2 ^ sv 1 - 1) (sv 6)) k) ||| 0) (by omega) (by rw [Nat.or_zero, mneN, if_neg (fun h => absurd (c46.symm.trans h.1) (by decide))]) (by omega) _ _ hP hD hS ls (lv_sub hl [2, 3, 1, 0] rfl)
        · refine lv_aload_n hx hb dX8_needed_49 rfl (lv_at hl 0 rfl) ?_
          refine va_get (D := G.1) (ci := 7) (v := .ref (ad 1)) (C := RX8) (T := TX8) (N := 17) hx hb hts inA8 hown hX.1 hP 0 rfl rfl 1 (by decide) (hts _ kw_681) (fun _ h9 => h9) rfl dX8_needed_50 ?_
          refine lv_iconst (v := (nI 4)) hx hb dX8_needed_53 (by decide) ?_
          refine nv_ald (f := sv) (k := 4) hx hb hX hP 1 rfl (by omega) (by decide) dX8_needed_54 ?_
          refine lv_aload_n hx hb dX8_needed_55 rfl (lv_at hl 0 rfl) ?_
          refine lv_iload_n hx hb dX8_needed_56 rfl (lv_at hl 1 rfl) ?_
          refine lv_iconst (v := (nI 1)) hx hb dX8_needed_57 (by decide) ?_
          refine lv_iload_n hx hb dX8_needed_58 rfl (lv_at hl 3 rfl) ?_
          refine lv_ishl hx hb dX8_needed_59 (ti (y := (nI (2 ^ k))) (qn_sh1 (by omega)) ?_)
          refine lv_iconst (v := (-1)) hx hb dX8_needed_60 (by decide) ?_
          refine lv_ixor hx hb dX8_needed_61 ?_
          refine lv_iand hx hb dX8_needed_62 (ti (y := (nI (nd (nd (2 ^ sv 1 - 1) (sv 6)) (2 ^ k)))) (qn_andn _ _) ?_)
          refine ca_Vi (ci := 7) (q := (RX8, TX8, 17)) (rest := [.int (nI (sv 4)), .int (nI (mneN (sf sv) (sg sv) (sv 1) (sv 2) (sv 4) (sv 5) (nd (2 ^ sv 1 - 1) (sv 6)) k))]) (wr := ([] : va_W)) F hX (mX8_nodesOf l G ad z fo sv d pa ke ik fa te aw (nd (nd (2 ^ sv 1 - 1) (sv 6)) (2 ^ k)) hB (by have := nd_le (nd (2 ^ sv 1 - 1) (sv 6)) (2 ^ k); omega)) (cA_V hts kw_798 kw_8 kw_795 kw_797 kp_30 hdX8_nodesOf ⟨Nat.le_of_ble_eq_true rfl, Nat.le_of_ble_eq_true rfl⟩) rfl rfl rfl hl.1 rfl (Nat.le_of_ble_eq_true rfl) dX8_needed_63 ⟨Nat.le_of_ble_eq_true rfl, Nat.le_of_ble_eq_true rfl⟩ hP hD hS hA (pm_nil _) (fun r63 u63 H locs hp63 hP hD hS => ?_)
          have hP : va_P G.1 vwCl (mow G ad z fo sv d pa ke ik fa te aw) H := wp_pm (pm_nil _).symm hP
          have hD : va_D A (mow G ad z fo sv d pa ke ik fa te aw) := wd_pm (pm_nil _).symm hD
          subst hp63
          refine lv_iconst (v := (-1)) hx hb dX8_needed_66 (by decide) ?_
          refine lv_ixor hx hb dX8_needed_67 ?_
          refine lv_iand hx hb dX8_needed_68 (ti (y := (nI (nd (sv 4) (clo (sf sv) (sg sv) (nd (nd (2 ^ sv 1 - 1) (sv 6)) (2 ^ k)) (sv 1) (sv 2))))) (qn_andn _ _) ?_)
          refine nv_zeq (x := nd (sv 4) (clo (sf sv) (sg sv) (nd (nd (2 ^ sv 1 - 1) (sv 6)) (2 ^ k)) (sv 1) (sv 2))) (tgt := 78) hx hb dX8_needed_69 (by decide) (by have := nd_le (sv 4) (clo (sf sv) (sg sv) (nd (nd (2 ^ sv 1 - 1) (sv 6)) (2 ^ k)) (sv 1) (sv 2)); omega) (fun c69 => ?_) (fun c69 => ?_)
          · refine lv_iconst (v := (nI 0)) hx hb dX8_needed_78 (by decide) ?_
            refine lv_ior hx hb dX8_needed_79 (ti (y := (nI ((mneN (sf sv) (sg sv) (sv 1) (sv 2) (sv 4) (sv 5) (nd (2 ^ sv 1 - 1) (sv 6)) k) ||| 0))) (qn_or _ _) ?_)
            refine lv_istore_n (lv' := [(2, .int (nI ((mneN (sf sv) (sg sv) (sv 1) (sv 2) (sv 4) (sv 5) (nd (2 ^ sv 1 - 1) (sv 6)) k) ||| 0))), (0, .ref (ad 0)), (1, .int (nI (nd (2 ^ sv 1 - 1) (sv 6)))), (3, .int (nI k))]) hx hb dX8_needed_80 rfl hl (by decide) rfl (fun ls hl => ?_)
            refine lv_iinc (v := (nI (k + 1))) (lv' := [(3, .int (nI (k + 1))), (2, .int (nI ((mneN (sf sv) (sg sv) (sv 1) (sv 2) (sv 4) (sv 5) (nd (2 ^ sv 1 - 1) (sv 6)) k) ||| 0))), (0, .ref (ad 0)), (1, .int (nI (nd (2 ^ sv 1 - 1) (sv 6))))]) hx hb dX8_needed_81 hl (k := 3) rfl (qn_inc _) (by decide) rfl (fun ls hl => ?_)
            refine lv_goto (tgt := 25) hx hb dX8_needed_84 (by decide) ?_
            exact ih25 (k + 1) ((mneN (sf sv) (sg sv) (sv 1) (sv 2) (sv 4) (sv 5) (nd (2 ^ sv 1 - 1) (sv 6)) k) ||| 0) (by omega) (by rw [Nat.or_zero, mneN, if_neg (fun h => h.2 c69)]) (by omega) _ _ hP hD hS ls (lv_sub hl [2, 3, 1, 0] rfl)
          · refine lv_iconst (v := (nI 1)) hx hb dX8_needed_72 (by decide) ?_
            refine lv_iload_n hx hb dX8_needed_73 rfl (lv_at hl 3 rfl) ?_
            refine lv_ishl hx hb dX8_needed_74 (ti (y := (nI (2 ^ k))) (qn_sh1 (by omega)) ?_)
            refine lv_goto (tgt := 79) hx hb dX8_needed_75 (by decide) ?_
            refine lv_ior hx hb dX8_needed_79 (ti (y := (nI ((mneN (sf sv) (sg sv) (sv 1) (sv 2) (sv 4) (sv 5) (nd (2 ^ sv 1 - 1) (sv 6)) k) ||| (2 ^ k)))) (qn_or _ _) ?_)
            refine lv_istore_n (lv' := [(2, .int (nI ((mneN (sf sv) (sg sv) (sv 1) (sv 2) (sv 4) (sv 5) (nd (2 ^ sv 1 - 1) (sv 6)) k) ||| (2 ^ k)))), (0, .ref (ad 0)), (1, .int (nI (nd (2 ^ sv 1 - 1) (sv 6)))), (3, .int (nI k))]) hx hb dX8_needed_80 rfl hl (by decide) rfl (fun ls hl => ?_)
            refine lv_iinc (v := (nI (k + 1))) (lv' := [(3, .int (nI (k + 1))), (2, .int (nI ((mneN (sf sv) (sg sv) (sv 1) (sv 2) (sv 4) (sv 5) (nd (2 ^ sv 1 - 1) (sv 6)) k) ||| (2 ^ k)))), (0, .ref (ad 0)), (1, .int (nI (nd (2 ^ sv 1 - 1) (sv 6))))]) hx hb dX8_needed_81 hl (k := 3) rfl (qn_inc _) (by decide) rfl (fun ls hl => ?_)
            refine lv_goto (tgt := 25) hx hb dX8_needed_84 (by decide) ?_
            exact ih25 (k + 1) ((mneN (sf sv) (sg sv) (sv 1) (sv 2) (sv 4) (sv 5) (nd (2 ^ sv 1 - 1) (sv 6)) k) ||| (2 ^ k)) (by omega) (by rw [mneN, if_pos ⟨c46, c69⟩]) (by omega) _ _ hP hD hS ls (lv_sub hl [2, 3, 1, 0] rfl)
  exact lp25 _ 0 0 (Nat.lt_succ_self _) rfl (Nat.zero_le _) _ _ hP hD hS ls (lv_sub hl [3, 2, 1, 0] rfl)

