theorem hdX8_link : hdOK yX8_link 2 := by decide +kernel
set_option maxHeartbeats 4000000 in
set_option maxRecDepth 100000 in
theorem mX8_link_bad (l : Launch) (G : GG) (ad : Nat → Nat) (z : Nat → Nat) (fo : Option Nat) (sv : Nat → Nat) (d : Nat → Int32) (pa ke : Nat → Nat) (ik fa : Nat → Int32) (te aw : Nat → Nat) (x y : Int32) (hB : SB sv) (hk : ¬ (0 ≤ x.toInt ∧ x.toInt < sv 1)) : Mi l yX8_link cX8_link 3 (some .int) (rmN 2 43) G [.ref (ad 0), .int x, .int y] (mow G ad z fo sv d pa ke ik fa te aw) (fun (r9 : Int32) (_ : Unit) => r9 = (-1)) (fun (_ : Unit) => mow G ad z fo sv d pa ke ik fa te aw) := by
  refine Mi.of (cc := cX8_link) (nL := 3) (by decide) (Nat.le_of_ble_eq_true rfl) ?_
  intro p e s m below meth c A ls F hr hlocks hnm hX hA hD hP hS hl
  have F : CallFix p m c cX8_link 3 s [.ref (ad 0), .int x, .int y].toArray wA RX8 := F
  obtain ⟨hx, hb, hml, hown, hts⟩ := id F
  have hl : lv_has ls 3 [(0, .ref (ad 0)), (1, .int x), (2, .int y)] := hl
  obtain ⟨⟨b0, b1, b2, b3, b4, b5, b6, b7, b8⟩, g1, g2, g3, g4⟩ := id hB
  have gf : ∀ j, sf sv j < 10 := fun j => g1 (16 + j) (by omega)
  have gg : ∀ j, sg sv j < 10 := fun j => g1 (28 + j) (by omega)
  have gc : ∀ j, sc sv j ≤ 9 := fun j => by have := g1 (40 + j) (by omega); unfold sc; omega
  have gf7 : ∀ j, j < 12 → sf sv j < 7 := g2
  have gg7 : ∀ j, j < 12 → sg sv j < 7 := g3
  refine lv_aload_n hx hb dX8_link_0 rfl (lv_at hl 0 rfl) ?_
  refine lv_iconst (v := (nI 0)) hx hb dX8_link_1 (by decide) ?_
  refine va_put (D := G.1) (ci := 7) (v := .int (nI 0)) (ty := .int) (C := RX8) (T := TX8) (N := 17) hx hb hts inA8 tyX8 tyX8_ok nmX8 hown hX.1 hP hD hS 0 rfl rfl 0 (by decide) (hts _ kw_680) (fun _ h9 => h9) rfl (by decide +kernel) rfl rfl (Nat.le_of_ble_eq_true rfl) dX8_link_2 (fun H locs hP hD hS => ?_)
  have hP : va_P G.1 vwCl (mow G ad z fo sv d pa ke ik fa te aw) H := hP
  have hD : va_D A (mow G ad z fo sv d pa ke ik fa te aw) := hD
  refine lv_aload_n hx hb dX8_link_5 rfl (lv_at hl 0 rfl) ?_
  refine lv_iload_n hx hb dX8_link_6 rfl (lv_at hl 1 rfl) ?_
  refine ca_Vi (ci := 7) (q := (RX8, TX8, 17)) (rest := []) (wr := ([] : va_W)) F hX (mX8_isLink l G ad z fo sv d pa ke ik fa te aw x hB) (cA_V hts kw_858 kw_8 kw_855 kw_857 kp_41 hdX8_isLink ⟨Nat.le_of_ble_eq_true rfl, Nat.le_of_ble_eq_true rfl⟩) rfl rfl rfl hl.1 rfl (Nat.le_of_ble_eq_true rfl) dX8_link_7 ⟨Nat.le_of_ble_eq_true rfl, Nat.le_of_ble_eq_true rfl⟩ hP hD hS hA (pm_nil _) (fun r7 u7 H locs hp7 hP hD hS => ?_)
  have hP : va_P G.1 vwCl (mow G ad z fo sv d pa ke ik fa te aw) H := wp_pm (pm_nil _).symm hP
  have hD : va_D A (mow G ad z fo sv d pa ke ik fa te aw) := wd_pm (pm_nil _).symm hD
  subst hp7
  refine bv_eq (b := decide (0 ≤ (x).toInt ∧ (x).toInt < sv 1)) (tgt := 22) hx hb dX8_link_10 (by decide) (fun c10 => ?_) (fun c10 => ?_)
  · refine lv_iconst (v := (-1)) hx hb dX8_link_22 (by decide) ?_
    exact re_i (v := (-1)) hx hb hr hlocks hS () hP hD rfl dX8_link_23
  · exact absurd (of_decide_eq_true c10) hk

set_option maxHeartbeats 4000000 in
set_option maxRecDepth 100000 in
theorem mX8_link_badw (l : Launch) (G : GG) (ad : Nat → Nat) (z : Nat → Nat) (fo : Option Nat) (sv : Nat → Nat) (d : Nat → Int32) (pa ke : Nat → Nat) (ik fa : Nat → Int32) (te aw : Nat → Nat) (k : Nat) (y : Int32) (hB : SB sv) (hk : k < sv 1) (hy : ¬ (0 ≤ y.toInt ∧ y.toInt ≤ 5)) : Mi l yX8_link cX8_link 3 (some .int) (rmN 2 43) G [.ref (ad 0), .int (nI k), .int y] (mow G ad z fo sv d pa ke ik fa te aw) (fun (r9 : Int32) (_ : Unit) => r9 = (-1)) (fun (_ : Unit) => mow G ad z fo sv d pa ke ik fa te aw) := by
  refine Mi.of (cc := cX8_link) (nL := 3) (by decide) (Nat.le_of_ble_eq_true rfl) ?_
  intro p e s m below meth c A ls F hr hlocks hnm hX hA hD hP hS hl
  have F : CallFix p m c cX8_link 3 s [.ref (ad 0), .int (nI k), .int y].toArray wA RX8 := F
  obtain ⟨hx, hb, hml, hown, hts⟩ := id F
  have hl : lv_has ls 3 [(0, .ref (ad 0)), (1, .int (nI k)), (2, .int y)] := hl
  obtain ⟨⟨b0, b1, b2, b3, b4, b5, b6, b7, b8⟩, g1, g2, g3, g4⟩ := id hB
  have gf : ∀ j, sf sv j < 10 := fun j => g1 (16 + j) (by omega)
  have gg : ∀ j, sg sv j < 10 := fun j => g1 (28 + j) (by omega)
  have gc : ∀ j, sc sv j ≤ 9 := fun j => by have := g1 (40 + j) (by omega); unfold sc; omega
  have gf7 : ∀ j, j < 12 → sf sv j < 7 := g2
  have gg7 : ∀ j, j < 12 → sg sv j < 7 := g3
  refine lv_aload_n hx hb dX8_link_0 rfl (lv_at hl 0 rfl) ?_
  refine lv_iconst (v := (nI 0)) hx hb dX8_link_1 (by decide) ?_
  refine va_put (D := G.1) (ci := 7) (v := .int (nI 0)) (ty := .int) (C := RX8) (T := TX8) (N := 17) hx hb hts inA8 tyX8 tyX8_ok nmX8 hown hX.1 hP hD hS 0 rfl rfl 0 (by decide) (hts _ kw_680) (fun _ h9 => h9) rfl (by decide +kernel) rfl rfl (Nat.le_of_ble_eq_true rfl) dX8_link_2 (fun H locs hP hD hS => ?_)
  have hP : va_P G.1 vwCl (mow G ad z fo sv d pa ke ik fa te aw) H := hP
  have hD : va_D A (mow G ad z fo sv d pa ke ik fa te aw) := hD
  refine lv_aload_n hx hb dX8_link_5 rfl (lv_at hl 0 rfl) ?_
  refine lv_iload_n hx hb dX8_link_6 rfl (lv_at hl 1 rfl) ?_
  refine ca_Vi (ci := 7) (q := (RX8, TX8, 17)) (rest := []) (wr := ([] : va_W)) F hX (mX8_isLink l G ad z fo sv d pa ke ik fa te aw (nI k) hB) (cA_V hts kw_858 kw_8 kw_855 kw_857 kp_41 hdX8_isLink ⟨Nat.le_of_ble_eq_true rfl, Nat.le_of_ble_eq_true rfl⟩) rfl rfl rfl hl.1 rfl (Nat.le_of_ble_eq_true rfl) dX8_link_7 ⟨Nat.le_of_ble_eq_true rfl, Nat.le_of_ble_eq_true rfl⟩ hP hD hS hA (pm_nil _) (fun r7 u7 H locs hp7 hP hD hS => ?_)
  have hP : va_P G.1 vwCl (mow G ad z fo sv d pa ke ik fa te aw) H := wp_pm (pm_nil _).symm hP
  have hD : va_D A (mow G ad z fo sv d pa ke ik fa te aw) := wd_pm (pm_nil _).symm hD
  subst hp7
  refine ti (y := (bI true)) (by rw [nd_in (v := k) (n := sv 1) (by omega) (by omega)]) ?_
  refine bv_eq (b := true) (tgt := 22) hx hb dX8_link_10 (by decide) (fun c10 => ?_) (fun c10 => ?_)
  · exact absurd c10 (by decide)
  · refine lv_iload_n hx hb dX8_link_13 rfl (lv_at hl 2 rfl) ?_
    refine lv_iconst (v := (nI 0)) hx hb dX8_link_14 (by decide) ?_
    refine lv_iconst (v := (nI 5)) hx hb dX8_link_15 (by decide) ?_
    refine ca_Si (rest := []) (wr := mow G ad z fo sv d pa ke ik fa te aw) F hX (mX8_in l G y (nI 0) (nI 5)) (cA_S hts kw_738 kw_8 kw_736 kw_737 hdX8_in ⟨Nat.le_of_ble_eq_true rfl, Nat.le_of_ble_eq_true rfl⟩) rfl hl.1 rfl (Nat.le_of_ble_eq_true rfl) dX8_link_16 ⟨Nat.le_of_ble_eq_true rfl, Nat.le_of_ble_eq_true rfl⟩ hP hD hS hA (List.Perm.refl _) (fun r16 u16 H locs hp16 hP hD hS => ?_)
    have hP : va_P G.1 vwCl (mow G ad z fo sv d pa ke ik fa te aw) H := hP
    have hD : va_D A (mow G ad z fo sv d pa ke ik fa te aw) := hD
    subst hp16
    refine ti (y := (bI (decide (0 ≤ y.toInt ∧ y.toInt ≤ 5)))) (by rw [in_dec2 y (by decide)]; rfl) ?_
    refine bv_ne (b := decide (0 ≤ y.toInt ∧ y.toInt ≤ 5)) (tgt := 24) hx hb dX8_link_19 (by decide) (fun c19 => ?_) (fun c19 => ?_)
    · exact absurd (of_decide_eq_true c19) hy
    · refine lv_iconst (v := (-1)) hx hb dX8_link_22 (by decide) ?_
      exact re_i (v := (-1)) hx hb hr hlocks hS () hP hD rfl dX8_link_23

set_option maxHeartbeats 4000000 in
set_option maxRecDepth 100000 in
theorem mX8_link_0 (l : Launch) (G : GG) (ad : Nat → Nat) (z : Nat → Nat) (fo : Option Nat) (sv : Nat → Nat) (d : Nat → Int32) (pa ke : Nat → Nat) (ik fa : Nat → Int32) (te aw : Nat → Nat) (k : Nat) (hB : SB sv) (hk : k < sv 1) : Mi l yX8_link cX8_link 3 (some .int) (rmN 2 43) G [.ref (ad 0), .int (nI k), .int (nI 0)] (mow G ad z fo sv d pa ke ik fa te aw) (fun (r9 : Int32) (_ : Unit) => r9 = (nI (sf sv k))) (fun (_ : Unit) => mow G ad z fo sv d pa ke ik fa te aw) := by
  refine Mi.of (cc := cX8_link) (nL := 3) (by decide) (Nat.le_of_ble_eq_true rfl) ?_
  intro p e s m below meth c A ls F hr hlocks hnm hX hA hD hP hS hl
  have F : CallFix p m c cX8_link 3 s [.ref (ad 0), .int (nI k), .int (nI 0)].toArray wA RX8 := F
  obtain ⟨hx, hb, hml, hown, hts⟩ := id F
  have hl : lv_has ls 3 [(0, .ref (ad 0)), (1, .int (nI k)), (2, .int (nI 0))] := hl
  obtain ⟨⟨b0, b1, b2, b3, b4, b5, b6, b7, b8⟩, g1, g2, g3, g4⟩ := id hB
  have gf : ∀ j, sf sv j < 10 := fun j => g1 (16 + j) (by omega)
  have gg : ∀ j, sg sv j < 10 := fun j => g1 (28 + j) (by omega)
  have gc : ∀ j, sc sv j ≤ 9 := fun j => by have := g1 (40 + j) (by omega); unfold sc; omega
  have gf7 : ∀ j, j < 12 → sf sv j < 7 := g2
  have gg7 : ∀ j, j < 12 → sg sv j < 7 := g3
  refine lv_aload_n hx hb dX8_link_0 rfl (lv_at hl 0 rfl) ?_
  refine lv_iconst (v := (nI 0)) hx hb dX8_link_1 (by decide) ?_
  refine va_put (D := G.1) (ci := 7) (v := .int (nI 0)) (ty := .int) (C := RX8) (T := TX8) (N := 17) hx hb hts inA8 tyX8 tyX8_ok nmX8 hown hX.1 hP hD hS 0 rfl rfl 0 (by decide) (hts _ kw_680) (fun _ h9 => h9) rfl (by decide +kernel) rfl rfl (Nat.le_of_ble_eq_true rfl) dX8_link_2 (fun H locs hP hD hS => ?_)
  have hP : va_P G.1 vwCl (mow G ad z fo sv d pa ke ik fa te aw) H := hP
  have hD : va_D A (mow G ad z fo sv d pa ke ik fa te aw) := hD
  refine lv_aload_n hx hb dX8_link_5 rfl (lv_at hl 0 rfl) ?_
  refine lv_iload_n hx hb dX8_link_6 rfl (lv_at hl 1 rfl) ?_
  refine ca_Vi (ci := 7) (q := (RX8, TX8, 17)) (rest := []) (wr := ([] : va_W)) F hX (mX8_isLink l G ad z fo sv d pa ke ik fa te aw (nI k) hB) (cA_V hts kw_858 kw_8 kw_855 kw_857 kp_41 hdX8_isLink ⟨Nat.le_of_ble_eq_true rfl, Nat.le_of_ble_eq_true rfl⟩) rfl rfl rfl hl.1 rfl (Nat.le_of_ble_eq_true rfl) dX8_link_7 ⟨Nat.le_of_ble_eq_true rfl, Nat.le_of_ble_eq_true rfl⟩ hP hD hS hA (pm_nil _) (fun r7 u7 H locs hp7 hP hD hS => ?_)
  have hP : va_P G.1 vwCl (mow G ad z fo sv d pa ke ik fa te aw) H := wp_pm (pm_nil _).symm hP
  have hD : va_D A (mow G ad z fo sv d pa ke ik fa te aw) := wd_pm (pm_nil _).symm hD
  subst hp7
  refine ti (y := (bI true)) (by rw [nd_in (v := k) (n := sv 1) (by omega) (by omega)]) ?_
  refine bv_eq (b := true) (tgt := 22) hx hb dX8_link_10 (by decide) (fun c10 => ?_) (fun c10 => ?_)
  · exact absurd c10 (by decide)
  · refine lv_iload_n hx hb dX8_link_13 rfl (lv_at hl 2 rfl) ?_
    refine lv_iconst (v := (nI 0)) hx hb dX8_link_14 (by decide) ?_
    refine lv_iconst (v := (nI 5)) hx hb dX8_link_15 (by decide) ?_
    refine ca_Si (rest := []) (wr := mow G ad z fo sv d pa ke ik fa te aw) F hX (mX8_in l G (nI 0) (nI 0) (nI 5)) (cA_S hts kw_738 kw_8 kw_736 kw_737 hdX8_in ⟨Nat.le_of_ble_eq_true rfl, Nat.le_of_ble_eq_true rfl⟩) rfl hl.1 rfl (Nat.le_of_ble_eq_true rfl) dX8_link_16 ⟨Nat.le_of_ble_eq_true rfl, Nat.le_of_ble_eq_true rfl⟩ hP hD hS hA (List.Perm.refl _) (fun r16 u16 H locs hp16 hP hD hS => ?_)
    have hP : va_P G.1 vwCl (mow G ad z fo sv d pa ke ik fa te aw) H := hP
    have hD : va_D A (mow G ad z fo sv d pa ke ik fa te aw) := hD
    subst hp16
    refine ti (y := (bI true)) (by decide) ?_
    refine bv_ne (b := true) (tgt := 24) hx hb dX8_link_19 (by decide) (fun c19 => ?_) (fun c19 => ?_)
    · refine lv_iload_n hx hb dX8_link_24 rfl (lv_at hl 2 rfl) ?_
      refine lv_tableIn (off := 35) (tgt := 60) hx hb dX8_link_25 (by decide) (by decide) (by decide +kernel) (by decide) ?_
      refine lv_aload_n hx hb dX8_link_60 rfl (lv_at hl 0 rfl) ?_
      refine va_get (D := G.1) (ci := 7) (v := .ref (ad 1)) (C := RX8) (T := TX8) (N := 17) hx hb hts inA8 hown hX.1 hP 0 rfl rfl 1 (by decide) (hts _ kw_681) (fun _ h9 => h9) rfl dX8_link_61 ?_
      refine lv_bipush (v := (nI 16)) hx hb dX8_link_64 (by decide) ?_
      refine lv_iload_n hx hb dX8_link_66 rfl (lv_at hl 1 rfl) ?_
      refine lv_iadd hx hb dX8_link_67 (ti (y := (nI (16 + k))) (nI_add _ _) ?_)
      refine nv_ald (f := sv) (k := 16 + k) hx hb hX hP 1 rfl (by omega) (by decide) dX8_link_68 ?_
      refine ti (y := (nI (sf sv k))) rfl ?_
      exact re_i (v := (nI (sf sv k))) hx hb hr hlocks hS () hP hD rfl dX8_link_69
    · exact absurd c19 (by decide)

set_option maxHeartbeats 4000000 in
set_option maxRecDepth 100000 in
theorem mX8_link_1 (l : Launch) (G : GG) (ad : Nat → Nat) (z : Nat → Nat) (fo : Option Nat) (sv : Nat → Nat) (d : Nat → Int32) (pa ke : Nat → Nat) (ik fa : Nat → Int32) (te aw : Nat → Nat) (k : Nat) (hB : SB sv) (hk : k < sv 1) : Mi l yX8_link cX8_link 3 (some .int) (rmN 2 43) G [.ref (ad 0), .int (nI k), .int (nI 1)] (mow G ad z fo sv d pa ke ik fa te aw) (fun (r9 : Int32) (_ : Unit) => r9 = (nI (sg sv k))) (fun (_ : Unit) => mow G ad z fo sv d pa ke ik fa te aw) := by
  refine Mi.of (cc := cX8_link) (nL := 3) (by decide) (Nat.le_of_ble_eq_true rfl) ?_
  intro p e s m below meth c A ls F hr hlocks hnm hX hA hD hP hS hl
  have F : CallFix p m c cX8_link 3 s [.ref (ad 0), .int (nI k), .int (nI 1)].toArray wA RX8 := F
  obtain ⟨hx, hb, hml, hown, hts⟩ := id F
  have hl : lv_has ls 3 [(0, .ref (ad 0)), (1, .int (nI k)), (2, .int (nI 1))] := hl
  obtain ⟨⟨b0, b1, b2, b3, b4, b5, b6, b7, b8⟩, g1, g2, g3, g4⟩ := id hB
  have gf : ∀ j, sf sv j < 10 := fun j => g1 (16 + j) (by omega)
  have gg : ∀ j, sg sv j < 10 := fun j => g1 (28 + j) (by omega)
  have gc : ∀ j, sc sv j ≤ 9 := fun j => by have := g1 (40 + j) (by omega); unfold sc; omega
  have gf7 : ∀ j, j < 12 → sf sv j < 7 := g2
  have gg7 : ∀ j, j < 12 → sg sv j < 7 := g3
  refine lv_aload_n hx hb dX8_link_0 rfl (lv_at hl 0 rfl) ?_
  refine lv_iconst (v := (nI 0)) hx hb dX8_link_1 (by decide) ?_
  refine va_put (D := G.1) (ci := 7) (v := .int (nI 0)) (ty := .int) (C := RX8) (T := TX8) (N := 17) hx hb hts inA8 tyX8 tyX8_ok nmX8 hown hX.1 hP hD hS 0 rfl rfl 0 (by decide) (hts _ kw_680) (fun _ h9 => h9) rfl (by decide +kernel) rfl rfl (Nat.le_of_ble_eq_true rfl) dX8_link_2 (fun H locs hP hD hS => ?_)
  have hP : va_P G.1 vwCl (mow G ad z fo sv d pa ke ik fa te aw) H := hP
  have hD : va_D A (mow G ad z fo sv d pa ke ik fa te aw) := hD
  refine lv_aload_n hx hb dX8_link_5 rfl (lv_at hl 0 rfl) ?_
  refine lv_iload_n hx hb dX8_link_6 rfl (lv_at hl 1 rfl) ?_
  refine ca_Vi (ci := 7) (q := (RX8, TX8, 17)) (rest := []) (wr := ([] : va_W)) F hX (mX8_isLink l G ad z fo sv d pa ke ik fa te aw (nI k) hB) (cA_V hts kw_858 kw_8 kw_855 kw_857 kp_41 hdX8_isLink ⟨Nat.le_of_ble_eq_true rfl, Nat.le_of_ble_eq_true rfl⟩) rfl rfl rfl hl.1 rfl (Nat.le_of_ble_eq_true rfl) dX8_link_7 ⟨Nat.le_of_ble_eq_true rfl, Nat.le_of_ble_eq_true rfl⟩ hP hD hS hA (pm_nil _) (fun r7 u7 H locs hp7 hP hD hS => ?_)
  have hP : va_P G.1 vwCl (mow G ad z fo sv d pa ke ik fa te aw) H := wp_pm (pm_nil _).symm hP
  have hD : va_D A (mow G ad z fo sv d pa ke ik fa te aw) := wd_pm (pm_nil _).symm hD
  subst hp7
  refine ti (y := (bI true)) (by rw [nd_in (v := k) (n := sv 1) (by omega) (by omega)]) ?_
  refine bv_eq (b := true) (tgt := 22) hx hb dX8_link_10 (by decide) (fun c10 => ?_) (fun c10 => ?_)
  · exact absurd c10 (by decide)
  · refine lv_iload_n hx hb dX8_link_13 rfl (lv_at hl 2 rfl) ?_
    refine lv_iconst (v := (nI 0)) hx hb dX8_link_14 (by decide) ?_
    refine lv_iconst (v := (nI 5)) hx hb dX8_link_15 (by decide) ?_
    refine ca_Si (rest := []) (wr := mow G ad z fo sv d pa ke ik fa te aw) F hX (mX8_in l G (nI 1) (nI 0) (nI 5)) (cA_S hts kw_738 kw_8 kw_736 kw_737 hdX8_in ⟨Nat.le_of_ble_eq_true rfl, Nat.le_of_ble_eq_true rfl⟩) rfl hl.1 rfl (Nat.le_of_ble_eq_true rfl) dX8_link_16 ⟨Nat.le_of_ble_eq_true rfl, Nat.le_of_ble_eq_true rfl⟩ hP hD hS hA (List.Perm.refl _) (fun r16 u16 H locs hp16 hP hD hS => ?_)
    have hP : va_P G.1 vwCl (mow G ad z fo sv d pa ke ik fa te aw) H := hP
    have hD : va_D A (mow G ad z fo sv d pa ke ik fa te aw) := hD
    subst hp16
    refine ti (y := (bI true)) (by decide) ?_
    refine bv_ne (b := true) (tgt := 24) hx hb dX8_link_19 (by decide) (fun c19 => ?_) (fun c19 => ?_)
    · refine lv_iload_n hx hb dX8_link_24 rfl (lv_at hl 2 rfl) ?_
      refine lv_tableIn (off := 45) (tgt := 70) hx hb dX8_link_25 (by decide) (by decide) (by decide +kernel) (by decide) ?_
      refine lv_aload_n hx hb dX8_link_70 rfl (lv_at hl 0 rfl) ?_
      refine va_get (D := G.1) (ci := 7) (v := .ref (ad 1)) (C := RX8) (T := TX8) (N := 17) hx hb hts inA8 hown hX.1 hP 0 rfl rfl 1 (by decide) (hts _ kw_681) (fun _ h9 => h9) rfl dX8_link_71 ?_
      refine lv_bipush (v := (nI 28)) hx hb dX8_link_74 (by decide) ?_
      refine lv_iload_n hx hb dX8_link_76 rfl (lv_at hl 1 rfl) ?_
      refine lv_iadd hx hb dX8_link_77 (ti (y := (nI (28 + k))) (nI_add _ _) ?_)
      refine nv_ald (f := sv) (k := 28 + k) hx hb hX hP 1 rfl (by omega) (by decide) dX8_link_78 ?_
      refine ti (y := (nI (sg sv k))) rfl ?_
      exact re_i (v := (nI (sg sv k))) hx hb hr hlocks hS () hP hD rfl dX8_link_79
    · exact absurd c19 (by decide)

set_option maxHeartbeats 4000000 in
set_option maxRecDepth 100000 in
theorem mX8_link_2 (l : Launch) (G : GG) (ad : Nat → Nat) (z : Nat → Nat) (fo : Option Nat) (sv : Nat → Nat) (d : Nat → Int32) (pa ke : Nat → Nat) (ik fa : Nat → Int32) (te aw : Nat → Nat) (k : Nat) (hB : SB sv) (hk : k < sv 1) : Mi l yX8_link cX8_link 3 (some .int) (rmN 2 43) G [.ref (ad 0), .int (nI k), .int (nI 2)] (mow G ad z fo sv d pa ke ik fa te aw) (fun (r9 : Int32) (_ : Unit) => r9 = (nI (sc sv k))) (fun (_ : Unit) => mow G ad z fo sv d pa ke ik fa te aw) := by
  refine Mi.of (cc := cX8_link) (nL := 3) (by decide) (Nat.le_of_ble_eq_true rfl) ?_
  intro p e s m below meth c A ls F hr hlocks hnm hX hA hD hP hS hl
  have F : CallFix p m c cX8_link 3 s [.ref (ad 0), .int (nI k), .int (nI 2)].toArray wA RX8 := F
  obtain ⟨hx, hb, hml, hown, hts⟩ := id F
  have hl : lv_has ls 3 [(0, .ref (ad 0)), (1, .int (nI k)), (2, .int (nI 2))] := hl
  obtain ⟨⟨b0, b1, b2, b3, b4, b5, b6, b7, b8⟩, g1, g2, g3, g4⟩ := id hB
  have gf : ∀ j, sf sv j < 10 := fun j => g1 (16 + j) (by omega)
  have gg : ∀ j, sg sv j < 10 := fun j => g1 (28 + j) (by omega)
  have gc : ∀ j, sc sv j ≤ 9 := fun j => by have := g1 (40 + j) (by omega); unfold sc; omega
  have gf7 : ∀ j, j < 12 → sf sv j < 7 := g2
  have gg7 : ∀ j, j < 12 → sg sv j < 7 := g3
  refine lv_aload_n hx hb dX8_link_0 rfl (lv_at hl 0 rfl) ?_
  refine lv_iconst (v := (nI 0)) hx hb dX8_link_1 (by decide) ?_
  refine va_put (D := G.1) (ci := 7) (v := .int (nI 0)) (ty := .int) (C := RX8) (T := TX8) (N := 17) hx hb hts inA8 tyX8 tyX8_ok nmX8 hown hX.1 hP hD hS 0 rfl rfl 0 (by decide) (hts _ kw_680) (fun _ h9 => h9) rfl (by decide +kernel) rfl rfl (Nat.le_of_ble_eq_true rfl) dX8_link_2 (fun H locs hP hD hS => ?_)
  have hP : va_P G.1 vwCl (mow G ad z fo sv d pa ke ik fa te aw) H := hP
  have hD : va_D A (mow G ad z fo sv d pa ke ik fa te aw) := hD
  refine lv_aload_n hx hb dX8_link_5 rfl (lv_at hl 0 rfl) ?_
  refine lv_iload_n hx hb dX8_link_6 rfl (lv_at hl 1 rfl) ?_
  refine ca_Vi (ci := 7) (q := (RX8, TX8, 17)) (rest := []) (wr := ([] : va_W)) F hX (mX8_isLink l G ad z fo sv d pa ke ik fa te aw (nI k) hB) (cA_V hts kw_858 kw_8 kw_855 kw_857 kp_41 hdX8_isLink ⟨Nat.le_of_ble_eq_true rfl, Nat.le_of_ble_eq_true rfl⟩) rfl rfl rfl hl.1 rfl (Nat.le_of_ble_eq_true rfl) dX8_link_7 ⟨Nat.le_of_ble_eq_true rfl, Nat.le_of_ble_eq_true rfl⟩ hP hD hS hA (pm_nil _) (fun r7 u7 H locs hp7 hP hD hS => ?_)
  have hP : va_P G.1 vwCl (mow G ad z fo sv d pa ke ik fa te aw) H := wp_pm (pm_nil _).symm hP
  have hD : va_D A (mow G ad z fo sv d pa ke ik fa te aw) := wd_pm (pm_nil _).symm hD
  subst hp7
  refine ti (y := (bI true)) (by rw [nd_in (v := k) (n := sv 1) (by omega) (by omega)]) ?_
  refine bv_eq (b := true) (tgt := 22) hx hb dX8_link_10 (by decide) (fun c10 => ?_) (fun c10 => ?_)
  · exact absurd c10 (by decide)
  · refine lv_iload_n hx hb dX8_link_13 rfl (lv_at hl 2 rfl) ?_
    refine lv_iconst (v := (nI 0)) hx hb dX8_link_14 (by decide) ?_
    refine lv_iconst (v := (nI 5)) hx hb dX8_link_15 (by decide) ?_
    refine ca_Si (rest := []) (wr := mow G ad z fo sv d pa ke ik fa te aw) F hX (mX8_in l G (nI 2) (nI 0) (nI 5)) (cA_S hts kw_738 kw_8 kw_736 kw_737 hdX8_in ⟨Nat.le_of_ble_eq_true rfl, Nat.le_of_ble_eq_true rfl⟩) rfl hl.1 rfl (Nat.le_of_ble_eq_true rfl) dX8_link_16 ⟨Nat.le_of_ble_eq_true rfl, Nat.le_of_ble_eq_true rfl⟩ hP hD hS hA (List.Perm.refl _) (fun r16 u16 H locs hp16 hP hD hS => ?_)
    have hP : va_P G.1 vwCl (mow G ad z fo sv d pa ke ik fa te aw) H := hP
    have hD : va_D A (mow G ad z fo sv d pa ke ik fa te aw) := hD
    subst hp16
    refine ti (y := (bI true)) (by decide) ?_
    refine bv_ne (b := true) (tgt := 24) hx hb dX8_link_19 (by decide) (fun c19 => ?_) (fun c19 => ?_)
    · refine lv_iload_n hx hb dX8_link_24 rfl (lv_at hl 2 rfl) ?_
      refine lv_tableIn (off := 55) (tgt := 80) hx hb dX8_link_25 (by decide) (by decide) (by decide +kernel) (by decide) ?_
      refine lv_aload_n hx hb dX8_link_80 rfl (lv_at hl 0 rfl) ?_
      refine va_get (D := G.1) (ci := 7) (v := .ref (ad 1)) (C := RX8) (T := TX8) (N := 17) hx hb hts inA8 hown hX.1 hP 0 rfl rfl 1 (by decide) (hts _ kw_681) (fun _ h9 => h9) rfl dX8_link_81 ?_
      refine lv_bipush (v := (nI 40)) hx hb dX8_link_84 (by decide) ?_
      refine lv_iload_n hx hb dX8_link_86 rfl (lv_at hl 1 rfl) ?_
      refine lv_iadd hx hb dX8_link_87 (ti (y := (nI (40 + k))) (nI_add _ _) ?_)
      refine nv_ald (f := sv) (k := 40 + k) hx hb hX hP 1 rfl (by omega) (by decide) dX8_link_88 ?_
      refine ti (y := (nI (sc sv k))) rfl ?_
      exact re_i (v := (nI (sc sv k))) hx hb hr hlocks hS () hP hD rfl dX8_link_89
    · exact absurd c19 (by decide)

set_option maxHeartbeats 4000000 in
set_option maxRecDepth 100000 in
theorem mX8_link_3 (l : Launch) (G : GG) (ad : Nat → Nat) (z : Nat → Nat) (fo : Option Nat) (sv : Nat → Nat) (d : Nat → Int32) (pa ke : Nat → Nat) (ik fa : Nat → Int32) (te aw : Nat → Nat) (k : Nat) (hB : SB sv) (hk : k < sv 1) : Mi l yX8_link cX8_link 3 (some .int) (rmN 2 43) G [.ref (ad 0), .int (nI k), .int (nI 3)] (mow G ad z fo sv d pa ke ik fa te aw) (fun (r9 : Int32) (_ : Unit) => r9 = (nI (if (sv 5).testBit k then 1 else 0))) (fun (_ : Unit) => mow G ad z fo sv d pa ke ik fa te aw) := by
  refine Mi.of (cc := cX8_link) (nL := 3) (by decide) (Nat.le_of_ble_eq_true rfl) ?_
  intro p e s m below meth c A ls F hr hlocks hnm hX hA hD hP hS hl
  have F : CallFix p m c cX8_link 3 s [.ref (ad 0), .int (nI k), .int (nI 3)].toArray wA RX8 := F
  obtain ⟨hx, hb, hml, hown, hts⟩ := id F
  have hl : lv_has ls 3 [(0, .ref (ad 0)), (1, .int (nI k)), (2, .int (nI 3))] := hl
  obtain ⟨⟨b0, b1, b2, b3, b4, b5, b6, b7, b8⟩, g1, g2, g3, g4⟩ := id hB
  have gf : ∀ j, sf sv j < 10 := fun j => g1 (16 + j) (by omega)
  have gg : ∀ j, sg sv j < 10 := fun j => g1 (28 + j) (by omega)
  have gc : ∀ j, sc sv j ≤ 9 := fun j => by have := g1 (40 + j) (by omega); unfold sc; omega
  have gf7 : ∀ j, j < 12 → sf sv j < 7 := g2
  have gg7 : ∀ j, j < 12 → sg sv j < 7 := g3
  refine lv_aload_n hx hb dX8_link_0 rfl (lv_at hl 0 rfl) ?_
  refine lv_iconst (v := (nI 0)) hx hb dX8_link_1 (by decide) ?_
  refine va_put (D := G.1) (ci := 7) (v := .int (nI 0)) (ty := .int) (C := RX8) (T := TX8) (N := 17) hx hb hts inA8 tyX8 tyX8_ok nmX8 hown hX.1 hP hD hS 0 rfl rfl 0 (by decide) (hts _ kw_680) (fun _ h9 => h9) rfl (by decide +kernel) rfl rfl (Nat.le_of_ble_eq_true rfl) dX8_link_2 (fun H locs hP hD hS => ?_)
  have hP : va_P G.1 vwCl (mow G ad z fo sv d pa ke ik fa te aw) H := hP
  have hD : va_D A (mow G ad z fo sv d pa ke ik fa te aw) := hD
  refine lv_aload_n hx hb dX8_link_5 rfl (lv_at hl 0 rfl) ?_
  refine lv_iload_n hx hb dX8_link_6 rfl (lv_at hl 1 rfl) ?_
  refine ca_Vi (ci := 7) (q := (RX8, TX8, 17)) (rest := []) (wr := ([] : va_W)) F hX (mX8_isLink l G ad z fo sv d pa ke ik fa te aw (nI k) hB) (cA_V hts kw_858 kw_8 kw_855 kw_857 kp_41 hdX8_isLink ⟨Nat.le_of_ble_eq_true rfl, Nat.le_of_ble_eq_true rfl⟩) rfl rfl rfl hl.1 rfl (Nat.le_of_ble_eq_true rfl) dX8_link_7 ⟨Nat.le_of_ble_eq_true rfl, Nat.le_of_ble_eq_true rfl⟩ hP hD hS hA (pm_nil _) (fun r7 u7 H locs hp7 hP hD hS => ?_)
  have hP : va_P G.1 vwCl (mow G ad z fo sv d pa ke ik fa te aw) H := wp_pm (pm_nil _).symm hP
  have hD : va_D A (mow G ad z fo sv d pa ke ik fa te aw) := wd_pm (pm_nil _).symm hD
  subst hp7
  refine ti (y := (bI true)) (by rw [nd_in (v := k) (n := sv 1) (by omega) (by omega)]) ?_
  refine bv_eq (b := true) (tgt := 22) hx hb dX8_link_10 (by decide) (fun c10 => ?_) (fun c10 => ?_)
  · exact absurd c10 (by decide)
  · refine lv_iload_n hx hb dX8_link_13 rfl (lv_at hl 2 rfl) ?_
    refine lv_iconst (v := (nI 0)) hx hb dX8_link_14 (by decide) ?_
    refine lv_iconst (v := (nI 5)) hx hb dX8_link_15 (by decide) ?_
    refine ca_Si (rest := []) (wr := mow G ad z fo sv d pa ke ik fa te aw) F hX (mX8_in l G (nI 3) (nI 0) (nI 5)) (cA_S hts kw_738 kw_8 kw_736 kw_737 hdX8_in ⟨Nat.le_of_ble_eq_true rfl, Nat.le_of_ble_eq_true rfl⟩) rfl hl.1 rfl (Nat.le_of_ble_eq_true rfl) dX8_link_16 ⟨Nat.le_of_ble_eq_true rfl, Nat.le_of_ble_eq_true rfl⟩ hP hD hS hA (List.Perm.refl _) (fun r16 u16 H locs hp16 hP hD hS => ?_)
    have hP : va_P G.1 vwCl (mow G ad z fo sv d pa ke ik fa te aw) H := hP
    have hD : va_D A (mow G ad z fo sv d pa ke ik fa te aw) := hD
    subst hp16
    refine ti (y := (bI true)) (by decide) ?_
    refine bv_ne (b := true) (tgt := 24) hx hb dX8_link_19 (by decide) (fun c19 => ?_) (fun c19 => ?_)
    · refine lv_iload_n hx hb dX8_link_24 rfl (lv_at hl 2 rfl) ?_
      refine lv_tableIn (off := 65) (tgt := 90) hx hb dX8_link_25 (by decide) (by decide) (by decide +kernel) (by decide) ?_
      refine lv_aload_n hx hb dX8_link_90 rfl (lv_at hl 0 rfl) ?_
      refine va_get (D := G.1) (ci := 7) (v := .ref (ad 1)) (C := RX8) (T := TX8) (N := 17) hx hb hts inA8 hown hX.1 hP 0 rfl rfl 1 (by decide) (hts _ kw_681) (fun _ h9 => h9) rfl dX8_link_91 ?_
      refine lv_iconst (v := (nI 5)) hx hb dX8_link_94 (by decide) ?_
      refine nv_ald (f := sv) (k := 5) hx hb hX hP 1 rfl (by omega) (by decide) dX8_link_95 ?_
      refine lv_iload_n hx hb dX8_link_96 rfl (lv_at hl 1 rfl) ?_
      refine lv_ishr hx hb dX8_link_97 (ti (y := (nI ((sv 5) / 2 ^ k))) (qn_shr (by omega) (by omega)) ?_)
      refine lv_iconst (v := (nI 1)) hx hb dX8_link_98 (by decide) ?_
      refine lv_iand hx hb dX8_link_99 (ti (y := (nI (((sv 5) / 2 ^ k) &&& 1))) (qn_and _ _) ?_)
      exact re_i (v := (nI (((sv 5) / 2 ^ k) &&& 1))) hx hb hr hlocks hS () hP hD (by rw [qn_bit]) dX8_link_100
    · exact absurd c19 (by decide)

set_option maxHeartbeats 4000000 in
set_option maxRecDepth 100000 in
theorem mX8_link_4 (l : Launch) (G : GG) (ad : Nat → Nat) (z : Nat → Nat) (fo : Option Nat) (sv : Nat → Nat) (d : Nat → Int32) (pa ke : Nat → Nat) (ik fa : Nat → Int32) (te aw : Nat → Nat) (k : Nat) (hB : SB sv) (hk : k < sv 1) : Mi l yX8_link cX8_link 3 (some .int) (rmN 2 43) G [.ref (ad 0), .int (nI k), .int (nI 4)] (mow G ad z fo sv d pa ke ik fa te aw) (fun (r9 : Int32) (_ : Unit) => r9 = (nI (if (sv 6).testBit k then 1 else 0))) (fun (_ : Unit) => mow G ad z fo sv d pa ke ik fa te aw) := by
  refine Mi.of (cc := cX8_link) (nL := 3) (by decide) (Nat.le_of_ble_eq_true rfl) ?_
  intro p e s m below meth c A ls F hr hlocks hnm hX hA hD hP hS hl
  have F : CallFix p m c cX8_link 3 s [.ref (ad 0), .int (nI k), .int (nI 4)].toArray wA RX8 := F
  obtain ⟨hx, hb, hml, hown, hts⟩ := id F
  have hl : lv_has ls 3 [(0, .ref (ad 0)), (1, .int (nI k)), (2, .int (nI 4))] := hl
  obtain ⟨⟨b0, b1, b2, b3, b4, b5, b6, b7, b8⟩, g1, g2, g3, g4⟩ := id hB
  have gf : ∀ j, sf sv j < 10 := fun j => g1 (16 + j) (by omega)
  have gg : ∀ j, sg sv j < 10 := fun j => g1 (28 + j) (by omega)
  have gc : ∀ j, sc sv j ≤ 9 := fun j => by have := g1 (40 + j) (by omega); unfold sc; omega
  have gf7 : ∀ j, j < 12 → sf sv j < 7 := g2
  have gg7 : ∀ j, j < 12 → sg sv j < 7 := g3
  refine lv_aload_n hx hb dX8_link_0 rfl (lv_at hl 0 rfl) ?_
  refine lv_iconst (v := (nI 0)) hx hb dX8_link_1 (by decide) ?_
  refine va_put (D := G.1) (ci := 7) (v := .int (nI 0)) (ty := .int) (C := RX8) (T := TX8) (N := 17) hx hb hts inA8 tyX8 tyX8_ok nmX8 hown hX.1 hP hD hS 0 rfl rfl 0 (by decide) (hts _ kw_680) (fun _ h9 => h9) rfl (by decide +kernel) rfl rfl (Nat.le_of_ble_eq_true rfl) dX8_link_2 (fun H locs hP hD hS => ?_)
  have hP : va_P G.1 vwCl (mow G ad z fo sv d pa ke ik fa te aw) H := hP
  have hD : va_D A (mow G ad z fo sv d pa ke ik fa te aw) := hD
  refine lv_aload_n hx hb dX8_link_5 rfl (lv_at hl 0 rfl) ?_
  refine lv_iload_n hx hb dX8_link_6 rfl (lv_at hl 1 rfl) ?_
  refine ca_Vi (ci := 7) (q := (RX8, TX8, 17)) (rest := []) (wr := ([] : va_W)) F hX (mX8_isLink l G ad z fo sv d pa ke ik fa te aw (nI k) hB) (cA_V hts kw_858 kw_8 kw_855 kw_857 kp_41 hdX8_isLink ⟨Nat.le_of_ble_eq_true rfl, Nat.le_of_ble_eq_true rfl⟩) rfl rfl rfl hl.1 rfl (Nat.le_of_ble_eq_true rfl) dX8_link_7 ⟨Nat.le_of_ble_eq_true rfl, Nat.le_of_ble_eq_true rfl⟩ hP hD hS hA (pm_nil _) (fun r7 u7 H locs hp7 hP hD hS => ?_)
  have hP : va_P G.1 vwCl (mow G ad z fo sv d pa ke ik fa te aw) H := wp_pm (pm_nil _).symm hP
  have hD : va_D A (mow G ad z fo sv d pa ke ik fa te aw) := wd_pm (pm_nil _).symm hD
  subst hp7
  refine ti (y := (bI true)) (by rw [nd_in (v := k) (n := sv 1) (by omega) (by omega)]) ?_
  refine bv_eq (b := true) (tgt := 22) hx hb dX8_link_10 (by decide) (fun c10 => ?_) (fun c10 => ?_)
  · exact absurd c10 (by decide)
  · refine lv_iload_n hx hb dX8_link_13 rfl (lv_at hl 2 rfl) ?_
    refine lv_iconst (v := (nI 0)) hx hb dX8_link_14 (by decide) ?_
    refine lv_iconst (v := (nI 5)) hx hb dX8_link_15 (by decide) ?_
    refine ca_Si (rest := []) (wr := mow G ad z fo sv d pa ke ik fa te aw) F hX (mX8_in l G (nI 4) (nI 0) (nI 5)) (cA_S hts kw_738 kw_8 kw_736 kw_737 hdX8_in ⟨Nat.le_of_ble_eq_true rfl, Nat.le_of_ble_eq_true rfl⟩) rfl hl.1 rfl (Nat.le_of_ble_eq_true rfl) dX8_link_16 ⟨Nat.le_of_ble_eq_true rfl, Nat.le_of_ble_eq_true rfl⟩ hP hD hS hA (List.Perm.refl _) (fun r16 u16 H locs hp16 hP hD hS => ?_)
    have hP : va_P G.1 vwCl (mow G ad z fo sv d pa ke ik fa te aw) H := hP
    have hD : va_D A (mow G ad z fo sv d pa ke ik fa te aw) := hD
    subst hp16
    refine ti (y := (bI true)) (by decide) ?_
    refine bv_ne (b := true) (tgt := 24) hx hb dX8_link_19 (by decide) (fun c19 => ?_) (fun c19 => ?_)
    · refine lv_iload_n hx hb dX8_link_24 rfl (lv_at hl 2 rfl) ?_
      refine lv_tableIn (off := 76) (tgt := 101) hx hb dX8_link_25 (by decide) (by decide) (by decide +kernel) (by decide) ?_
      refine lv_aload_n hx hb dX8_link_101 rfl (lv_at hl 0 rfl) ?_
      refine va_get (D := G.1) (ci := 7) (v := .ref (ad 1)) (C := RX8) (T := TX8) (N := 17) hx hb hts inA8 hown hX.1 hP 0 rfl rfl 1 (by decide) (hts _ kw_681) (fun _ h9 => h9) rfl dX8_link_102 ?_
      refine lv_bipush (v := (nI 6)) hx hb dX8_link_105 (by decide) ?_
      refine nv_ald (f := sv) (k := 6) hx hb hX hP 1 rfl (by omega) (by decide) dX8_link_107 ?_
      refine lv_iload_n hx hb dX8_link_108 rfl (lv_at hl 1 rfl) ?_
      refine lv_ishr hx hb dX8_link_109 (ti (y := (nI ((sv 6) / 2 ^ k))) (qn_shr (by omega) (by omega)) ?_)
      refine lv_iconst (v := (nI 1)) hx hb dX8_link_110 (by decide) ?_
      refine lv_iand hx hb dX8_link_111 (ti (y := (nI (((sv 6) / 2 ^ k) &&& 1))) (qn_and _ _) ?_)
      exact re_i (v := (nI (((sv 6) / 2 ^ k) &&& 1))) hx hb hr hlocks hS () hP hD (by rw [qn_bit]) dX8_link_112
    · exact absurd c19 (by decide)

set_option maxHeartbeats 4000000 in
set_option maxRecDepth 100000 in
theorem mX8_link_5 (l : Launch) (G : GG) (ad : Nat → Nat) (z : Nat → Nat) (fo : Option Nat) (sv : Nat → Nat) (d : Nat → Int32) (pa ke : Nat → Nat) (ik fa : Nat → Int32) (te aw : Nat → Nat) (k : Nat) (hB : SB sv) (hk : k < sv 1) : Mi l yX8_link cX8_link 3 (some .int) (rmN 3 67) G [.ref (ad 0), .int (nI k), .int (nI 5)] (mow G ad z fo sv d pa ke ik fa te aw) (fun (r9 : Int32) (_ : Unit) => r9 = (nI (mldN (sf sv) (sg sv) (sv 1) (sv 2) (sv 4) (sv 5) k))) (fun (_ : Unit) => mow G ad z fo sv d pa ke ik fa te aw) := by
  refine Mi.of (cc := cX8_link) (nL := 3) (by decide) (Nat.le_of_ble_eq_true rfl) ?_
  intro p e s m below meth c A ls F hr hlocks hnm hX hA hD hP hS hl
  have F : CallFix p m c cX8_link 3 s [.ref (ad 0), .int (nI k), .int (nI 5)].toArray wA RX8 := F
  obtain ⟨hx, hb, hml, hown, hts⟩ := id F
  have hl : lv_has ls 3 [(0, .ref (ad 0)), (1, .int (nI k)), (2, .int (nI 5))] := hl
  obtain ⟨⟨b0, b1, b2, b3, b4, b5, b6, b7, b8⟩, g1, g2, g3, g4⟩ := id hB
  have gf : ∀ j, sf sv j < 10 := fun j => g1 (16 + j) (by omega)
  have gg : ∀ j, sg sv j < 10 := fun j => g1 (28 + j) (by omega)
  have gc : ∀ j, sc sv j ≤ 9 := fun j => by have := g1 (40 + j) (by omega); unfold sc; omega
  have gf7 : ∀ j, j < 12 → sf sv j < 7 := g2
  have gg7 : ∀ j, j < 12 → sg sv j < 7 := g3
  refine lv_aload_n hx hb dX8_link_0 rfl (lv_at hl 0 rfl) ?_
  refine lv_iconst (v := (nI 0)) hx hb dX8_link_1 (by decide) ?_
  refine va_put (D := G.1) (ci := 7) (v := .int (nI 0)) (ty := .int) (C := RX8) (T := TX8) (N := 17) hx hb hts inA8 tyX8 tyX8_ok nmX8 hown hX.1 hP hD hS 0 rfl rfl 0 (by decide) (hts _ kw_680) (fun _ h9 => h9) rfl (by decide +kernel) rfl rfl (Nat.le_of_ble_eq_true rfl) dX8_link_2 (fun H locs hP hD hS => ?_)
  have hP : va_P G.1 vwCl (mow G ad z fo sv d pa ke ik fa te aw) H := hP
  have hD : va_D A (mow G ad z fo sv d pa ke ik fa te aw) := hD
  refine lv_aload_n hx hb dX8_link_5 rfl (lv_at hl 0 rfl) ?_
  refine lv_iload_n hx hb dX8_link_6 rfl (lv_at hl 1 rfl) ?_
  refine ca_Vi (ci := 7) (q := (RX8, TX8, 17)) (rest := []) (wr := ([] : va_W)) F hX (mX8_isLink l G ad z fo sv d pa ke ik fa te aw (nI k) hB) (cA_V hts kw_858 kw_8 kw_855 kw_857 kp_41 hdX8_isLink ⟨Nat.le_of_ble_eq_true rfl, Nat.le_of_ble_eq_true rfl⟩) rfl rfl rfl hl.1 rfl (Nat.le_of_ble_eq_true rfl) dX8_link_7 ⟨Nat.le_of_ble_eq_true rfl, Nat.le_of_ble_eq_true rfl⟩ hP hD hS hA (pm_nil _) (fun r7 u7 H locs hp7 hP hD hS => ?_)
  have hP : va_P G.1 vwCl (mow G ad z fo sv d pa ke ik fa te aw) H := wp_pm (pm_nil _).symm hP
  have hD : va_D A (mow G ad z fo sv d pa ke ik fa te aw) := wd_pm (pm_nil _).symm hD
  subst hp7
  refine ti (y := (bI true)) (by rw [nd_in (v := k) (n := sv 1) (by omega) (by omega)]) ?_
  refine bv_eq (b := true) (tgt := 22) hx hb dX8_link_10 (by decide) (fun c10 => ?_) (fun c10 => ?_)
  · exact absurd c10 (by decide)
  · refine lv_iload_n hx hb dX8_link_13 rfl (lv_at hl 2 rfl) ?_
    refine lv_iconst (v := (nI 0)) hx hb dX8_link_14 (by decide) ?_
    refine lv_iconst (v := (nI 5)) hx hb dX8_link_15 (by decide) ?_
    refine ca_Si (rest := []) (wr := mow G ad z fo sv d pa ke ik fa te aw) F hX (mX8_in l G (nI 5) (nI 0) (nI 5)) (cA_S hts kw_738 kw_8 kw_736 kw_737 hdX8_in ⟨Nat.le_of_ble_eq_true rfl, Nat.le_of_ble_eq_true rfl⟩) rfl hl.1 rfl (Nat.le_of_ble_eq_true rfl) dX8_link_16 ⟨Nat.le_of_ble_eq_true rfl, Nat.le_of_ble_eq_true rfl⟩ hP hD hS hA (List.Perm.refl _) (fun r16 u16 H locs hp16 hP hD hS => ?_)
    have hP : va_P G.1 vwCl (mow G ad z fo sv d pa ke ik fa te aw) H := hP
    have hD : va_D A (mow G ad z fo sv d pa ke ik fa te aw) := hD
    subst hp16
    refine ti (y := (bI true)) (by decide) ?_
    refine bv_ne (b := true) (tgt := 24) hx hb dX8_link_19 (by decide) (fun c19 => ?_) (fun c19 => ?_)
    · refine lv_iload_n hx hb dX8_link_24 rfl (lv_at hl 2 rfl) ?_
      refine lv_tableOut (tgt := 113) hx hb dX8_link_25 (Or.inr (by decide)) (by decide) ?_
      refine lv_aload_n hx hb dX8_link_113 rfl (lv_at hl 0 rfl) ?_
      refine lv_iload_n hx hb dX8_link_114 rfl (lv_at hl 1 rfl) ?_
      refine ca_Vi (ci := 7) (q := (RX8, TX8, 17)) (rest := []) (wr := ([] : va_W)) F hX (mX8_load l G ad z fo sv d pa ke ik fa te aw k hB (by omega)) (cA_V hts kw_885 kw_8 kw_882 kw_884 kp_43 hdX8_load ⟨Nat.le_of_ble_eq_true rfl, Nat.le_of_ble_eq_true rfl⟩) rfl rfl rfl hl.1 rfl (Nat.le_of_ble_eq_true rfl) dX8_link_115 ⟨Nat.le_of_ble_eq_true rfl, Nat.le_of_ble_eq_true rfl⟩ hP hD hS hA (pm_nil _) (fun r115 u115 H locs hp115 hP hD hS => ?_)
      have hP : va_P G.1 vwCl (mow G ad z fo sv d pa ke ik fa te aw) H := wp_pm (pm_nil _).symm hP
      have hD : va_D A (mow G ad z fo sv d pa ke ik fa te aw) := wd_pm (pm_nil _).symm hD
      subst hp115
      exact re_i (v := (nI (mldN (sf sv) (sg sv) (sv 1) (sv 2) (sv 4) (sv 5) k))) hx hb hr hlocks hS () hP hD rfl dX8_link_118
    · exact absurd c19 (by decide)

theorem hdX8_node : hdOK yX8_node 2 := by decide +kernel
set_option maxHeartbeats 4000000 in
set_option maxRecDepth 100000 in
theorem mX8_node_bad (l : Launch) (G : GG) (ad : Nat → Nat) (z : Nat → Nat) (fo : Option Nat) (sv : Nat → Nat) (d : Nat → Int32) (pa ke : Nat → Nat) (ik fa : Nat → Int32) (te aw : Nat → Nat) (x y : Int32) (hB : SB sv) (hk : ¬ (0 ≤ x.toInt ∧ x.toInt < sv 0)) : Mi l yX8_node cX8_node 3 (some .int) (rmN 2 43) G [.ref (ad 0), .int x, .int y] (mow G ad z fo sv d pa ke ik fa te aw) (fun (r9 : Int32) (_ : Unit) => r9 = (-1)) (fun (_ : Unit) => mow G ad z fo sv d pa ke ik fa te aw) := by
  refine Mi.of (cc := cX8_node) (nL := 3) (by decide) (Nat.le_of_ble_eq_true rfl) ?_
  intro p e s m below meth c A ls F hr hlocks hnm hX hA hD hP hS hl
  have F : CallFix p m c cX8_node 3 s [.ref (ad 0), .int x, .int y].toArray wA RX8 := F
  obtain ⟨hx, hb, hml, hown, hts⟩ := id F
  have hl : lv_has ls 3 [(0, .ref (ad 0)), (1, .int x), (2, .int y)] := hl
  obtain ⟨⟨b0, b1, b2, b3, b4, b5, b6, b7, b8⟩, g1, g2, g3, g4⟩ := id hB
  have gf : ∀ j, sf sv j < 10 := fun j => g1 (16 + j) (by omega)
  have gg : ∀ j, sg sv j < 10 := fun j => g1 (28 + j) (by omega)
  have gc : ∀ j, sc sv j ≤ 9 := fun j => by have := g1 (40 + j) (by omega); unfold sc; omega
  have gf7 : ∀ j, j < 12 → sf sv j < 7 := g2
  have gg7 : ∀ j, j < 12 → sg sv j < 7 := g3
  refine lv_aload_n hx hb dX8_node_0 rfl (lv_at hl 0 rfl) ?_
  refine lv_iconst (v := (nI 0)) hx hb dX8_node_1 (by decide) ?_
  refine va_put (D := G.1) (ci := 7) (v := .int (nI 0)) (ty := .int) (C := RX8) (T := TX8) (N := 17) hx hb hts inA8 tyX8 tyX8_ok nmX8 hown hX.1 hP hD hS 0 rfl rfl 0 (by decide) (hts _ kw_680) (fun _ h9 => h9) rfl (by decide +kernel) rfl rfl (Nat.le_of_ble_eq_true rfl) dX8_node_2 (fun H locs hP hD hS => ?_)
  have hP : va_P G.1 vwCl (mow G ad z fo sv d pa ke ik fa te aw) H := hP
  have hD : va_D A (mow G ad z fo sv d pa ke ik fa te aw) := hD
  refine lv_aload_n hx hb dX8_node_5 rfl (lv_at hl 0 rfl) ?_
  refine lv_iload_n hx hb dX8_node_6 rfl (lv_at hl 1 rfl) ?_
  refine ca_Vi (ci := 7) (q := (RX8, TX8, 17)) (rest := []) (wr := ([] : va_W)) F hX (mX8_isNode l G ad z fo sv d pa ke ik fa te aw x hB) (cA_V hts kw_794 kw_8 kw_791 kw_793 kp_29 hdX8_isNode ⟨Nat.le_of_ble_eq_true rfl, Nat.le_of_ble_eq_true rfl⟩) rfl rfl rfl hl.1 rfl (Nat.le_of_ble_eq_true rfl) dX8_node_7 ⟨Nat.le_of_ble_eq_true rfl, Nat.le_of_ble_eq_true rfl⟩ hP hD hS hA (pm_nil _) (fun r7 u7 H locs hp7 hP hD hS => ?_)
  have hP : va_P G.1 vwCl (mow G ad z fo sv d pa ke ik fa te aw) H := wp_pm (pm_nil _).symm hP
  have hD : va_D A (mow G ad z fo sv d pa ke ik fa te aw) := wd_pm (pm_nil _).symm hD
  subst hp7
  refine bv_eq (b := decide (0 ≤ (x).toInt ∧ (x).toInt < sv 0)) (tgt := 23) hx hb dX8_node_10 (by decide) (fun c10 => ?_) (fun c10 => ?_)
  · refine lv_iconst (v := (-1)) hx hb dX8_node_23 (by decide) ?_
    exact re_i (v := (-1)) hx hb hr hlocks hS () hP hD rfl dX8_node_24
  · exact absurd (of_decide_eq_true c10) hk

set_option maxHeartbeats 4000000 in
set_option maxRecDepth 100000 in
theorem mX8_node_badw (l : Launch) (G : GG) (ad : Nat → Nat) (z : Nat → Nat) (fo : Option Nat) (sv : Nat → Nat) (d : Nat → Int32) (pa ke : Nat → Nat) (ik fa : Nat → Int32) (te aw : Nat → Nat) (v : Nat) (y : Int32) (hB : SB sv) (hv : v < sv 0) (hy : ¬ (0 ≤ y.toInt ∧ y.toInt ≤ 6)) : Mi l yX8_node cX8_node 3 (some .int) (rmN 2 43) G [.ref (ad 0), .int (nI v), .int y] (mow G ad z fo sv d pa ke ik fa te aw) (fun (r9 : Int32) (_ : Unit) => r9 = (-1)) (fun (_ : Unit) => mow G ad z fo sv d pa ke ik fa te aw) := by
  refine Mi.of (cc := cX8_node) (nL := 3) (by decide) (Nat.le_of_ble_eq_true rfl) ?_
  intro p e s m below meth c A ls F hr hlocks hnm hX hA hD hP hS hl
  have F : CallFix p m c cX8_node 3 s [.ref (ad 0), .int (nI v), .int y].toArray wA RX8 := F
  obtain ⟨hx, hb, hml, hown, hts⟩ := id F
  have hl : lv_has ls 3 [(0, .ref (ad 0)), (1, .int (nI v)), (2, .int y)] := hl
  obtain ⟨⟨b0, b1, b2, b3, b4, b5, b6, b7, b8⟩, g1, g2, g3, g4⟩ := id hB
  have gf : ∀ j, sf sv j < 10 := fun j => g1 (16 + j) (by omega)
  have gg : ∀ j, sg sv j < 10 := fun j => g1 (28 + j) (by omega)
  have gc : ∀ j, sc sv j ≤ 9 := fun j => by have := g1 (40 + j) (by omega); unfold sc; omega
  have gf7 : ∀ j, j < 12 → sf sv j < 7 := g2
  have gg7 : ∀ j, j < 12 → sg sv j < 7 := g3
  refine lv_aload_n hx hb dX8_node_0 rfl (lv_at hl 0 rfl) ?_
  refine lv_iconst (v := (nI 0)) hx hb dX8_node_1 (by decide) ?_
  refine va_put (D := G.1) (ci := 7) (v := .int (nI 0)) (ty := .int) (C := RX8) (T := TX8) (N := 17) hx hb hts inA8 tyX8 tyX8_ok nmX8 hown hX.1 hP hD hS 0 rfl rfl 0 (by decide) (hts _ kw_680) (fun _ h9 => h9) rfl (by decide +kernel) rfl rfl (Nat.le_of_ble_eq_true rfl) dX8_node_2 (fun H locs hP hD hS => ?_)
  have hP : va_P G.1 vwCl (mow G ad z fo sv d pa ke ik fa te aw) H := hP
  have hD : va_D A (mow G ad z fo sv d pa ke ik fa te aw) := hD
  refine lv_aload_n hx hb dX8_node_5 rfl (lv_at hl 0 rfl) ?_
  refine lv_iload_n hx hb dX8_node_6 rfl (lv_at hl 1 rfl) ?_
  refine ca_Vi (ci := 7) (q := (RX8, TX8, 17)) (rest := []) (wr := ([] : va_W)) F hX (mX8_isNode l G ad z fo sv d pa ke ik fa te aw (nI v) hB) (cA_V hts kw_794 kw_8 kw_791 kw_793 kp_29 hdX8_isNode ⟨Nat.le_of_ble_eq_true rfl, Nat.le_of_ble_eq_true rfl⟩) rfl rfl rfl hl.1 rfl (Nat.le_of_ble_eq_true rfl) dX8_node_7 ⟨Nat.le_of_ble_eq_true rfl, Nat.le_of_ble_eq_true rfl⟩ hP hD hS hA (pm_nil _) (fun r7 u7 H locs hp7 hP hD hS => ?_)
  have hP : va_P G.1 vwCl (mow G ad z fo sv d pa ke ik fa te aw) H := wp_pm (pm_nil _).symm hP
  have hD : va_D A (mow G ad z fo sv d pa ke ik fa te aw) := wd_pm (pm_nil _).symm hD
  subst hp7
  refine ti (y := (bI true)) (by rw [nd_in (v := v) (n := sv 0) (by omega) (by omega)]) ?_
  refine bv_eq (b := true) (tgt := 23) hx hb dX8_node_10 (by decide) (fun c10 => ?_) (fun c10 => ?_)
  · exact absurd c10 (by decide)
  · refine lv_iload_n hx hb dX8_node_13 rfl (lv_at hl 2 rfl) ?_
    refine lv_iconst (v := (nI 0)) hx hb dX8_node_14 (by decide) ?_
    refine lv_bipush (v := (nI 6)) hx hb dX8_node_15 (by decide) ?_
    refine ca_Si (rest := []) (wr := mow G ad z fo sv d pa ke ik fa te aw) F hX (mX8_in l G y (nI 0) (nI 6)) (cA_S hts kw_738 kw_8 kw_736 kw_737 hdX8_in ⟨Nat.le_of_ble_eq_true rfl, Nat.le_of_ble_eq_true rfl⟩) rfl hl.1 rfl (Nat.le_of_ble_eq_true rfl) dX8_node_17 ⟨Nat.le_of_ble_eq_true rfl, Nat.le_of_ble_eq_true rfl⟩ hP hD hS hA (List.Perm.refl _) (fun r17 u17 H locs hp17 hP hD hS => ?_)
    have hP : va_P G.1 vwCl (mow G ad z fo sv d pa ke ik fa te aw) H := hP
    have hD : va_D A (mow G ad z fo sv d pa ke ik fa te aw) := hD
    subst hp17
    refine ti (y := (bI (decide (0 ≤ y.toInt ∧ y.toInt ≤ 6)))) (by rw [in_dec2 y (by decide)]; rfl) ?_
    refine bv_ne (b := decide (0 ≤ y.toInt ∧ y.toInt ≤ 6)) (tgt := 25) hx hb dX8_node_20 (by decide) (fun c20 => ?_) (fun c20 => ?_)
    · exact absurd (of_decide_eq_true c20) hy
    · refine lv_iconst (v := (-1)) hx hb dX8_node_23 (by decide) ?_
      exact re_i (v := (-1)) hx hb hr hlocks hS () hP hD rfl dX8_node_24

set_option maxHeartbeats 4000000 in
set_option maxRecDepth 100000 in
theorem mX8_node_0 (l : Launch) (G : GG) (ad : Nat → Nat) (z : Nat → Nat) (fo : Option Nat) (sv : Nat → Nat) (d : Nat → Int32) (pa ke : Nat → Nat) (ik fa : Nat → Int32) (te aw : Nat → Nat) (v : Nat) (hB : SB sv) (ha : ∀ j, aw j ≤ 1000000) (hv : v < sv 0) : Mi l yX8_node cX8_node 3 (some .int) (rmN 2 47) G [.ref (ad 0), .int (nI v), .int (nI 0)] (mow G ad z fo sv d pa ke ik fa te aw) (fun (r9 : Int32) (_ : Unit) => r9 = (nI (if v = sv 2 then 2 else if (sv 4).testBit v then 1 else 0))) (fun (_ : Unit) => mow G ad z fo sv d pa ke ik fa te (mesN (sf sv) (sg sv) (sc sv) (sv 6) (sv 1) (sv 0) (clo (sf sv) (sg sv) (sv 5) (sv 1) (sv 2)) aw)) := by
  refine Mi.of (cc := cX8_node) (nL := 3) (by decide) (Nat.le_of_ble_eq_true rfl) ?_
  intro p e s m below meth c A ls F hr hlocks hnm hX hA hD hP hS hl
  have F : CallFix p m c cX8_node 3 s [.ref (ad 0), .int (nI v), .int (nI 0)].toArray wA RX8 := F
  obtain ⟨hx, hb, hml, hown, hts⟩ := id F
  have hl : lv_has ls 3 [(0, .ref (ad 0)), (1, .int (nI v)), (2, .int (nI 0))] := hl
  obtain ⟨⟨b0, b1, b2, b3, b4, b5, b6, b7, b8⟩, g1, g2, g3, g4⟩ := id hB
  have gf : ∀ j, sf sv j < 10 := fun j => g1 (16 + j) (by omega)
  have gg : ∀ j, sg sv j < 10 := fun j => g1 (28 + j) (by omega)
  have gc : ∀ j, sc sv j ≤ 9 := fun j => by have := g1 (40 + j) (by omega); unfold sc; omega
  have gf7 : ∀ j, j < 12 → sf sv j < 7 := g2
  have gg7 : ∀ j, j < 12 → sg sv j < 7 := g3
  have hcl : clo (sf sv) (sg sv) (sv 5) (sv 1) (sv 2) < 1024 := clo_lt gf gg (by omega)
  have hml9 : ∀ j, (mesN (sf sv) (sg sv) (sc sv) (sv 6) (sv 1) (sv 0) (clo (sf sv) (sg sv) (sv 5) (sv 1) (sv 2)) aw) j ≤ 1000000 := mesN_le ha
  refine lv_aload_n hx hb dX8_node_0 rfl (lv_at hl 0 rfl) ?_
  refine lv_iconst (v := (nI 0)) hx hb dX8_node_1 (by decide) ?_
  refine va_put (D := G.1) (ci := 7) (v := .int (nI 0)) (ty := .int) (C := RX8) (T := TX8) (N := 17) hx hb hts inA8 tyX8 tyX8_ok nmX8 hown hX.1 hP hD hS 0 rfl rfl 0 (by decide) (hts _ kw_680) (fun _ h9 => h9) rfl (by decide +kernel) rfl rfl (Nat.le_of_ble_eq_true rfl) dX8_node_2 (fun H locs hP hD hS => ?_)
  have hP : va_P G.1 vwCl (mow G ad z fo sv d pa ke ik fa te aw) H := hP
  have hD : va_D A (mow G ad z fo sv d pa ke ik fa te aw) := hD
  refine lv_aload_n hx hb dX8_node_5 rfl (lv_at hl 0 rfl) ?_
  refine lv_iload_n hx hb dX8_node_6 rfl (lv_at hl 1 rfl) ?_
  refine ca_Vi (ci := 7) (q := (RX8, TX8, 17)) (rest := []) (wr := ([] : va_W)) F hX (mX8_isNode l G ad z fo sv d pa ke ik fa te aw (nI v) hB) (cA_V hts kw_794 kw_8 kw_791 kw_793 kp_29 hdX8_isNode ⟨Nat.le_of_ble_eq_true rfl, Nat.le_of_ble_eq_true rfl⟩) rfl rfl rfl hl.1 rfl (Nat.le_of_ble_eq_true rfl) dX8_node_7 ⟨Nat.le_of_ble_eq_true rfl, Nat.le_of_ble_eq_true rfl⟩ hP hD hS hA (pm_nil _) (fun r7 u7 H locs hp7 hP hD hS => ?_)
  have hP : va_P G.1 vwCl (mow G ad z fo sv d pa ke ik fa te aw) H := wp_pm (pm_nil _).symm hP
  have hD : va_D A (mow G ad z fo sv d pa ke ik fa te aw) := wd_pm (pm_nil _).symm hD
  subst hp7
  refine ti (y := (bI true)) (by rw [nd_in (v := v) (n := sv 0) (by omega) (by omega)]) ?_
  refine bv_eq (b := true) (tgt := 23) hx hb dX8_node_10 (by decide) (fun c10 => ?_) (fun c10 => ?_)
  · exact absurd c10 (by decide)
  · refine lv_iload_n hx hb dX8_node_13 rfl (lv_at hl 2 rfl) ?_
    refine lv_iconst (v := (nI 0)) hx hb dX8_node_14 (by decide) ?_
    refine lv_bipush (v := (nI 6)) hx hb dX8_node_15 (by decide) ?_
    refine ca_Si (rest := []) (wr := mow G ad z fo sv d pa ke ik fa te aw) F hX (mX8_in l G (nI 0) (nI 0) (nI 6)) (cA_S hts kw_738 kw_8 kw_736 kw_737 hdX8_in ⟨Nat.le_of_ble_eq_true rfl, Nat.le_of_ble_eq_true rfl⟩) rfl hl.1 rfl (Nat.le_of_ble_eq_true rfl) dX8_node_17 ⟨Nat.le_of_ble_eq_true rfl, Nat.le_of_ble_eq_true rfl⟩ hP hD hS hA (List.Perm.refl _) (fun r17 u17 H locs hp17 hP hD hS => ?_)
    have hP : va_P G.1 vwCl (mow G ad z fo sv d pa ke ik fa te aw) H := hP
    have hD : va_D A (mow G ad z fo sv d pa ke ik fa te aw) := hD
    subst hp17
    refine ti (y := (bI true)) (by decide) ?_
    refine bv_ne (b := true) (tgt := 25) hx hb dX8_node_20 (by decide) (fun c20 => ?_) (fun c20 => ?_)
    · refine lv_aload_n hx hb dX8_node_25 rfl (lv_at hl 0 rfl) ?_
      refine lv_aload_n hx hb dX8_node_26 rfl (lv_at hl 0 rfl) ?_
      refine lv_aload_n hx hb dX8_node_27 rfl (lv_at hl 0 rfl) ?_
      refine va_get (D := G.1) (ci := 7) (v := .ref (ad 1)) (C := RX8) (T := TX8) (N := 17) hx hb hts inA8 hown hX.1 hP 0 rfl rfl 1 (by decide) (hts _ kw_681) (fun _ h9 => h9) rfl dX8_node_28 ?_
      refine lv_iconst (v := (nI 5)) hx hb dX8_node_31 (by decide) ?_
      refine nv_ald (f := sv) (k := 5) hx hb hX hP 1 rfl (by omega) (by decide) dX8_node_32 ?_
      refine ca_Vi (ci := 7) (q := (RX8, TX8, 17)) (rest := [.ref (ad 0)]) (wr := ([] : va_W)) F hX (mX8_nodesOf l G ad z fo sv d pa ke ik fa te aw (sv 5) hB (by omega)) (cA_V hts kw_798 kw_8 kw_795 kw_797 kp_30 hdX8_nodesOf ⟨Nat.le_of_ble_eq_true rfl, Nat.le_of_ble_eq_true rfl⟩) rfl rfl rfl hl.1 rfl (Nat.le_of_ble_eq_true rfl) dX8_node_33 ⟨Nat.le_of_ble_eq_true rfl, Nat.le_of_ble_eq_true rfl⟩ hP hD hS hA (pm_nil _) (fun r33 u33 H locs hp33 hP hD hS => ?_)
      have hP : va_P G.1 vwCl (mow G ad z fo sv d pa ke ik fa te aw) H := wp_pm (pm_nil _).symm hP
      have hD : va_D A (mow G ad z fo sv d pa ke ik fa te aw) := wd_pm (pm_nil _).symm hD
      subst hp33
      refine ca_Vv (ci := 7) (q := (RX8, TX8, 17)) (rest := []) (wr := ([] : va_W)) F hX (mX8_measures l G ad z fo sv d pa ke ik fa te aw (clo (sf sv) (sg sv) (sv 5) (sv 1) (sv 2)) hB ha (by omega)) (cA_V hts kw_805 kw_8 kw_802 kw_804 kp_31 hdX8_measures ⟨Nat.le_of_ble_eq_true rfl, Nat.le_of_ble_eq_true rfl⟩) rfl rfl rfl hl.1 rfl (Nat.le_of_ble_eq_true rfl) dX8_node_36 ⟨Nat.le_of_ble_eq_true rfl, Nat.le_of_ble_eq_true rfl⟩ hP hD hS hA (pm_nil _) (fun u36 H locs hp36 hP hD hS => ?_)
      have hP : va_P G.1 vwCl (mow G ad z fo sv d pa ke ik fa te (mesN (sf sv) (sg sv) (sc sv) (sv 6) (sv 1) (sv 0) (clo (sf sv) (sg sv) (sv 5) (sv 1) (sv 2)) aw)) H := wp_pm (pm_nil _).symm hP
      have hD : va_D A (mow G ad z fo sv d pa ke ik fa te (mesN (sf sv) (sg sv) (sc sv) (sv 6) (sv 1) (sv 0) (clo (sf sv) (sg sv) (sv 5) (sv 1) (sv 2)) aw)) := wd_pm (pm_nil _).symm hD
      refine lv_iload_n hx hb dX8_node_39 rfl (lv_at hl 2 rfl) ?_
      refine lv_tableIn (off := 44) (tgt := 84) hx hb dX8_node_40 (by decide) (by decide) (by decide +kernel) (by decide) ?_
      refine lv_iload_n hx hb dX8_node_84 rfl (lv_at hl 1 rfl) ?_
      refine lv_aload_n hx hb dX8_node_85 rfl (lv_at hl 0 rfl) ?_
      refine va_get (D := G.1) (ci := 7) (v := .ref (ad 1)) (C := RX8) (T := TX8) (N := 17) hx hb hts inA8 hown hX.1 hP 0 rfl rfl 1 (by decide) (hts _ kw_681) (fun _ h9 => h9) rfl dX8_node_86 ?_
      refine lv_iconst (v := (nI 2)) hx hb dX8_node_89 (by decide) ?_
      refine nv_ald (f := sv) (k := 2) hx hb hX hP 1 rfl (by omega) (by decide) dX8_node_90 ?_
      refine nv_ne (x := v) (y := sv 2) (tgt := 98) hx hb dX8_node_91 (by decide) (by omega) (by omega) (fun c91 => ?_) (fun c91 => ?_)
      · refine lv_aload_n hx hb dX8_node_98 rfl (lv_at hl 0 rfl) ?_
        refine va_get (D := G.1) (ci := 7) (v := .ref (ad 1)) (C := RX8) (T := TX8) (N := 17) hx hb hts inA8 hown hX.1 hP 0 rfl rfl 1 (by decide) (hts _ kw_681) (fun _ h9 => h9) rfl dX8_node_99 ?_
        refine lv_iconst (v := (nI 4)) hx hb dX8_node_102 (by decide) ?_
        refine nv_ald (f := sv) (k := 4) hx hb hX hP 1 rfl (by omega) (by decide) dX8_node_103 ?_
        refine lv_iload_n hx hb dX8_node_104 rfl (lv_at hl 1 rfl) ?_
        refine lv_ishr hx hb dX8_node_105 (ti (y := (nI ((sv 4) / 2 ^ v))) (qn_shr (by omega) (by omega)) ?_)
        refine lv_iconst (v := (nI 1)) hx hb dX8_node_106 (by decide) ?_
        refine lv_iand hx hb dX8_node_107 (ti (y := (nI (((sv 4) / 2 ^ v) &&& 1))) (qn_and _ _) ?_)
        exact re_i (v := (nI (((sv 4) / 2 ^ v) &&& 1))) hx hb hr hlocks hS () hP hD (by rw [if_neg c91, qn_bit]) dX8_node_108
      · refine lv_iconst (v := (nI 2)) hx hb dX8_node_94 (by decide) ?_
        refine lv_goto (tgt := 108) hx hb dX8_node_95 (by decide) ?_
        exact re_i (v := (nI 2)) hx hb hr hlocks hS () hP hD (by rw [if_pos c91]) dX8_node_108
    · exact absurd c20 (by decide)

set_option maxHeartbeats 4000000 in
set_option maxRecDepth 100000 in
theorem mX8_node_1 (l : Launch) (G : GG) (ad : Nat → Nat) (z : Nat → Nat) (fo : Option Nat) (sv : Nat → Nat) (d : Nat → Int32) (pa ke : Nat → Nat) (ik fa : Nat → Int32) (te aw : Nat → Nat) (v : Nat) (hB : SB sv) (ha : ∀ j, aw j ≤ 1000000) (hv : v < sv 0) : Mi l yX8_node cX8_node 3 (some .int) (rmN 2 47) G [.ref (ad 0), .int (nI v), .int (nI 1)] (mow G ad z fo sv d pa ke ik fa te aw) (fun (r9 : Int32) (_ : Unit) => r9 = (nI (if (clo (sf sv) (sg sv) (sv 5) (sv 1) (sv 2)).testBit v then 1 else 0))) (fun (_ : Unit) => mow G ad z fo sv d pa ke ik fa te (mesN (sf sv) (sg sv) (sc sv) (sv 6) (sv 1) (sv 0) (clo (sf sv) (sg sv) (sv 5) (sv 1) (sv 2)) aw)) := by
  refine Mi.of (cc := cX8_node) (nL := 3) (by decide) (Nat.le_of_ble_eq_true rfl) ?_
  intro p e s m below meth c A ls F hr hlocks hnm hX hA hD hP hS hl
  have F : CallFix p m c cX8_node 3 s [.ref (ad 0), .int (nI v), .int (nI 1)].toArray wA RX8 := F
  obtain ⟨hx, hb, hml, hown, hts⟩ := id F
  have hl : lv_has ls 3 [(0, .ref (ad 0)), (1, .int (nI v)), (2, .int (nI 1))] := hl
  obtain ⟨⟨b0, b1, b2, b3, b4, b5, b6, b7, b8⟩, g1, g2, g3, g4⟩ := id hB
  have gf : ∀ j, sf sv j < 10 := fun j => g1 (16 + j) (by omega)
  have gg : ∀ j, sg sv j < 10 := fun j => g1 (28 + j) (by omega)
  have gc : ∀ j, sc sv j ≤ 9 := fun j => by have := g1 (40 + j) (by omega); unfold sc; omega
  have gf7 : ∀ j, j < 12 → sf sv j < 7 := g2
  have gg7 : ∀ j, j < 12 → sg sv j < 7 := g3
  have hcl : clo (sf sv) (sg sv) (sv 5) (sv 1) (sv 2) < 1024 := clo_lt gf gg (by omega)
  have hml9 : ∀ j, (mesN (sf sv) (sg sv) (sc sv) (sv 6) (sv 1) (sv 0) (clo (sf sv) (sg sv) (sv 5) (sv 1) (sv 2)) aw) j ≤ 1000000 := mesN_le ha
  refine lv_aload_n hx hb dX8_node_0 rfl (lv_at hl 0 rfl) ?_
  refine lv_iconst (v := (nI 0)) hx hb dX8_node_1 (by decide) ?_
  refine va_put (D := G.1) (ci := 7) (v := .int (nI 0)) (ty := .int) (C := RX8) (T := TX8) (N := 17) hx hb hts inA8 tyX8 tyX8_ok nmX8 hown hX.1 hP hD hS 0 rfl rfl 0 (by decide) (hts _ kw_680) (fun _ h9 => h9) rfl (by decide +kernel) rfl rfl (Nat.le_of_ble_eq_true rfl) dX8_node_2 (fun H locs hP hD hS => ?_)
  have hP : va_P G.1 vwCl (mow G ad z fo sv d pa ke ik fa te aw) H := hP
  have hD : va_D A (mow G ad z fo sv d pa ke ik fa te aw) := hD
  refine lv_aload_n hx hb dX8_node_5 rfl (lv_at hl 0 rfl) ?_
  refine lv_iload_n hx hb dX8_node_6 rfl (lv_at hl 1 rfl) ?_
  refine ca_Vi (ci := 7) (q := (RX8, TX8, 17)) (rest := []) (wr := ([] : va_W)) F hX (mX8_isNode l G ad z fo sv d pa ke ik fa te aw (nI v) hB) (cA_V hts kw_794 kw_8 kw_791 kw_793 kp_29 hdX8_isNode ⟨Nat.le_of_ble_eq_true rfl, Nat.le_of_ble_eq_true rfl⟩) rfl rfl rfl hl.1 rfl (Nat.le_of_ble_eq_true rfl) dX8_node_7 ⟨Nat.le_of_ble_eq_true rfl, Nat.le_of_ble_eq_true rfl⟩ hP hD hS hA (pm_nil _) (fun r7 u7 H locs hp7 hP hD hS => ?_)
  have hP : va_P G.1 vwCl (mow G ad z fo sv d pa ke ik fa te aw) H := wp_pm (pm_nil _).symm hP
  have hD : va_D A (mow G ad z fo sv d pa ke ik fa te aw) := wd_pm (pm_nil _).symm hD
  subst hp7
  refine ti (y := (bI true)) (by rw [nd_in (v := v) (n := sv 0) (by omega) (by omega)]) ?_
  refine bv_eq (b := true) (tgt := 23) hx hb dX8_node_10 (by decide) (fun c10 => ?_) (fun c10 => ?_)
  · exact absurd c10 (by decide)
  · refine lv_iload_n hx hb dX8_node_13 rfl (lv_at hl 2 rfl) ?_
    refine lv_iconst (v := (nI 0)) hx hb dX8_node_14 (by decide) ?_
    refine lv_bipush (v := (nI 6)) hx hb dX8_node_15 (by decide) ?_
    refine ca_Si (rest := []) (wr := mow G ad z fo sv d pa ke ik fa te aw) F hX (mX8_in l G (nI 1) (nI 0) (nI 6)) (cA_S hts kw_738 kw_8 kw_736 kw_737 hdX8_in ⟨Nat.le_of_ble_eq_true rfl, Nat.le_of_ble_eq_true rfl⟩) rfl hl.1 rfl (Nat.le_of_ble_eq_true rfl) dX8_node_17 ⟨Nat.le_of_ble_eq_true rfl, Nat.le_of_ble_eq_true rfl⟩ hP hD hS hA (List.Perm.refl _) (fun r17 u17 H locs hp17 hP hD hS => ?_)
    have hP : va_P G.1 vwCl (mow G ad z fo sv d pa ke ik fa te aw) H := hP
    have hD : va_D A (mow G ad z fo sv d pa ke ik fa te aw) := hD
    subst hp17
    refine ti (y := (bI true)) (by decide) ?_
    refine bv_ne (b := true) (tgt := 25) hx hb dX8_node_20 (by decide) (fun c20 => ?_) (fun c20 => ?_)
    · refine lv_aload_n hx hb dX8_node_25 rfl (lv_at hl 0 rfl) ?_
      refine lv_aload_n hx hb dX8_node_26 rfl (lv_at hl 0 rfl) ?_
      refine lv_aload_n hx hb dX8_node_27 rfl (lv_at hl 0 rfl) ?_
      refine va_get (D := G.1) (ci := 7) (v := .ref (ad 1)) (C := RX8) (T := TX8) (N := 17) hx hb hts inA8 hown hX.1 hP 0 rfl rfl 1 (by decide) (hts _ kw_681) (fun _ h9 => h9) rfl dX8_node_28 ?_
      refine lv_iconst (v := (nI 5)) hx hb dX8_node_31 (by decide) ?_
      refine nv_ald (f := sv) (k := 5) hx hb hX hP 1 rfl (by omega) (by decide) dX8_node_32 ?_
      refine ca_Vi (ci := 7) (q := (RX8, TX8, 17)) (rest := [.ref (ad 0)]) (wr := ([] : va_W)) F hX (mX8_nodesOf l G ad z fo sv d pa ke ik fa te aw (sv 5) hB (by omega)) (cA_V hts kw_798 kw_8 kw_795 kw_797 kp_30 hdX8_nodesOf ⟨Nat.le_of_ble_eq_true rfl, Nat.le_of_ble_eq_true rfl⟩) rfl rfl rfl hl.1 rfl (Nat.le_of_ble_eq_true rfl) dX8_node_33 ⟨Nat.le_of_ble_eq_true rfl, Nat.le_of_ble_eq_true rfl⟩ hP hD hS hA (pm_nil _) (fun r33 u33 H locs hp33 hP hD hS => ?_)
      have hP : va_P G.1 vwCl (mow G ad z fo sv d pa ke ik fa te aw) H := wp_pm (pm_nil _).symm hP
      have hD : va_D A (mow G ad z fo sv d pa ke ik fa te aw) := wd_pm (pm_nil _).symm hD
      subst hp33
      refine ca_Vv (ci := 7) (q := (RX8, TX8, 17)) (rest := []) (wr := ([] : va_W)) F hX (mX8_measures l G ad z fo sv d pa ke ik fa te aw (clo (sf sv) (sg sv) (sv 5) (sv 1) (sv 2)) hB ha (by omega)) (cA_V hts kw_805 kw_8 kw_802 kw_804 kp_31 hdX8_measures ⟨Nat.le_of_ble_eq_true rfl, Nat.le_of_ble_eq_true rfl⟩) rfl rfl rfl hl.1 rfl (Nat.le_of_ble_eq_true rfl) dX8_node_36 ⟨Nat.le_of_ble_eq_true rfl, Nat.le_of_ble_eq_true rfl⟩ hP hD hS hA (pm_nil _) (fun u36 H locs hp36 hP hD hS => ?_)
      have hP : va_P G.1 vwCl (mow G ad z fo sv d pa ke ik fa te (mesN (sf sv) (sg sv) (sc sv) (sv 6) (sv 1) (sv 0) (clo (sf sv) (sg sv) (sv 5) (sv 1) (sv 2)) aw)) H := wp_pm (pm_nil _).symm hP
      have hD : va_D A (mow G ad z fo sv d pa ke ik fa te (mesN (sf sv) (sg sv) (sc sv) (sv 6) (sv 1) (sv 0) (clo (sf sv) (sg sv) (sv 5) (sv 1) (sv 2)) aw)) := wd_pm (pm_nil _).symm hD
      refine lv_iload_n hx hb dX8_node_39 rfl (lv_at hl 2 rfl) ?_
      refine lv_tableIn (off := 69) (tgt := 109) hx hb dX8_node_40 (by decide) (by decide) (by decide +kernel) (by decide) ?_
      refine lv_aload_n hx hb dX8_node_109 rfl (lv_at hl 0 rfl) ?_
      refine lv_aload_n hx hb dX8_node_110 rfl (lv_at hl 0 rfl) ?_
      refine va_get (D := G.1) (ci := 7) (v := .ref (ad 1)) (C := RX8) (T := TX8) (N := 17) hx hb hts inA8 hown hX.1 hP 0 rfl rfl 1 (by decide) (hts _ kw_681) (fun _ h9 => h9) rfl dX8_node_111 ?_
      refine lv_iconst (v := (nI 5)) hx hb dX8_node_114 (by decide) ?_
      refine nv_ald (f := sv) (k := 5) hx hb hX hP 1 rfl (by omega) (by decide) dX8_node_115 ?_
      refine ca_Vi (ci := 7) (q := (RX8, TX8, 17)) (rest := []) (wr := ([] : va_W)) F hX (mX8_nodesOf l G ad z fo sv d pa ke ik fa te (mesN (sf sv) (sg sv) (sc sv) (sv 6) (sv 1) (sv 0) (clo (sf sv) (sg sv) (sv 5) (sv 1) (sv 2)) aw) (sv 5) hB (by omega)) (cA_V hts kw_798 kw_8 kw_795 kw_797 kp_30 hdX8_nodesOf ⟨Nat.le_of_ble_eq_true rfl, Nat.le_of_ble_eq_true rfl⟩) rfl rfl rfl hl.1 rfl (Nat.le_of_ble_eq_true rfl) dX8_node_116 ⟨Nat.le_of_ble_eq_true rfl, Nat.le_of_ble_eq_true rfl⟩ hP hD hS hA (pm_nil _) (fun r116 u116 H locs hp116 hP hD hS => ?_)
      have hP : va_P G.1 vwCl (mow G ad z fo sv d pa ke ik fa te (mesN (sf sv) (sg sv) (sc sv) (sv 6) (sv 1) (sv 0) (clo (sf sv) (sg sv) (sv 5) (sv 1) (sv 2)) aw)) H := wp_pm (pm_nil _).symm hP
      have hD : va_D A (mow G ad z fo sv d pa ke ik fa te (mesN (sf sv) (sg sv) (sc sv) (sv 6) (sv 1) (sv 0) (clo (sf sv) (sg sv) (sv 5) (sv 1) (sv 2)) aw)) := wd_pm (pm_nil _).symm hD
      subst hp116
      refine lv_iload_n hx hb dX8_node_119 rfl (lv_at hl 1 rfl) ?_
      refine lv_ishr hx hb dX8_node_120 (ti (y := (nI ((clo (sf sv) (sg sv) (sv 5) (sv 1) (sv 2)) / 2 ^ v))) (qn_shr (by omega) (by omega)) ?_)
      refine lv_iconst (v := (nI 1)) hx hb dX8_node_121 (by decide) ?_
      refine lv_iand hx hb dX8_node_122 (ti (y := (nI (((clo (sf sv) (sg sv) (sv 5) (sv 1) (sv 2)) / 2 ^ v) &&& 1))) (qn_and _ _) ?_)
      exact re_i (v := (nI (((clo (sf sv) (sg sv) (sv 5) (sv 1) (sv 2)) / 2 ^ v) &&& 1))) hx hb hr hlocks hS () hP hD (by rw [qn_bit]) dX8_node_123
    · exact absurd c20 (by decide)

set_option maxHeartbeats 4000000 in
set_option maxRecDepth 100000 in
theorem mX8_node_2 (l : Launch) (G : GG) (ad : Nat → Nat) (z : Nat → Nat) (fo : Option Nat) (sv : Nat → Nat) (d : Nat → Int32) (pa ke : Nat → Nat) (ik fa : Nat → Int32) (te aw : Nat → Nat) (v : Nat) (hB : SB sv) (ha : ∀ j, aw j ≤ 1000000) (hv : v < sv 0) : Mi l yX8_node cX8_node 3 (some .int) (rmN 3 69) G [.ref (ad 0), .int (nI v), .int (nI 2)] (mow G ad z fo sv d pa ke ik fa te aw) (fun (r9 : Int32) (_ : Unit) => r9 = (oN (if (clo (sf sv) (sg sv) (sv 5) (sv 1) (sv 2)).testBit v = true then some (mfaN (sf sv) (sg sv) (sc sv) (sv 1) (sv 2) (sv 5) v (sv 1)) else none))) (fun (_ : Unit) => mow G ad z fo sv d pa ke ik fa te (mesN (sf sv) (sg sv) (sc sv) (sv 6) (sv 1) (sv 0) (clo (sf sv) (sg sv) (sv 5) (sv 1) (sv 2)) aw)) := by
  refine Mi.of (cc := cX8_node) (nL := 3) (by decide) (Nat.le_of_ble_eq_true rfl) ?_
  intro p e s m below meth c A ls F hr hlocks hnm hX hA hD hP hS hl
  have F : CallFix p m c cX8_node 3 s [.ref (ad 0), .int (nI v), .int (nI 2)].toArray wA RX8 := F
  obtain ⟨hx, hb, hml, hown, hts⟩ := id F
  have hl : lv_has ls 3 [(0, .ref (ad 0)), (1, .int (nI v)), (2, .int (nI 2))] := hl
  obtain ⟨⟨b0, b1, b2, b3, b4, b5, b6, b7, b8⟩, g1, g2, g3, g4⟩ := id hB
  have gf : ∀ j, sf sv j < 10 := fun j => g1 (16 + j) (by omega)
  have gg : ∀ j, sg sv j < 10 := fun j => g1 (28 + j) (by omega)
  have gc : ∀ j, sc sv j ≤ 9 := fun j => by have := g1 (40 + j) (by omega); unfold sc; omega
  have gf7 : ∀ j, j < 12 → sf sv j < 7 := g2
  have gg7 : ∀ j, j < 12 → sg sv j < 7 := g3
  have hcl : clo (sf sv) (sg sv) (sv 5) (sv 1) (sv 2) < 1024 := clo_lt gf gg (by omega)
  have hml9 : ∀ j, (mesN (sf sv) (sg sv) (sc sv) (sv 6) (sv 1) (sv 0) (clo (sf sv) (sg sv) (sv 5) (sv 1) (sv 2)) aw) j ≤ 1000000 := mesN_le ha
  refine lv_aload_n hx hb dX8_node_0 rfl (lv_at hl 0 rfl) ?_
  refine lv_iconst (v := (nI 0)) hx hb dX8_node_1 (by decide) ?_
  refine va_put (D := G.1) (ci := 7) (v := .int (nI 0)) (ty := .int) (C := RX8) (T := TX8) (N := 17) hx hb hts inA8 tyX8 tyX8_ok nmX8 hown hX.1 hP hD hS 0 rfl rfl 0 (by decide) (hts _ kw_680) (fun _ h9 => h9) rfl (by decide +kernel) rfl rfl (Nat.le_of_ble_eq_true rfl) dX8_node_2 (fun H locs hP hD hS => ?_)
  have hP : va_P G.1 vwCl (mow G ad z fo sv d pa ke ik fa te aw) H := hP
  have hD : va_D A (mow G ad z fo sv d pa ke ik fa te aw) := hD
  refine lv_aload_n hx hb dX8_node_5 rfl (lv_at hl 0 rfl) ?_
  refine lv_iload_n hx hb dX8_node_6 rfl (lv_at hl 1 rfl) ?_
  refine ca_Vi (ci := 7) (q := (RX8, TX8, 17)) (rest := []) (wr := ([] : va_W)) F hX (mX8_isNode l G ad z fo sv d pa ke ik fa te aw (nI v) hB) (cA_V hts kw_794 kw_8 kw_791 kw_793 kp_29 hdX8_isNode ⟨Nat.le_of_ble_eq_true rfl, Nat.le_of_ble_eq_true rfl⟩) rfl rfl rfl hl.1 rfl (Nat.le_of_ble_eq_true rfl) dX8_node_7 ⟨Nat.le_of_ble_eq_true rfl, Nat.le_of_ble_eq_true rfl⟩ hP hD hS hA (pm_nil _) (fun r7 u7 H locs hp7 hP hD hS => ?_)
  have hP : va_P G.1 vwCl (mow G ad z fo sv d pa ke ik fa te aw) H := wp_pm (pm_nil _).symm hP
  have hD : va_D A (mow G ad z fo sv d pa ke ik fa te aw) := wd_pm (pm_nil _).symm hD
  subst hp7
  refine ti (y := (bI true)) (by rw [nd_in (v := v) (n := sv 0) (by omega) (by omega)]) ?_
  refine bv_eq (b := true) (tgt := 23) hx hb dX8_node_10 (by decide) (fun c10 => ?_) (fun c10 => ?_)
  · exact absurd c10 (by decide)
  · refine lv_iload_n hx hb dX8_node_13 rfl (lv_at hl 2 rfl) ?_
    refine lv_iconst (v := (nI 0)) hx hb dX8_node_14 (by decide) ?_
    refine lv_bipush (v := (nI 6)) hx hb dX8_node_15 (by decide) ?_
    refine ca_Si (rest := []) (wr := mow G ad z fo sv d pa ke ik fa te aw) F hX (mX8_in l G (nI 2) (nI 0) (nI 6)) (cA_S hts kw_738 kw_8 kw_736 kw_737 hdX8_in ⟨Nat.le_of_ble_eq_true rfl, Nat.le_of_ble_eq_true rfl⟩) rfl hl.1 rfl (Nat.le_of_ble_eq_true rfl) dX8_node_17 ⟨Nat.le_of_ble_eq_true rfl, Nat.le_of_ble_eq_true rfl⟩ hP hD hS hA (List.Perm.refl _) (fun r17 u17 H locs hp17 hP hD hS => ?_)
    have hP : va_P G.1 vwCl (mow G ad z fo sv d pa ke ik fa te aw) H := hP
    have hD : va_D A (mow G ad z fo sv d pa ke ik fa te aw) := hD
    subst hp17
    refine ti (y := (bI true)) (by decide) ?_
    refine bv_ne (b := true) (tgt := 25) hx hb dX8_node_20 (by decide) (fun c20 => ?_) (fun c20 => ?_)
    · refine lv_aload_n hx hb dX8_node_25 rfl (lv_at hl 0 rfl) ?_
      refine lv_aload_n hx hb dX8_node_26 rfl (lv_at hl 0 rfl) ?_
      refine lv_aload_n hx hb dX8_node_27 rfl (lv_at hl 0 rfl) ?_
      refine va_get (D := G.1) (ci := 7) (v := .ref (ad 1)) (C := RX8) (T := TX8) (N := 17) hx hb hts inA8 hown hX.1 hP 0 rfl rfl 1 (by decide) (hts _ kw_681) (fun _ h9 => h9) rfl dX8_node_28 ?_
      refine lv_iconst (v := (nI 5)) hx hb dX8_node_31 (by decide) ?_
      refine nv_ald (f := sv) (k := 5) hx hb hX hP 1 rfl (by omega) (by decide) dX8_node_32 ?_
      refine ca_Vi (ci := 7) (q := (RX8, TX8, 17)) (rest := [.ref (ad 0)]) (wr := ([] : va_W)) F hX (mX8_nodesOf l G ad z fo sv d pa ke ik fa te aw (sv 5) hB (by omega)) (cA_V hts kw_798 kw_8 kw_795 kw_797 kp_30 hdX8_nodesOf ⟨Nat.le_of_ble_eq_true rfl, Nat.le_of_ble_eq_true rfl⟩) rfl rfl rfl hl.1 rfl (Nat.le_of_ble_eq_true rfl) dX8_node_33 ⟨Nat.le_of_ble_eq_true rfl, Nat.le_of_ble_eq_true rfl⟩ hP hD hS hA (pm_nil _) (fun r33 u33 H locs hp33 hP hD hS => ?_)
      have hP : va_P G.1 vwCl (mow G ad z fo sv d pa ke ik fa te aw) H := wp_pm (pm_nil _).symm hP
      have hD : va_D A (mow G ad z fo sv d pa ke ik fa te aw) := wd_pm (pm_nil _).symm hD
      subst hp33
      refine ca_Vv (ci := 7) (q := (RX8, TX8, 17)) (rest := []) (wr := ([] : va_W)) F hX (mX8_measures l G ad z fo sv d pa ke ik fa te aw (clo (sf sv) (sg sv) (sv 5) (sv 1) (sv 2)) hB ha (by omega)) (cA_V hts kw_805 kw_8 kw_802 kw_804 kp_31 hdX8_measures ⟨Nat.le_of_ble_eq_true rfl, Nat.le_of_ble_eq_true rfl⟩) rfl rfl rfl hl.1 rfl (Nat.le_of_ble_eq_true rfl) dX8_node_36 ⟨Nat.le_of_ble_eq_true rfl, Nat.le_of_ble_eq_true rfl⟩ hP hD hS hA (pm_nil _) (fun u36 H locs hp36 hP hD hS => ?_)
      have hP : va_P G.1 vwCl (mow G ad z fo sv d pa ke ik fa te (mesN (sf sv) (sg sv) (sc sv) (sv 6) (sv 1) (sv 0) (clo (sf sv) (sg sv) (sv 5) (sv 1) (sv 2)) aw)) H := wp_pm (pm_nil _).symm hP
      have hD : va_D A (mow G ad z fo sv d pa ke ik fa te (mesN (sf sv) (sg sv) (sc sv) (sv 6) (sv 1) (sv 0) (clo (sf sv) (sg sv) (sv 5) (sv 1) (sv 2)) aw)) := wd_pm (pm_nil _).symm hD
      refine lv_iload_n hx hb dX8_node_39 rfl (lv_at hl 2 rfl) ?_
      refine lv_tableIn (off := 84) (tgt := 124) hx hb dX8_node_40 (by decide) (by decide) (by decide +kernel) (by decide) ?_
      refine lv_aload_n hx hb dX8_node_124 rfl (lv_at hl 0 rfl) ?_
      refine lv_iload_n hx hb dX8_node_125 rfl (lv_at hl 1 rfl) ?_
      refine ca_Vi (ci := 7) (q := (RX8, TX8, 17)) (rest := []) (wr := ([] : va_W)) F hX (mX8_farOf l G ad z fo sv d pa ke ik fa te (mesN (sf sv) (sg sv) (sc sv) (sv 6) (sv 1) (sv 0) (clo (sf sv) (sg sv) (sv 5) (sv 1) (sv 2)) aw) v hB (by omega)) (cA_V hts kw_893 kw_8 kw_890 kw_892 kp_44 hdX8_farOf ⟨Nat.le_of_ble_eq_true rfl, Nat.le_of_ble_eq_true rfl⟩) rfl rfl rfl hl.1 rfl (Nat.le_of_ble_eq_true rfl) dX8_node_126 ⟨Nat.le_of_ble_eq_true rfl, Nat.le_of_ble_eq_true rfl⟩ hP hD hS hA (pm_nil _) (fun r126 u126 H locs hp126 hP hD hS => ?_)
      have hP : va_P G.1 vwCl (mow G ad z fo sv d pa ke ik fa te (mesN (sf sv) (sg sv) (sc sv) (sv 6) (sv 1) (sv 0) (clo (sf sv) (sg sv) (sv 5) (sv 1) (sv 2)) aw)) H := wp_pm (pm_nil _).symm hP
      have hD : va_D A (mow G ad z fo sv d pa ke ik fa te (mesN (sf sv) (sg sv) (sc sv) (sv 6) (sv 1) (sv 0) (clo (sf sv) (sg sv) (sv 5) (sv 1) (sv 2)) aw)) := wd_pm (pm_nil _).symm hD
      subst hp126
      exact re_i (v := (oN (if (clo (sf sv) (sg sv) (sv 5) (sv 1) (sv 2)).testBit v = true then some (mfaN (sf sv) (sg sv) (sc sv) (sv 1) (sv 2) (sv 5) v (sv 1)) else none))) hx hb hr hlocks hS () hP hD rfl dX8_node_129
    · exact absurd c20 (by decide)

set_option maxHeartbeats 4000000 in
set_option maxRecDepth 100000 in
theorem mX8_node_3 (l : Launch) (G : GG) (ad : Nat → Nat) (z : Nat → Nat) (fo : Option Nat) (sv : Nat → Nat) (d : Nat → Int32) (pa ke : Nat → Nat) (ik fa : Nat → Int32) (te aw : Nat → Nat) (v : Nat) (hB : SB sv) (ha : ∀ j, aw j ≤ 1000000) (hv : v < sv 0) : Mi l yX8_node cX8_node 3 (some .int) (rmN 2 47) G [.ref (ad 0), .int (nI v), .int (nI 3)] (mow G ad z fo sv d pa ke ik fa te aw) (fun (r9 : Int32) (_ : Unit) => r9 = (oN (mawI (mesN (sf sv) (sg sv) (sc sv) (sv 6) (sv 1) (sv 0) (clo (sf sv) (sg sv) (sv 5) (sv 1) (sv 2)) aw) v (nI 0)))) (fun (_ : Unit) => mow G ad z fo sv d pa ke ik fa te (mesN (sf sv) (sg sv) (sc sv) (sv 6) (sv 1) (sv 0) (clo (sf sv) (sg sv) (sv 5) (sv 1) (sv 2)) aw)) := by
  refine Mi.of (cc := cX8_node) (nL := 3) (by decide) (Nat.le_of_ble_eq_true rfl) ?_
  intro p e s m below meth c A ls F hr hlocks hnm hX hA hD hP hS hl
  have F : CallFix p m c cX8_node 3 s [.ref (ad 0), .int (nI v), .int (nI 3)].toArray wA RX8 := F
  obtain ⟨hx, hb, hml, hown, hts⟩ := id F
  have hl : lv_has ls 3 [(0, .ref (ad 0)), (1, .int (nI v)), (2, .int (nI 3))] := hl
  obtain ⟨⟨b0, b1, b2, b3, b4, b5, b6, b7, b8⟩, g1, g2, g3, g4⟩ := id hB
  have gf : ∀ j, sf sv j < 10 := fun j => g1 (16 + j) (by omega)
  have gg : ∀ j, sg sv j < 10 := fun j => g1 (28 + j) (by omega)
  have gc : ∀ j, sc sv j ≤ 9 := fun j => by have := g1 (40 + j) (by omega); unfold sc; omega
  have gf7 : ∀ j, j < 12 → sf sv j < 7 := g2
  have gg7 : ∀ j, j < 12 → sg sv j < 7 := g3
  have hcl : clo (sf sv) (sg sv) (sv 5) (sv 1) (sv 2) < 1024 := clo_lt gf gg (by omega)
  have hml9 : ∀ j, (mesN (sf sv) (sg sv) (sc sv) (sv 6) (sv 1) (sv 0) (clo (sf sv) (sg sv) (sv 5) (sv 1) (sv 2)) aw) j ≤ 1000000 := mesN_le ha
  refine lv_aload_n hx hb dX8_node_0 rfl (lv_at hl 0 rfl) ?_
  refine lv_iconst (v := (nI 0)) hx hb dX8_node_1 (by decide) ?_
  refine va_put (D := G.1) (ci := 7) (v := .int (nI 0)) (ty := .int) (C := RX8) (T := TX8) (N := 17) hx hb hts inA8 tyX8 tyX8_ok nmX8 hown hX.1 hP hD hS 0 rfl rfl 0 (by decide) (hts _ kw_680) (fun _ h9 => h9) rfl (by decide +kernel) rfl rfl (Nat.le_of_ble_eq_true rfl) dX8_node_2 (fun H locs hP hD hS => ?_)
  have hP : va_P G.1 vwCl (mow G ad z fo sv d pa ke ik fa te aw) H := hP
  have hD : va_D A (mow G ad z fo sv d pa ke ik fa te aw) := hD
  refine lv_aload_n hx hb dX8_node_5 rfl (lv_at hl 0 rfl) ?_
  refine lv_iload_n hx hb dX8_node_6 rfl (lv_at hl 1 rfl) ?_
  refine ca_Vi (ci := 7) (q := (RX8, TX8, 17)) (rest := []) (wr := ([] : va_W)) F hX (mX8_isNode l G ad z fo sv d pa ke ik fa te aw (nI v) hB) (cA_V hts kw_794 kw_8 kw_791 kw_793 kp_29 hdX8_isNode ⟨Nat.le_of_ble_eq_true rfl, Nat.le_of_ble_eq_true rfl⟩) rfl rfl rfl hl.1 rfl (Nat.le_of_ble_eq_true rfl) dX8_node_7 ⟨Nat.le_of_ble_eq_true rfl, Nat.le_of_ble_eq_true rfl⟩ hP hD hS hA (pm_nil _) (fun r7 u7 H locs hp7 hP hD hS => ?_)
  have hP : va_P G.1 vwCl (mow G ad z fo sv d pa ke ik fa te aw) H := wp_pm (pm_nil _).symm hP
  have hD : va_D A (mow G ad z fo sv d pa ke ik fa te aw) := wd_pm (pm_nil _).symm hD
  subst hp7
  refine ti (y := (bI true)) (by rw [nd_in (v := v) (n := sv 0) (by omega) (by omega)]) ?_
  refine bv_eq (b := true) (tgt := 23) hx hb dX8_node_10 (by decide) (fun c10 => ?_) (fun c10 => ?_)
  · exact absurd c10 (by decide)
  · refine lv_iload_n hx hb dX8_node_13 rfl (lv_at hl 2 rfl) ?_
    refine lv_iconst (v := (nI 0)) hx hb dX8_node_14 (by decide) ?_
    refine lv_bipush (v := (nI 6)) hx hb dX8_node_15 (by decide) ?_
    refine ca_Si (rest := []) (wr := mow G ad z fo sv d pa ke ik fa te aw) F hX (mX8_in l G (nI 3) (nI 0) (nI 6)) (cA_S hts kw_738 kw_8 kw_736 kw_737 hdX8_in ⟨Nat.le_of_ble_eq_true rfl, Nat.le_of_ble_eq_true rfl⟩) rfl hl.1 rfl (Nat.le_of_ble_eq_true rfl) dX8_node_17 ⟨Nat.le_of_ble_eq_true rfl, Nat.le_of_ble_eq_true rfl⟩ hP hD hS hA (List.Perm.refl _) (fun r17 u17 H locs hp17 hP hD hS => ?_)
    have hP : va_P G.1 vwCl (mow G ad z fo sv d pa ke ik fa te aw) H := hP
    have hD : va_D A (mow G ad z fo sv d pa ke ik fa te aw) := hD
    subst hp17
    refine ti (y := (bI true)) (by decide) ?_
    refine bv_ne (b := true) (tgt := 25) hx hb dX8_node_20 (by decide) (fun c20 => ?_) (fun c20 => ?_)
    · refine lv_aload_n hx hb dX8_node_25 rfl (lv_at hl 0 rfl) ?_
      refine lv_aload_n hx hb dX8_node_26 rfl (lv_at hl 0 rfl) ?_
      refine lv_aload_n hx hb dX8_node_27 rfl (lv_at hl 0 rfl) ?_
      refine va_get (D := G.1) (ci := 7) (v := .ref (ad 1)) (C := RX8) (T := TX8) (N := 17) hx hb hts inA8 hown hX.1 hP 0 rfl rfl 1 (by decide) (hts _ kw_681) (fun _ h9 => h9) rfl dX8_node_28 ?_
      refine lv_iconst (v := (nI 5)) hx hb dX8_node_31 (by decide) ?_
      refine nv_ald (f := sv) (k := 5) hx hb hX hP 1 rfl (by omega) (by decide) dX8_node_32 ?_
      refine ca_Vi (ci := 7) (q := (RX8, TX8, 17)) (rest := [.ref (ad 0)]) (wr := ([] : va_W)) F hX (mX8_nodesOf l G ad z fo sv d pa ke ik fa te aw (sv 5) hB (by omega)) (cA_V hts kw_798 kw_8 kw_795 kw_797 kp_30 hdX8_nodesOf ⟨Nat.le_of_ble_eq_true rfl, Nat.le_of_ble_eq_true rfl⟩) rfl rfl rfl hl.1 rfl (Nat.le_of_ble_eq_true rfl) dX8_node_33 ⟨Nat.le_of_ble_eq_true rfl, Nat.le_of_ble_eq_true rfl⟩ hP hD hS hA (pm_nil _) (fun r33 u33 H locs hp33 hP hD hS => ?_)
      have hP : va_P G.1 vwCl (mow G ad z fo sv d pa ke ik fa te aw) H := wp_pm (pm_nil _).symm hP
      have hD : va_D A (mow G ad z fo sv d pa ke ik fa te aw) := wd_pm (pm_nil _).symm hD
      subst hp33
      refine ca_Vv (ci := 7) (q := (RX8, TX8, 17)) (rest := []) (wr := ([] : va_W)) F hX (mX8_measures l G ad z fo sv d pa ke ik fa te aw (clo (sf sv) (sg sv) (sv 5) (sv 1) (sv 2)) hB ha (by omega)) (cA_V hts kw_805 kw_8 kw_802 kw_804 kp_31 hdX8_measures ⟨Nat.le_of_ble_eq_true rfl, Nat.le_of_ble_eq_true rfl⟩) rfl rfl rfl hl.1 rfl (Nat.le_of_ble_eq_true rfl) dX8_node_36 ⟨Nat.le_of_ble_eq_true rfl, Nat.le_of_ble_eq_true rfl⟩ hP hD hS hA (pm_nil _) (fun u36 H locs hp36 hP hD hS => ?_)
      have hP : va_P G.1 vwCl (mow G ad z fo sv d pa ke ik fa te (mesN (sf sv) (sg sv) (sc sv) (sv 6) (sv 1) (sv 0) (clo (sf sv) (sg sv) (sv 5) (sv 1) (sv 2)) aw)) H := wp_pm (pm_nil _).symm hP
      have hD : va_D A (mow G ad z fo sv d pa ke ik fa te (mesN (sf sv) (sg sv) (sc sv) (sv 6) (sv 1) (sv 0) (clo (sf sv) (sg sv) (sv 5) (sv 1) (sv 2)) aw)) := wd_pm (pm_nil _).symm hD
      refine lv_iload_n hx hb dX8_node_39 rfl (lv_at hl 2 rfl) ?_
      refine lv_tableIn (off := 102) (tgt := 142) hx hb dX8_node_40 (by decide) (by decide) (by decide +kernel) (by decide) ?_
      refine lv_aload_n hx hb dX8_node_142 rfl (lv_at hl 0 rfl) ?_
      refine lv_iload_n hx hb dX8_node_143 rfl (lv_at hl 1 rfl) ?_
      refine lv_iload_n hx hb dX8_node_144 rfl (lv_at hl 2 rfl) ?_
      refine lv_iconst (v := (nI 3)) hx hb dX8_node_145 (by decide) ?_
      refine lv_isub hx hb dX8_node_146 (ti (y := (nI 0)) (by decide) ?_)
      refine ca_Vi (ci := 7) (q := (RX8, TX8, 17)) (rest := []) (wr := ([] : va_W)) F hX (mX8_away l G ad z fo sv d pa ke ik fa te (mesN (sf sv) (sg sv) (sc sv) (sv 6) (sv 1) (sv 0) (clo (sf sv) (sg sv) (sv 5) (sv 1) (sv 2)) aw) v (nI 0) hml9 (by omega)) (cA_V hts kw_901 kw_8 kw_898 kw_900 kp_46 hdX8_away ⟨Nat.le_of_ble_eq_true rfl, Nat.le_of_ble_eq_true rfl⟩) rfl rfl rfl hl.1 rfl (Nat.le_of_ble_eq_true rfl) dX8_node_147 ⟨Nat.le_of_ble_eq_true rfl, Nat.le_of_ble_eq_true rfl⟩ hP hD hS hA (pm_nil _) (fun r147 u147 H locs hp147 hP hD hS => ?_)
      have hP : va_P G.1 vwCl (mow G ad z fo sv d pa ke ik fa te (mesN (sf sv) (sg sv) (sc sv) (sv 6) (sv 1) (sv 0) (clo (sf sv) (sg sv) (sv 5) (sv 1) (sv 2)) aw)) H := wp_pm (pm_nil _).symm hP
      have hD : va_D A (mow G ad z fo sv d pa ke ik fa te (mesN (sf sv) (sg sv) (sc sv) (sv 6) (sv 1) (sv 0) (clo (sf sv) (sg sv) (sv 5) (sv 1) (sv 2)) aw)) := wd_pm (pm_nil _).symm hD
      subst hp147
      exact re_i (v := (oN (mawI (mesN (sf sv) (sg sv) (sc sv) (sv 6) (sv 1) (sv 0) (clo (sf sv) (sg sv) (sv 5) (sv 1) (sv 2)) aw) v (nI 0)))) hx hb hr hlocks hS () hP hD rfl dX8_node_150
    · exact absurd c20 (by decide)

set_option maxHeartbeats 4000000 in
set_option maxRecDepth 100000 in
theorem mX8_node_4 (l : Launch) (G : GG) (ad : Nat → Nat) (z : Nat → Nat) (fo : Option Nat) (sv : Nat → Nat) (d : Nat → Int32) (pa ke : Nat → Nat) (ik fa : Nat → Int32) (te aw : Nat → Nat) (v : Nat) (hB : SB sv) (ha : ∀ j, aw j ≤ 1000000) (hv : v < sv 0) : Mi l yX8_node cX8_node 3 (some .int) (rmN 2 47) G [.ref (ad 0), .int (nI v), .int (nI 4)] (mow G ad z fo sv d pa ke ik fa te aw) (fun (r9 : Int32) (_ : Unit) => r9 = (oN (mawI (mesN (sf sv) (sg sv) (sc sv) (sv 6) (sv 1) (sv 0) (clo (sf sv) (sg sv) (sv 5) (sv 1) (sv 2)) aw) v (nI 1)))) (fun (_ : Unit) => mow G ad z fo sv d pa ke ik fa te (mesN (sf sv) (sg sv) (sc sv) (sv 6) (sv 1) (sv 0) (clo (sf sv) (sg sv) (sv 5) (sv 1) (sv 2)) aw)) := by
  refine Mi.of (cc := cX8_node) (nL := 3) (by decide) (Nat.le_of_ble_eq_true rfl) ?_
  intro p e s m below meth c A ls F hr hlocks hnm hX hA hD hP hS hl
  have F : CallFix p m c cX8_node 3 s [.ref (ad 0), .int (nI v), .int (nI 4)].toArray wA RX8 := F
  obtain ⟨hx, hb, hml, hown, hts⟩ := id F
  have hl : lv_has ls 3 [(0, .ref (ad 0)), (1, .int (nI v)), (2, .int (nI 4))] := hl
  obtain ⟨⟨b0, b1, b2, b3, b4, b5, b6, b7, b8⟩, g1, g2, g3, g4⟩ := id hB
  have gf : ∀ j, sf sv j < 10 := fun j => g1 (16 + j) (by omega)
  have gg : ∀ j, sg sv j < 10 := fun j => g1 (28 + j) (by omega)
  have gc : ∀ j, sc sv j ≤ 9 := fun j => by have := g1 (40 + j) (by omega); unfold sc; omega
  have gf7 : ∀ j, j < 12 → sf sv j < 7 := g2
  have gg7 : ∀ j, j < 12 → sg sv j < 7 := g3
  have hcl : clo (sf sv) (sg sv) (sv 5) (sv 1) (sv 2) < 1024 := clo_lt gf gg (by omega)
  have hml9 : ∀ j, (mesN (sf sv) (sg sv) (sc sv) (sv 6) (sv 1) (sv 0) (clo (sf sv) (sg sv) (sv 5) (sv 1) (sv 2)) aw) j ≤ 1000000 := mesN_le ha
  refine lv_aload_n hx hb dX8_node_0 rfl (lv_at hl 0 rfl) ?_
  refine lv_iconst (v := (nI 0)) hx hb dX8_node_1 (by decide) ?_
  refine va_put (D := G.1) (ci := 7) (v := .int (nI 0)) (ty := .int) (C := RX8) (T := TX8) (N := 17) hx hb hts inA8 tyX8 tyX8_ok nmX8 hown hX.1 hP hD hS 0 rfl rfl 0 (by decide) (hts _ kw_680) (fun _ h9 => h9) rfl (by decide +kernel) rfl rfl (Nat.le_of_ble_eq_true rfl) dX8_node_2 (fun H locs hP hD hS => ?_)
  have hP : va_P G.1 vwCl (mow G ad z fo sv d pa ke ik fa te aw) H := hP
  have hD : va_D A (mow G ad z fo sv d pa ke ik fa te aw) := hD
  refine lv_aload_n hx hb dX8_node_5 rfl (lv_at hl 0 rfl) ?_
  refine lv_iload_n hx hb dX8_node_6 rfl (lv_at hl 1 rfl) ?_
  refine ca_Vi (ci := 7) (q := (RX8, TX8, 17)) (rest := []) (wr := ([] : va_W)) F hX (mX8_isNode l G ad z fo sv d pa ke ik fa te aw (nI v) hB) (cA_V hts kw_794 kw_8 kw_791 kw_793 kp_29 hdX8_isNode ⟨Nat.le_of_ble_eq_true rfl, Nat.le_of_ble_eq_true rfl⟩) rfl rfl rfl hl.1 rfl (Nat.le_of_ble_eq_true rfl) dX8_node_7 ⟨Nat.le_of_ble_eq_true rfl, Nat.le_of_ble_eq_true rfl⟩ hP hD hS hA (pm_nil _) (fun r7 u7 H locs hp7 hP hD hS => ?_)
  have hP : va_P G.1 vwCl (mow G ad z fo sv d pa ke ik fa te aw) H := wp_pm (pm_nil _).symm hP
  have hD : va_D A (mow G ad z fo sv d pa ke ik fa te aw) := wd_pm (pm_nil _).symm hD
  subst hp7
  refine ti (y := (bI true)) (by rw [nd_in (v := v) (n := sv 0) (by omega) (by omega)]) ?_
  refine bv_eq (b := true) (tgt := 23) hx hb dX8_node_10 (by decide) (fun c10 => ?_) (fun c10 => ?_)
  · exact absurd c10 (by decide)
  · refine lv_iload_n hx hb dX8_node_13 rfl (lv_at hl 2 rfl) ?_
    refine lv_iconst (v := (nI 0)) hx hb dX8_node_14 (by decide) ?_
    refine lv_bipush (v := (nI 6)) hx hb dX8_node_15 (by decide) ?_
    refine ca_Si (rest := []) (wr := mow G ad z fo sv d pa ke ik fa te aw) F hX (mX8_in l G (nI 4) (nI 0) (nI 6)) (cA_S hts kw_738 kw_8 kw_736 kw_737 hdX8_in ⟨Nat.le_of_ble_eq_true rfl, Nat.le_of_ble_eq_true rfl⟩) rfl hl.1 rfl (Nat.le_of_ble_eq_true rfl) dX8_node_17 ⟨Nat.le_of_ble_eq_true rfl, Nat.le_of_ble_eq_true rfl⟩ hP hD hS hA (List.Perm.refl _) (fun r17 u17 H locs hp17 hP hD hS => ?_)
    have hP : va_P G.1 vwCl (mow G ad z fo sv d pa ke ik fa te aw) H := hP
    have hD : va_D A (mow G ad z fo sv d pa ke ik fa te aw) := hD
    subst hp17
    refine ti (y := (bI true)) (by decide) ?_
    refine bv_ne (b := true) (tgt := 25) hx hb dX8_node_20 (by decide) (fun c20 => ?_) (fun c20 => ?_)
    · refine lv_aload_n hx hb dX8_node_25 rfl (lv_at hl 0 rfl) ?_
      refine lv_aload_n hx hb dX8_node_26 rfl (lv_at hl 0 rfl) ?_
      refine lv_aload_n hx hb dX8_node_27 rfl (lv_at hl 0 rfl) ?_
      refine va_get (D := G.1) (ci := 7) (v := .ref (ad 1)) (C := RX8) (T := TX8) (N := 17) hx hb hts inA8 hown hX.1 hP 0 rfl rfl 1 (by decide) (hts _ kw_681) (fun _ h9 => h9) rfl dX8_node_28 ?_
      refine lv_iconst (v := (nI 5)) hx hb dX8_node_31 (by decide) ?_
      refine nv_ald (f := sv) (k := 5) hx hb hX hP 1 rfl (by omega) (by decide) dX8_node_32 ?_
      refine ca_Vi (ci := 7) (q := (RX8, TX8, 17)) (rest := [.ref (ad 0)]) (wr := ([] : va_W)) F hX (mX8_nodesOf l G ad z fo sv d pa ke ik fa te aw (sv 5) hB (by omega)) (cA_V hts kw_798 kw_8 kw_795 kw_797 kp_30 hdX8_nodesOf ⟨Nat.le_of_ble_eq_true rfl, Nat.le_of_ble_eq_true rfl⟩) rfl rfl rfl hl.1 rfl (Nat.le_of_ble_eq_true rfl) dX8_node_33 ⟨Nat.le_of_ble_eq_true rfl, Nat.le_of_ble_eq_true rfl⟩ hP hD hS hA (pm_nil _) (fun r33 u33 H locs hp33 hP hD hS => ?_)
      have hP : va_P G.1 vwCl (mow G ad z fo sv d pa ke ik fa te aw) H := wp_pm (pm_nil _).symm hP
      have hD : va_D A (mow G ad z fo sv d pa ke ik fa te aw) := wd_pm (pm_nil _).symm hD
      subst hp33
      refine ca_Vv (ci := 7) (q := (RX8, TX8, 17)) (rest := []) (wr := ([] : va_W)) F hX (mX8_measures l G ad z fo sv d pa ke ik fa te aw (clo (sf sv) (sg sv) (sv 5) (sv 1) (sv 2)) hB ha (by omega)) (cA_V hts kw_805 kw_8 kw_802 kw_804 kp_31 hdX8_measures ⟨Nat.le_of_ble_eq_true rfl, Nat.le_of_ble_eq_true rfl⟩) rfl rfl rfl hl.1 rfl (Nat.le_of_ble_eq_true rfl) dX8_node_36 ⟨Nat.le_of_ble_eq_true rfl, Nat.le_of_ble_eq_true rfl⟩ hP hD hS hA (pm_nil _) (fun u36 H locs hp36 hP hD hS => ?_)
      have hP : va_P G.1 vwCl (mow G ad z fo sv d pa ke ik fa te (mesN (sf sv) (sg sv) (sc sv) (sv 6) (sv 1) (sv 0) (clo (sf sv) (sg sv) (sv 5) (sv 1) (sv 2)) aw)) H := wp_pm (pm_nil _).symm hP
      have hD : va_D A (mow G ad z fo sv d pa ke ik fa te (mesN (sf sv) (sg sv) (sc sv) (sv 6) (sv 1) (sv 0) (clo (sf sv) (sg sv) (sv 5) (sv 1) (sv 2)) aw)) := wd_pm (pm_nil _).symm hD
      refine lv_iload_n hx hb dX8_node_39 rfl (lv_at hl 2 rfl) ?_
      refine lv_tableIn (off := 102) (tgt := 142) hx hb dX8_node_40 (by decide) (by decide) (by decide +kernel) (by decide) ?_
      refine lv_aload_n hx hb dX8_node_142 rfl (lv_at hl 0 rfl) ?_
      refine lv_iload_n hx hb dX8_node_143 rfl (lv_at hl 1 rfl) ?_
      refine lv_iload_n hx hb dX8_node_144 rfl (lv_at hl 2 rfl) ?_
      refine lv_iconst (v := (nI 3)) hx hb dX8_node_145 (by decide) ?_
      refine lv_isub hx hb dX8_node_146 (ti (y := (nI 1)) (by decide) ?_)
      refine ca_Vi (ci := 7) (q := (RX8, TX8, 17)) (rest := []) (wr := ([] : va_W)) F hX (mX8_away l G ad z fo sv d pa ke ik fa te (mesN (sf sv) (sg sv) (sc sv) (sv 6) (sv 1) (sv 0) (clo (sf sv) (sg sv) (sv 5) (sv 1) (sv 2)) aw) v (nI 1) hml9 (by omega)) (cA_V hts kw_901 kw_8 kw_898 kw_900 kp_46 hdX8_away ⟨Nat.le_of_ble_eq_true rfl, Nat.le_of_ble_eq_true rfl⟩) rfl rfl rfl hl.1 rfl (Nat.le_of_ble_eq_true rfl) dX8_node_147 ⟨Nat.le_of_ble_eq_true rfl, Nat.le_of_ble_eq_true rfl⟩ hP hD hS hA (pm_nil _) (fun r147 u147 H locs hp147 hP hD hS => ?_)
      have hP : va_P G.1 vwCl (mow G ad z fo sv d pa ke ik fa te (mesN (sf sv) (sg sv) (sc sv) (sv 6) (sv 1) (sv 0) (clo (sf sv) (sg sv) (sv 5) (sv 1) (sv 2)) aw)) H := wp_pm (pm_nil _).symm hP
      have hD : va_D A (mow G ad z fo sv d pa ke ik fa te (mesN (sf sv) (sg sv) (sc sv) (sv 6) (sv 1) (sv 0) (clo (sf sv) (sg sv) (sv 5) (sv 1) (sv 2)) aw)) := wd_pm (pm_nil _).symm hD
      subst hp147
      exact re_i (v := (oN (mawI (mesN (sf sv) (sg sv) (sc sv) (sv 6) (sv 1) (sv 0) (clo (sf sv) (sg sv) (sv 5) (sv 1) (sv 2)) aw) v (nI 1)))) hx hb hr hlocks hS () hP hD rfl dX8_node_150
    · exact absurd c20 (by decide)

set_option maxHeartbeats 4000000 in
set_option maxRecDepth 100000 in
theorem mX8_node_5 (l : Launch) (G : GG) (ad : Nat → Nat) (z : Nat → Nat) (fo : Option Nat) (sv : Nat → Nat) (d : Nat → Int32) (pa ke : Nat → Nat) (ik fa : Nat → Int32) (te aw : Nat → Nat) (v : Nat) (hB : SB sv) (ha : ∀ j, aw j ≤ 1000000) (hv : v < sv 0) : Mi l yX8_node cX8_node 3 (some .int) (rmN 2 47) G [.ref (ad 0), .int (nI v), .int (nI 5)] (mow G ad z fo sv d pa ke ik fa te aw) (fun (r9 : Int32) (_ : Unit) => r9 = (oN (mmF (sm sv) v (sv 7)))) (fun (_ : Unit) => mow G ad z fo sv d pa ke ik fa te (mesN (sf sv) (sg sv) (sc sv) (sv 6) (sv 1) (sv 0) (clo (sf sv) (sg sv) (sv 5) (sv 1) (sv 2)) aw)) := by
  refine Mi.of (cc := cX8_node) (nL := 3) (by decide) (Nat.le_of_ble_eq_true rfl) ?_
  intro p e s m below meth c A ls F hr hlocks hnm hX hA hD hP hS hl
  have F : CallFix p m c cX8_node 3 s [.ref (ad 0), .int (nI v), .int (nI 5)].toArray wA RX8 := F
  obtain ⟨hx, hb, hml, hown, hts⟩ := id F
  have hl : lv_has ls 3 [(0, .ref (ad 0)), (1, .int (nI v)), (2, .int (nI 5))] := hl
  obtain ⟨⟨b0, b1, b2, b3, b4, b5, b6, b7, b8⟩, g1, g2, g3, g4⟩ := id hB
  have gf : ∀ j, sf sv j < 10 := fun j => g1 (16 + j) (by omega)
  have gg : ∀ j, sg sv j < 10 := fun j => g1 (28 + j) (by omega)
  have gc : ∀ j, sc sv j ≤ 9 := fun j => by have := g1 (40 + j) (by omega); unfold sc; omega
  have gf7 : ∀ j, j < 12 → sf sv j < 7 := g2
  have gg7 : ∀ j, j < 12 → sg sv j < 7 := g3
  have hcl : clo (sf sv) (sg sv) (sv 5) (sv 1) (sv 2) < 1024 := clo_lt gf gg (by omega)
  have hml9 : ∀ j, (mesN (sf sv) (sg sv) (sc sv) (sv 6) (sv 1) (sv 0) (clo (sf sv) (sg sv) (sv 5) (sv 1) (sv 2)) aw) j ≤ 1000000 := mesN_le ha
  refine lv_aload_n hx hb dX8_node_0 rfl (lv_at hl 0 rfl) ?_
  refine lv_iconst (v := (nI 0)) hx hb dX8_node_1 (by decide) ?_
  refine va_put (D := G.1) (ci := 7) (v := .int (nI 0)) (ty := .int) (C := RX8) (T := TX8) (N := 17) hx hb hts inA8 tyX8 tyX8_ok nmX8 hown hX.1 hP hD hS 0 rfl rfl 0 (by decide) (hts _ kw_680) (fun _ h9 => h9) rfl (by decide +kernel) rfl rfl (Nat.le_of_ble_eq_true rfl) dX8_node_2 (fun H locs hP hD hS => ?_)
  have hP : va_P G.1 vwCl (mow G ad z fo sv d pa ke ik fa te aw) H := hP
  have hD : va_D A (mow G ad z fo sv d pa ke ik fa te aw) := hD
  refine lv_aload_n hx hb dX8_node_5 rfl (lv_at hl 0 rfl) ?_
  refine lv_iload_n hx hb dX8_node_6 rfl (lv_at hl 1 rfl) ?_
  refine ca_Vi (ci := 7) (q := (RX8, TX8, 17)) (rest := []) (wr := ([] : va_W)) F hX (mX8_isNode l G ad z fo sv d pa ke ik fa te aw (nI v) hB) (cA_V hts kw_794 kw_8 kw_791 kw_793 kp_29 hdX8_isNode ⟨Nat.le_of_ble_eq_true rfl, Nat.le_of_ble_eq_true rfl⟩) rfl rfl rfl hl.1 rfl (Nat.le_of_ble_eq_true rfl) dX8_node_7 ⟨Nat.le_of_ble_eq_true rfl, Nat.le_of_ble_eq_true rfl⟩ hP hD hS hA (pm_nil _) (fun r7 u7 H locs hp7 hP hD hS => ?_)
  have hP : va_P G.1 vwCl (mow G ad z fo sv d pa ke ik fa te aw) H := wp_pm (pm_nil _).symm hP
  have hD : va_D A (mow G ad z fo sv d pa ke ik fa te aw) := wd_pm (pm_nil _).symm hD
  subst hp7
  refine ti (y := (bI true)) (by rw [nd_in (v := v) (n := sv 0) (by omega) (by omega)]) ?_
  refine bv_eq (b := true) (tgt := 23) hx hb dX8_node_10 (by decide) (fun c10 => ?_) (fun c10 => ?_)
  · exact absurd c10 (by decide)
  · refine lv_iload_n hx hb dX8_node_13 rfl (lv_at hl 2 rfl) ?_
    refine lv_iconst (v := (nI 0)) hx hb dX8_node_14 (by decide) ?_
    refine lv_bipush (v := (nI 6)) hx hb dX8_node_15 (by decide) ?_
    refine ca_Si (rest := []) (wr := mow G ad z fo sv d pa ke ik fa te aw) F hX (mX8_in l G (nI 5) (nI 0) (nI 6)) (cA_S hts kw_738 kw_8 kw_736 kw_737 hdX8_in ⟨Nat.le_of_ble_eq_true rfl, Nat.le_of_ble_eq_true rfl⟩) rfl hl.1 rfl (Nat.le_of_ble_eq_true rfl) dX8_node_17 ⟨Nat.le_of_ble_eq_true rfl, Nat.le_of_ble_eq_true rfl⟩ hP hD hS hA (List.Perm.refl _) (fun r17 u17 H locs hp17 hP hD hS => ?_)
    have hP : va_P G.1 vwCl (mow G ad z fo sv d pa ke ik fa te aw) H := hP
    have hD : va_D A (mow G ad z fo sv d pa ke ik fa te aw) := hD
    subst hp17
    refine ti (y := (bI true)) (by decide) ?_
    refine bv_ne (b := true) (tgt := 25) hx hb dX8_node_20 (by decide) (fun c20 => ?_) (fun c20 => ?_)
    · refine lv_aload_n hx hb dX8_node_25 rfl (lv_at hl 0 rfl) ?_
      refine lv_aload_n hx hb dX8_node_26 rfl (lv_at hl 0 rfl) ?_
      refine lv_aload_n hx hb dX8_node_27 rfl (lv_at hl 0 rfl) ?_
      refine va_get (D := G.1) (ci := 7) (v := .ref (ad 1)) (C := RX8) (T := TX8) (N := 17) hx hb hts inA8 hown hX.1 hP 0 rfl rfl 1 (by decide) (hts _ kw_681) (fun _ h9 => h9) rfl dX8_node_28 ?_
      refine lv_iconst (v := (nI 5)) hx hb dX8_node_31 (by decide) ?_
      refine nv_ald (f := sv) (k := 5) hx hb hX hP 1 rfl (by omega) (by decide) dX8_node_32 ?_
      refine ca_Vi (ci := 7) (q := (RX8, TX8, 17)) (rest := [.ref (ad 0)]) (wr := ([] : va_W)) F hX (mX8_nodesOf l G ad z fo sv d pa ke ik fa te aw (sv 5) hB (by omega)) (cA_V hts kw_798 kw_8 kw_795 kw_797 kp_30 hdX8_nodesOf ⟨Nat.le_of_ble_eq_true rfl, Nat.le_of_ble_eq_true rfl⟩) rfl rfl rfl hl.1 rfl (Nat.le_of_ble_eq_true rfl) dX8_node_33 ⟨Nat.le_of_ble_eq_true rfl, Nat.le_of_ble_eq_true rfl⟩ hP hD hS hA (pm_nil _) (fun r33 u33 H locs hp33 hP hD hS => ?_)
      have hP : va_P G.1 vwCl (mow G ad z fo sv d pa ke ik fa te aw) H := wp_pm (pm_nil _).symm hP
      have hD : va_D A (mow G ad z fo sv d pa ke ik fa te aw) := wd_pm (pm_nil _).symm hD
      subst hp33
      refine ca_Vv (ci := 7) (q := (RX8, TX8, 17)) (rest := []) (wr := ([] : va_W)) F hX (mX8_measures l G ad z fo sv d pa ke ik fa te aw (clo (sf sv) (sg sv) (sv 5) (sv 1) (sv 2)) hB ha (by omega)) (cA_V hts kw_805 kw_8 kw_802 kw_804 kp_31 hdX8_measures ⟨Nat.le_of_ble_eq_true rfl, Nat.le_of_ble_eq_true rfl⟩) rfl rfl rfl hl.1 rfl (Nat.le_of_ble_eq_true rfl) dX8_node_36 ⟨Nat.le_of_ble_eq_true rfl, Nat.le_of_ble_eq_true rfl⟩ hP hD hS hA (pm_nil _) (fun u36 H locs hp36 hP hD hS => ?_)
      have hP : va_P G.1 vwCl (mow G ad z fo sv d pa ke ik fa te (mesN (sf sv) (sg sv) (sc sv) (sv 6) (sv 1) (sv 0) (clo (sf sv) (sg sv) (sv 5) (sv 1) (sv 2)) aw)) H := wp_pm (pm_nil _).symm hP
      have hD : va_D A (mow G ad z fo sv d pa ke ik fa te (mesN (sf sv) (sg sv) (sc sv) (sv 6) (sv 1) (sv 0) (clo (sf sv) (sg sv) (sv 5) (sv 1) (sv 2)) aw)) := wd_pm (pm_nil _).symm hD
      refine lv_iload_n hx hb dX8_node_39 rfl (lv_at hl 2 rfl) ?_
      refine lv_tableIn (off := 90) (tgt := 130) hx hb dX8_node_40 (by decide) (by decide) (by decide +kernel) (by decide) ?_
      refine lv_aload_n hx hb dX8_node_130 rfl (lv_at hl 0 rfl) ?_
      refine lv_iload_n hx hb dX8_node_131 rfl (lv_at hl 1 rfl) ?_
      refine ca_Vi (ci := 7) (q := (RX8, TX8, 17)) (rest := []) (wr := ([] : va_W)) F hX (mX8_markOf l G ad z fo sv d pa ke ik fa te (mesN (sf sv) (sg sv) (sc sv) (sv 6) (sv 1) (sv 0) (clo (sf sv) (sg sv) (sv 5) (sv 1) (sv 2)) aw) v hB (by omega)) (cA_V hts kw_826 kw_8 kw_823 kw_825 kp_36 hdX8_markOf ⟨Nat.le_of_ble_eq_true rfl, Nat.le_of_ble_eq_true rfl⟩) rfl rfl rfl hl.1 rfl (Nat.le_of_ble_eq_true rfl) dX8_node_132 ⟨Nat.le_of_ble_eq_true rfl, Nat.le_of_ble_eq_true rfl⟩ hP hD hS hA (pm_nil _) (fun r132 u132 H locs hp132 hP hD hS => ?_)
      have hP : va_P G.1 vwCl (mow G ad z fo sv d pa ke ik fa te (mesN (sf sv) (sg sv) (sc sv) (sv 6) (sv 1) (sv 0) (clo (sf sv) (sg sv) (sv 5) (sv 1) (sv 2)) aw)) H := wp_pm (pm_nil _).symm hP
      have hD : va_D A (mow G ad z fo sv d pa ke ik fa te (mesN (sf sv) (sg sv) (sc sv) (sv 6) (sv 1) (sv 0) (clo (sf sv) (sg sv) (sv 5) (sv 1) (sv 2)) aw)) := wd_pm (pm_nil _).symm hD
      subst hp132
      exact re_i (v := (oN (mmF (sm sv) v (sv 7)))) hx hb hr hlocks hS () hP hD rfl dX8_node_135
    · exact absurd c20 (by decide)

set_option maxHeartbeats 4000000 in
set_option maxRecDepth 100000 in
theorem mX8_node_6 (l : Launch) (G : GG) (ad : Nat → Nat) (z : Nat → Nat) (fo : Option Nat) (sv : Nat → Nat) (d : Nat → Int32) (pa ke : Nat → Nat) (ik fa : Nat → Int32) (te aw : Nat → Nat) (v : Nat) (hB : SB sv) (ha : ∀ j, aw j ≤ 1000000) (hv : v < sv 0) : Mi l yX8_node cX8_node 3 (some .int) (rmN 2 47) G [.ref (ad 0), .int (nI v), .int (nI 6)] (mow G ad z fo sv d pa ke ik fa te aw) (fun (r9 : Int32) (_ : Unit) => r9 = (nI (mlaN (sf sv) (sg sv) (sv 5) v (sv 1)))) (fun (_ : Unit) => mow G ad z fo sv d pa ke ik fa te (mesN (sf sv) (sg sv) (sc sv) (sv 6) (sv 1) (sv 0) (clo (sf sv) (sg sv) (sv 5) (sv 1) (sv 2)) aw)) := by
  refine Mi.of (cc := cX8_node) (nL := 3) (by decide) (Nat.le_of_ble_eq_true rfl) ?_
  intro p e s m below meth c A ls F hr hlocks hnm hX hA hD hP hS hl
  have F : CallFix p m c cX8_node 3 s [.ref (ad 0), .int (nI v), .int (nI 6)].toArray wA RX8 := F
  obtain ⟨hx, hb, hml, hown, hts⟩ := id F
  have hl : lv_has ls 3 [(0, .ref (ad 0)), (1, .int (nI v)), (2, .int (nI 6))] := hl
  obtain ⟨⟨b0, b1, b2, b3, b4, b5, b6, b7, b8⟩, g1, g2, g3, g4⟩ := id hB
  have gf : ∀ j, sf sv j < 10 := fun j => g1 (16 + j) (by omega)
  have gg : ∀ j, sg sv j < 10 := fun j => g1 (28 + j) (by omega)
  have gc : ∀ j, sc sv j ≤ 9 := fun j => by have := g1 (40 + j) (by omega); unfold sc; omega
  have gf7 : ∀ j, j < 12 → sf sv j < 7 := g2
  have gg7 : ∀ j, j < 12 → sg sv j < 7 := g3
  have hcl : clo (sf sv) (sg sv) (sv 5) (sv 1) (sv 2) < 1024 := clo_lt gf gg (by omega)
  have hml9 : ∀ j, (mesN (sf sv) (sg sv) (sc sv) (sv 6) (sv 1) (sv 0) (clo (sf sv) (sg sv) (sv 5) (sv 1) (sv 2)) aw) j ≤ 1000000 := mesN_le ha
  refine lv_aload_n hx hb dX8_node_0 rfl (lv_at hl 0 rfl) ?_
  refine lv_iconst (v := (nI 0)) hx hb dX8_node_1 (by decide) ?_
  refine va_put (D := G.1) (ci := 7) (v := .int (nI 0)) (ty := .int) (C := RX8) (T := TX8) (N := 17) hx hb hts inA8 tyX8 tyX8_ok nmX8 hown hX.1 hP hD hS 0 rfl rfl 0 (by decide) (hts _ kw_680) (fun _ h9 => h9) rfl (by decide +kernel) rfl rfl (Nat.le_of_ble_eq_true rfl) dX8_node_2 (fun H locs hP hD hS => ?_)
  have hP : va_P G.1 vwCl (mow G ad z fo sv d pa ke ik fa te aw) H := hP
  have hD : va_D A (mow G ad z fo sv d pa ke ik fa te aw) := hD
  refine lv_aload_n hx hb dX8_node_5 rfl (lv_at hl 0 rfl) ?_
  refine lv_iload_n hx hb dX8_node_6 rfl (lv_at hl 1 rfl) ?_
  refine ca_Vi (ci := 7) (q := (RX8, TX8, 17)) (rest := []) (wr := ([] : va_W)) F hX (mX8_isNode l G ad z fo sv d pa ke ik fa te aw (nI v) hB) (cA_V hts kw_794 kw_8 kw_791 kw_793 kp_29 hdX8_isNode ⟨Nat.le_of_ble_eq_true rfl, Nat.le_of_ble_eq_true rfl⟩) rfl rfl rfl hl.1 rfl (Nat.le_of_ble_eq_true rfl) dX8_node_7 ⟨Nat.le_of_ble_eq_true rfl, Nat.le_of_ble_eq_true rfl⟩ hP hD hS hA (pm_nil _) (fun r7 u7 H locs hp7 hP hD hS => ?_)
  have hP : va_P G.1 vwCl (mow G ad z fo sv d pa ke ik fa te aw) H := wp_pm (pm_nil _).symm hP
  have hD : va_D A (mow G ad z fo sv d pa ke ik fa te aw) := wd_pm (pm_nil _).symm hD
  subst hp7
  refine ti (y := (bI true)) (by rw [nd_in (v := v) (n := sv 0) (by omega) (by omega)]) ?_
  refine bv_eq (b := true) (tgt := 23) hx hb dX8_node_10 (by decide) (fun c10 => ?_) (fun c10 => ?_)
  · exact absurd c10 (by decide)
  · refine lv_iload_n hx hb dX8_node_13 rfl (lv_at hl 2 rfl) ?_
    refine lv_iconst (v := (nI 0)) hx hb dX8_node_14 (by decide) ?_
    refine lv_bipush (v := (nI 6)) hx hb dX8_node_15 (by decide) ?_
    refine ca_Si (rest := []) (wr := mow G ad z fo sv d pa ke ik fa te aw) F hX (mX8_in l G (nI 6) (nI 0) (nI 6)) (cA_S hts kw_738 kw_8 kw_736 kw_737 hdX8_in ⟨Nat.le_of_ble_eq_true rfl, Nat.le_of_ble_eq_true rfl⟩) rfl hl.1 rfl (Nat.le_of_ble_eq_true rfl) dX8_node_17 ⟨Nat.le_of_ble_eq_true rfl, Nat.le_of_ble_eq_true rfl⟩ hP hD hS hA (List.Perm.refl _) (fun r17 u17 H locs hp17 hP hD hS => ?_)
    have hP : va_P G.1 vwCl (mow G ad z fo sv d pa ke ik fa te aw) H := hP
    have hD : va_D A (mow G ad z fo sv d pa ke ik fa te aw) := hD
    subst hp17
    refine ti (y := (bI true)) (by decide) ?_
    refine bv_ne (b := true) (tgt := 25) hx hb dX8_node_20 (by decide) (fun c20 => ?_) (fun c20 => ?_)
    · refine lv_aload_n hx hb dX8_node_25 rfl (lv_at hl 0 rfl) ?_
      refine lv_aload_n hx hb dX8_node_26 rfl (lv_at hl 0 rfl) ?_
      refine lv_aload_n hx hb dX8_node_27 rfl (lv_at hl 0 rfl) ?_
      refine va_get (D := G.1) (ci := 7) (v := .ref (ad 1)) (C := RX8) (T := TX8) (N := 17) hx hb hts inA8 hown hX.1 hP 0 rfl rfl 1 (by decide) (hts _ kw_681) (fun _ h9 => h9) rfl dX8_node_28 ?_
      refine lv_iconst (v := (nI 5)) hx hb dX8_node_31 (by decide) ?_
      refine nv_ald (f := sv) (k := 5) hx hb hX hP 1 rfl (by omega) (by decide) dX8_node_32 ?_
      refine ca_Vi (ci := 7) (q := (RX8, TX8, 17)) (rest := [.ref (ad 0)]) (wr := ([] : va_W)) F hX (mX8_nodesOf l G ad z fo sv d pa ke ik fa te aw (sv 5) hB (by omega)) (cA_V hts kw_798 kw_8 kw_795 kw_797 kp_30 hdX8_nodesOf ⟨Nat.le_of_ble_eq_true rfl, Nat.le_of_ble_eq_true rfl⟩) rfl rfl rfl hl.1 rfl (Nat.le_of_ble_eq_true rfl) dX8_node_33 ⟨Nat.le_of_ble_eq_true rfl, Nat.le_of_ble_eq_true rfl⟩ hP hD hS hA (pm_nil _) (fun r33 u33 H locs hp33 hP hD hS => ?_)
      have hP : va_P G.1 vwCl (mow G ad z fo sv d pa ke ik fa te aw) H := wp_pm (pm_nil _).symm hP
      have hD : va_D A (mow G ad z fo sv d pa ke ik fa te aw) := wd_pm (pm_nil _).symm hD
      subst hp33
      refine ca_Vv (ci := 7) (q := (RX8, TX8, 17)) (rest := []) (wr := ([] : va_W)) F hX (mX8_measures l G ad z fo sv d pa ke ik fa te aw (clo (sf sv) (sg sv) (sv 5) (sv 1) (sv 2)) hB ha (by omega)) (cA_V hts kw_805 kw_8 kw_802 kw_804 kp_31 hdX8_measures ⟨Nat.le_of_ble_eq_true rfl, Nat.le_of_ble_eq_true rfl⟩) rfl rfl rfl hl.1 rfl (Nat.le_of_ble_eq_true rfl) dX8_node_36 ⟨Nat.le_of_ble_eq_true rfl, Nat.le_of_ble_eq_true rfl⟩ hP hD hS hA (pm_nil _) (fun u36 H locs hp36 hP hD hS => ?_)
      have hP : va_P G.1 vwCl (mow G ad z fo sv d pa ke ik fa te (mesN (sf sv) (sg sv) (sc sv) (sv 6) (sv 1) (sv 0) (clo (sf sv) (sg sv) (sv 5) (sv 1) (sv 2)) aw)) H := wp_pm (pm_nil _).symm hP
      have hD : va_D A (mow G ad z fo sv d pa ke ik fa te (mesN (sf sv) (sg sv) (sc sv) (sv 6) (sv 1) (sv 0) (clo (sf sv) (sg sv) (sv 5) (sv 1) (sv 2)) aw)) := wd_pm (pm_nil _).symm hD
      refine lv_iload_n hx hb dX8_node_39 rfl (lv_at hl 2 rfl) ?_
      refine lv_tableIn (off := 96) (tgt := 136) hx hb dX8_node_40 (by decide) (by decide) (by decide +kernel) (by decide) ?_
      refine lv_aload_n hx hb dX8_node_136 rfl (lv_at hl 0 rfl) ?_
      refine lv_iload_n hx hb dX8_node_137 rfl (lv_at hl 1 rfl) ?_
      refine ca_Vi (ci := 7) (q := (RX8, TX8, 17)) (rest := []) (wr := ([] : va_W)) F hX (mX8_linksAt l G ad z fo sv d pa ke ik fa te (mesN (sf sv) (sg sv) (sc sv) (sv 6) (sv 1) (sv 0) (clo (sf sv) (sg sv) (sv 5) (sv 1) (sv 2)) aw) v hB (by omega)) (cA_V hts kw_897 kw_8 kw_894 kw_896 kp_45 hdX8_linksAt ⟨Nat.le_of_ble_eq_true rfl, Nat.le_of_ble_eq_true rfl⟩) rfl rfl rfl hl.1 rfl (Nat.le_of_ble_eq_true rfl) dX8_node_138 ⟨Nat.le_of_ble_eq_true rfl, Nat.le_of_ble_eq_true rfl⟩ hP hD hS hA (pm_nil _) (fun r138 u138 H locs hp138 hP hD hS => ?_)
      have hP : va_P G.1 vwCl (mow G ad z fo sv d pa ke ik fa te (mesN (sf sv) (sg sv) (sc sv) (sv 6) (sv 1) (sv 0) (clo (sf sv) (sg sv) (sv 5) (sv 1) (sv 2)) aw)) H := wp_pm (pm_nil _).symm hP
      have hD : va_D A (mow G ad z fo sv d pa ke ik fa te (mesN (sf sv) (sg sv) (sc sv) (sv 6) (sv 1) (sv 0) (clo (sf sv) (sg sv) (sv 5) (sv 1) (sv 2)) aw)) := wd_pm (pm_nil _).symm hD
      subst hp138
      exact re_i (v := (nI (mlaN (sf sv) (sg sv) (sv 5) v (sv 1)))) hx hb hr hlocks hS () hP hD rfl dX8_node_141
    · exact absurd c20 (by decide)

theorem hdX8_way : hdOK yX8_way 2 := by decide +kernel
set_option maxHeartbeats 4000000 in
set_option maxRecDepth 100000 in
theorem mX8_way_bad (l : Launch) (G : GG) (ad : Nat → Nat) (z : Nat → Nat) (fo : Option Nat) (sv : Nat → Nat) (d : Nat → Int32) (pa ke : Nat → Nat) (ik fa : Nat → Int32) (te aw : Nat → Nat) (x y : Int32) (hB : SB sv) (hk : ¬ (0 ≤ x.toInt ∧ x.toInt < sv 0)) : Mi l yX8_way cX8_way 5 (some .int) (rmN 2 43) G [.ref (ad 0), .int x, .int y] (mow G ad z fo sv d pa ke ik fa te aw) (fun (r9 : Int32) (_ : Unit) => r9 = (-1)) (fun (_ : Unit) => mow G ad z fo sv d pa ke ik fa te aw) := by
  refine Mi.of (cc := cX8_way) (nL := 5) (by decide) (Nat.le_of_ble_eq_true rfl) ?_
  intro p e s m below meth c A ls F hr hlocks hnm hX hA hD hP hS hl
  have F : CallFix p m c cX8_way 5 s [.ref (ad 0), .int x, .int y].toArray wA RX8 := F
  obtain ⟨hx, hb, hml, hown, hts⟩ := id F
  have hl : lv_has ls 5 [(0, .ref (ad 0)), (1, .int x), (2, .int y)] := hl
  obtain ⟨⟨b0, b1, b2, b3, b4, b5, b6, b7, b8⟩, g1, g2, g3, g4⟩ := id hB
  have gf : ∀ j, sf sv j < 10 := fun j => g1 (16 + j) (by omega)
  have gg : ∀ j, sg sv j < 10 := fun j => g1 (28 + j) (by omega)
  have gc : ∀ j, sc sv j ≤ 9 := fun j => by have := g1 (40 + j) (by omega); unfold sc; omega
  have gf7 : ∀ j, j < 12 → sf sv j < 7 := g2
  have gg7 : ∀ j, j < 12 → sg sv j < 7 := g3
  refine lv_aload_n hx hb dX8_way_0 rfl (lv_at hl 0 rfl) ?_
  refine lv_iconst (v := (nI 0)) hx hb dX8_way_1 (by decide) ?_
  refine va_put (D := G.1) (ci := 7) (v := .int (nI 0)) (ty := .int) (C := RX8) (T := TX8) (N := 17) hx hb hts inA8 tyX8 tyX8_ok nmX8 hown hX.1 hP hD hS 0 rfl rfl 0 (by decide) (hts _ kw_680) (fun _ h9 => h9) rfl (by decide +kernel) rfl rfl (Nat.le_of_ble_eq_true rfl) dX8_way_2 (fun H locs hP hD hS => ?_)
  have hP : va_P G.1 vwCl (mow G ad z fo sv d pa ke ik fa te aw) H := hP
  have hD : va_D A (mow G ad z fo sv d pa ke ik fa te aw) := hD
  refine lv_aload_n hx hb dX8_way_5 rfl (lv_at hl 0 rfl) ?_
  refine lv_iload_n hx hb dX8_way_6 rfl (lv_at hl 1 rfl) ?_
  refine ca_Vi (ci := 7) (q := (RX8, TX8, 17)) (rest := []) (wr := ([] : va_W)) F hX (mX8_isNode l G ad z fo sv d pa ke ik fa te aw x hB) (cA_V hts kw_794 kw_8 kw_791 kw_793 kp_29 hdX8_isNode ⟨Nat.le_of_ble_eq_true rfl, Nat.le_of_ble_eq_true rfl⟩) rfl rfl rfl hl.1 rfl (Nat.le_of_ble_eq_true rfl) dX8_way_7 ⟨Nat.le_of_ble_eq_true rfl, Nat.le_of_ble_eq_true rfl⟩ hP hD hS hA (pm_nil _) (fun r7 u7 H locs hp7 hP hD hS => ?_)
  have hP : va_P G.1 vwCl (mow G ad z fo sv d pa ke ik fa te aw) H := wp_pm (pm_nil _).symm hP
  have hD : va_D A (mow G ad z fo sv d pa ke ik fa te aw) := wd_pm (pm_nil _).symm hD
  subst hp7
  refine bv_eq (b := decide (0 ≤ (x).toInt ∧ (x).toInt < sv 0)) (tgt := 17) hx hb dX8_way_10 (by decide) (fun c10 => ?_) (fun c10 => ?_)
  · refine lv_iconst (v := (-1)) hx hb dX8_way_17 (by decide) ?_
    exact re_i (v := (-1)) hx hb hr hlocks hS () hP hD rfl dX8_way_18
  · exact absurd (of_decide_eq_true c10) hk

set_option maxHeartbeats 4000000 in
set_option maxRecDepth 100000 in
theorem mX8_way_badw (l : Launch) (G : GG) (ad : Nat → Nat) (z : Nat → Nat) (fo : Option Nat) (sv : Nat → Nat) (d : Nat → Int32) (pa ke : Nat → Nat) (ik fa : Nat → Int32) (te aw : Nat → Nat) (v : Nat) (y : Int32) (hB : SB sv) (hv : v < sv 0) (hy : y < 0) : Mi l yX8_way cX8_way 5 (some .int) (rmN 2 43) G [.ref (ad 0), .int (nI v), .int y] (mow G ad z fo sv d pa ke ik fa te aw) (fun (r9 : Int32) (_ : Unit) => r9 = (-1)) (fun (_ : Unit) => mow G ad z fo sv d pa ke ik fa te aw) := by
  refine Mi.of (cc := cX8_way) (nL := 5) (by decide) (Nat.le_of_ble_eq_true rfl) ?_
  intro p e s m below meth c A ls F hr hlocks hnm hX hA hD hP hS hl
  have F : CallFix p m c cX8_way 5 s [.ref (ad 0), .int (nI v), .int y].toArray wA RX8 := F
  obtain ⟨hx, hb, hml, hown, hts⟩ := id F
  have hl : lv_has ls 5 [(0, .ref (ad 0)), (1, .int (nI v)), (2, .int y)] := hl
  obtain ⟨⟨b0, b1, b2, b3, b4, b5, b6, b7, b8⟩, g1, g2, g3, g4⟩ := id hB
  have gf : ∀ j, sf sv j < 10 := fun j => g1 (16 + j) (by omega)
  have gg : ∀ j, sg sv j < 10 := fun j => g1 (28 + j) (by omega)
  have gc : ∀ j, sc sv j ≤ 9 := fun j => by have := g1 (40 + j) (by omega); unfold sc; omega
  have gf7 : ∀ j, j < 12 → sf sv j < 7 := g2
  have gg7 : ∀ j, j < 12 → sg sv j < 7 := g3
  refine lv_aload_n hx hb dX8_way_0 rfl (lv_at hl 0 rfl) ?_
  refine lv_iconst (v := (nI 0)) hx hb dX8_way_1 (by decide) ?_
  refine va_put (D := G.1) (ci := 7) (v := .int (nI 0)) (ty := .int) (C := RX8) (T := TX8) (N := 17) hx hb hts inA8 tyX8 tyX8_ok nmX8 hown hX.1 hP hD hS 0 rfl rfl 0 (by decide) (hts _ kw_680) (fun _ h9 => h9) rfl (by decide +kernel) rfl rfl (Nat.le_of_ble_eq_true rfl) dX8_way_2 (fun H locs hP hD hS => ?_)
  have hP : va_P G.1 vwCl (mow G ad z fo sv d pa ke ik fa te aw) H := hP
  have hD : va_D A (mow G ad z fo sv d pa ke ik fa te aw) := hD
  refine lv_aload_n hx hb dX8_way_5 rfl (lv_at hl 0 rfl) ?_
  refine lv_iload_n hx hb dX8_way_6 rfl (lv_at hl 1 rfl) ?_
  refine ca_Vi (ci := 7) (q := (RX8, TX8, 17)) (rest := []) (wr := ([] : va_W)) F hX (mX8_isNode l G ad z fo sv d pa ke ik fa te aw (nI v) hB) (cA_V hts kw_794 kw_8 kw_791 kw_793 kp_29 hdX8_isNode ⟨Nat.le_of_ble_eq_true rfl, Nat.le_of_ble_eq_true rfl⟩) rfl rfl rfl hl.1 rfl (Nat.le_of_ble_eq_true rfl) dX8_way_7 ⟨Nat.le_of_ble_eq_true rfl, Nat.le_of_ble_eq_true rfl⟩ hP hD hS hA (pm_nil _) (fun r7 u7 H locs hp7 hP hD hS => ?_)
  have hP : va_P G.1 vwCl (mow G ad z fo sv d pa ke ik fa te aw) H := wp_pm (pm_nil _).symm hP
  have hD : va_D A (mow G ad z fo sv d pa ke ik fa te aw) := wd_pm (pm_nil _).symm hD
  subst hp7
  refine ti (y := (bI true)) (by rw [nd_in (v := v) (n := sv 0) (by omega) (by omega)]) ?_
  refine bv_eq (b := true) (tgt := 17) hx hb dX8_way_10 (by decide) (fun c10 => ?_) (fun c10 => ?_)
  · exact absurd c10 (by decide)
  · refine lv_iload_n hx hb dX8_way_13 rfl (lv_at hl 2 rfl) ?_
    refine lv_if_ge (x := y) (tgt := 19) hx hb dX8_way_14 (by decide) (fun c14 => ?_) (fun c14 => ?_)
    · exact absurd hy (Int32.not_lt.mpr c14)
    · refine lv_iconst (v := (-1)) hx hb dX8_way_17 (by decide) ?_
      exact re_i (v := (-1)) hx hb hr hlocks hS () hP hD rfl dX8_way_18

set_option maxHeartbeats 4000000 in
set_option maxRecDepth 100000 in
theorem mX8_way_none (l : Launch) (G : GG) (ad : Nat → Nat) (z : Nat → Nat) (fo : Option Nat) (sv : Nat → Nat) (d : Nat → Int32) (pa ke : Nat → Nat) (ik fa : Nat → Int32) (te aw : Nat → Nat) (v i : Nat) (hB : SB sv) (ha : ∀ j, aw j ≤ 1000000) (hv : v < sv 0) (hi : i < 2 ^ 31) (hno : 1000000 ≤ (mesN (sf sv) (sg sv) (sc sv) (sv 6) (sv 1) (sv 0) (clo (sf sv) (sg sv) (sv 5) (sv 1) (sv 2)) aw) v ∨ (mesN (sf sv) (sg sv) (sc sv) (sv 6) (sv 1) (sv 0) (clo (sf sv) (sg sv) (sv 5) (sv 1) (sv 2)) aw) v % 16 ≤ i) : Mi l yX8_way cX8_way 5 (some .int) (rmN 2 47) G [.ref (ad 0), .int (nI v), .int (nI i)] (mow G ad z fo sv d pa ke ik fa te aw) (fun (r9 : Int32) (_ : Unit) => r9 = (-9)) (fun (_ : Unit) => mow G ad z fo sv d pa ke ik fa te (mesN (sf sv) (sg sv) (sc sv) (sv 6) (sv 1) (sv 0) (clo (sf sv) (sg sv) (sv 5) (sv 1) (sv 2)) aw)) := by
  refine Mi.of (cc := cX8_way) (nL := 5) (by decide) (Nat.le_of_ble_eq_true rfl) ?_
  intro p e s m below meth c A ls F hr hlocks hnm hX hA hD hP hS hl
  have F : CallFix p m c cX8_way 5 s [.ref (ad 0), .int (nI v), .int (nI i)].toArray wA RX8 := F
  obtain ⟨hx, hb, hml, hown, hts⟩ := id F
  have hl : lv_has ls 5 [(0, .ref (ad 0)), (1, .int (nI v)), (2, .int (nI i))] := hl
  obtain ⟨⟨b0, b1, b2, b3, b4, b5, b6, b7, b8⟩, g1, g2, g3, g4⟩ := id hB
  have gf : ∀ j, sf sv j < 10 := fun j => g1 (16 + j) (by omega)
  have gg : ∀ j, sg sv j < 10 := fun j => g1 (28 + j) (by omega)
  have gc : ∀ j, sc sv j ≤ 9 := fun j => by have := g1 (40 + j) (by omega); unfold sc; omega
  have gf7 : ∀ j, j < 12 → sf sv j < 7 := g2
  have gg7 : ∀ j, j < 12 → sg sv j < 7 := g3
  have hcl : clo (sf sv) (sg sv) (sv 5) (sv 1) (sv 2) < 1024 := clo_lt gf gg (by omega)
  have hml9 : ∀ j, (mesN (sf sv) (sg sv) (sc sv) (sv 6) (sv 1) (sv 0) (clo (sf sv) (sg sv) (sv 5) (sv 1) (sv 2)) aw) j ≤ 1000000 := mesN_le ha
  refine lv_aload_n hx hb dX8_way_0 rfl (lv_at hl 0 rfl) ?_
  refine lv_iconst (v := (nI 0)) hx hb dX8_way_1 (by decide) ?_
  refine va_put (D := G.1) (ci := 7) (v := .int (nI 0)) (ty := .int) (C := RX8) (T := TX8) (N := 17) hx hb hts inA8 tyX8 tyX8_ok nmX8 hown hX.1 hP hD hS 0 rfl rfl 0 (by decide) (hts _ kw_680) (fun _ h9 => h9) rfl (by decide +kernel) rfl rfl (Nat.le_of_ble_eq_true rfl) dX8_way_2 (fun H locs hP hD hS => ?_)
  have hP : va_P G.1 vwCl (mow G ad z fo sv d pa ke ik fa te aw) H := hP
  have hD : va_D A (mow G ad z fo sv d pa ke ik fa te aw) := hD
  refine lv_aload_n hx hb dX8_way_5 rfl (lv_at hl 0 rfl) ?_
  refine lv_iload_n hx hb dX8_way_6 rfl (lv_at hl 1 rfl) ?_
  refine ca_Vi (ci := 7) (q := (RX8, TX8, 17)) (rest := []) (wr := ([] : va_W)) F hX (mX8_isNode l G ad z fo sv d pa ke ik fa te aw (nI v) hB) (cA_V hts kw_794 kw_8 kw_791 kw_793 kp_29 hdX8_isNode ⟨Nat.le_of_ble_eq_true rfl, Nat.le_of_ble_eq_true rfl⟩) rfl rfl rfl hl.1 rfl (Nat.le_of_ble_eq_true rfl) dX8_way_7 ⟨Nat.le_of_ble_eq_true rfl, Nat.le_of_ble_eq_true rfl⟩ hP hD hS hA (pm_nil _) (fun r7 u7 H locs hp7 hP hD hS => ?_)
  have hP : va_P G.1 vwCl (mow G ad z fo sv d pa ke ik fa te aw) H := wp_pm (pm_nil _).symm hP
  have hD : va_D A (mow G ad z fo sv d pa ke ik fa te aw) := wd_pm (pm_nil _).symm hD
  subst hp7
  refine ti (y := (bI true)) (by rw [nd_in (v := v) (n := sv 0) (by omega) (by omega)]) ?_
  refine bv_eq (b := true) (tgt := 17) hx hb dX8_way_10 (by decide) (fun c10 => ?_) (fun c10 => ?_)
  · exact absurd c10 (by decide)
  · refine lv_iload_n hx hb dX8_way_13 rfl (lv_at hl 2 rfl) ?_
    refine nv_zge (x := i) (tgt := 19) hx hb dX8_way_14 (by decide) (by omega) ?_
    refine lv_aload_n hx hb dX8_way_19 rfl (lv_at hl 0 rfl) ?_
    refine lv_aload_n hx hb dX8_way_20 rfl (lv_at hl 0 rfl) ?_
    refine lv_aload_n hx hb dX8_way_21 rfl (lv_at hl 0 rfl) ?_
    refine va_get (D := G.1) (ci := 7) (v := .ref (ad 1)) (C := RX8) (T := TX8) (N := 17) hx hb hts inA8 hown hX.1 hP 0 rfl rfl 1 (by decide) (hts _ kw_681) (fun _ h9 => h9) rfl dX8_way_22 ?_
    refine lv_iconst (v := (nI 5)) hx hb dX8_way_25 (by decide) ?_
    refine nv_ald (f := sv) (k := 5) hx hb hX hP 1 rfl (by omega) (by decide) dX8_way_26 ?_
    refine ca_Vi (ci := 7) (q := (RX8, TX8, 17)) (rest := [.ref (ad 0)]) (wr := ([] : va_W)) F hX (mX8_nodesOf l G ad z fo sv d pa ke ik fa te aw (sv 5) hB (by omega)) (cA_V hts kw_798 kw_8 kw_795 kw_797 kp_30 hdX8_nodesOf ⟨Nat.le_of_ble_eq_true rfl, Nat.le_of_ble_eq_true rfl⟩) rfl rfl rfl hl.1 rfl (Nat.le_of_ble_eq_true rfl) dX8_way_27 ⟨Nat.le_of_ble_eq_true rfl, Nat.le_of_ble_eq_true rfl⟩ hP hD hS hA (pm_nil _) (fun r27 u27 H locs hp27 hP hD hS => ?_)
    have hP : va_P G.1 vwCl (mow G ad z fo sv d pa ke ik fa te aw) H := wp_pm (pm_nil _).symm hP
    have hD : va_D A (mow G ad z fo sv d pa ke ik fa te aw) := wd_pm (pm_nil _).symm hD
    subst hp27
    refine ca_Vv (ci := 7) (q := (RX8, TX8, 17)) (rest := []) (wr := ([] : va_W)) F hX (mX8_measures l G ad z fo sv d pa ke ik fa te aw (clo (sf sv) (sg sv) (sv 5) (sv 1) (sv 2)) hB ha (by omega)) (cA_V hts kw_805 kw_8 kw_802 kw_804 kp_31 hdX8_measures ⟨Nat.le_of_ble_eq_true rfl, Nat.le_of_ble_eq_true rfl⟩) rfl rfl rfl hl.1 rfl (Nat.le_of_ble_eq_true rfl) dX8_way_30 ⟨Nat.le_of_ble_eq_true rfl, Nat.le_of_ble_eq_true rfl⟩ hP hD hS hA (pm_nil _) (fun u30 H locs hp30 hP hD hS => ?_)
    have hP : va_P G.1 vwCl (mow G ad z fo sv d pa ke ik fa te (mesN (sf sv) (sg sv) (sc sv) (sv 6) (sv 1) (sv 0) (clo (sf sv) (sg sv) (sv 5) (sv 1) (sv 2)) aw)) H := wp_pm (pm_nil _).symm hP
    have hD : va_D A (mow G ad z fo sv d pa ke ik fa te (mesN (sf sv) (sg sv) (sc sv) (sv 6) (sv 1) (sv 0) (clo (sf sv) (sg sv) (sv 5) (sv 1) (sv 2)) aw)) := wd_pm (pm_nil _).symm hD
    refine lv_aload_n hx hb dX8_way_33 rfl (lv_at hl 0 rfl) ?_
    refine va_get (D := G.1) (ci := 7) (v := .ref (ad 8)) (C := RX8) (T := TX8) (N := 17) hx hb hts inA8 hown hX.1 hP 0 rfl rfl 15 (by decide) (hts _ kw_695) (fun _ h9 => h9) rfl dX8_way_34 ?_
    refine lv_iload_n hx hb dX8_way_37 rfl (lv_at hl 1 rfl) ?_
    refine nv_ald (f := mesN (sf sv) (sg sv) (sc sv) (sv 6) (sv 1) (sv 0) (clo (sf sv) (sg sv) (sv 5) (sv 1) (sv 2)) aw) (k := v) hx hb hX hP 8 rfl (by omega) (by decide) dX8_way_38 ?_
    refine lv_ldc (v := (nI 1000000)) hx hb hown (hts _ kw_806) dX8_way_39 ?_
    refine nv_ge (x := (mesN (sf sv) (sg sv) (sc sv) (sv 6) (sv 1) (sv 0) (clo (sf sv) (sg sv) (sv 5) (sv 1) (sv 2)) aw) v) (y := 1000000) (tgt := 57) hx hb dX8_way_41 (by decide) (by have := hml9 v; omega) (by decide) (fun c41 => ?_) (fun c41 => ?_)
    · refine lv_bipush (v := (-9)) hx hb dX8_way_57 (by decide) ?_
      exact re_i (v := (-9)) hx hb hr hlocks hS () hP hD rfl dX8_way_59
    · refine lv_iload_n hx hb dX8_way_44 rfl (lv_at hl 2 rfl) ?_
      refine lv_aload_n hx hb dX8_way_45 rfl (lv_at hl 0 rfl) ?_
      refine va_get (D := G.1) (ci := 7) (v := .ref (ad 8)) (C := RX8) (T := TX8) (N := 17) hx hb hts inA8 hown hX.1 hP 0 rfl rfl 15 (by decide) (hts _ kw_695) (fun _ h9 => h9) rfl dX8_way_46 ?_
      refine lv_iload_n hx hb dX8_way_49 rfl (lv_at hl 1 rfl) ?_
      refine nv_ald (f := mesN (sf sv) (sg sv) (sc sv) (sv 6) (sv 1) (sv 0) (clo (sf sv) (sg sv) (sv 5) (sv 1) (sv 2)) aw) (k := v) hx hb hX hP 8 rfl (by omega) (by decide) dX8_way_50 ?_
      refine lv_bipush (v := (nI 16)) hx hb dX8_way_51 (by decide) ?_
      refine lv_irem hx hb dX8_way_53 (by decide) (ti (y := (nI (((mesN (sf sv) (sg sv) (sc sv) (sv 6) (sv 1) (sv 0) (clo (sf sv) (sg sv) (sv 5) (sv 1) (sv 2)) aw) v) % 16))) (pk_rem (by have := hml9 v; omega) (by decide) (by decide)) ?_)
      refine nv_lt (x := i) (y := ((mesN (sf sv) (sg sv) (sc sv) (sv 6) (sv 1) (sv 0) (clo (sf sv) (sg sv) (sv 5) (sv 1) (sv 2)) aw) v) % 16) (tgt := 60) hx hb dX8_way_54 (by decide) hi (by omega) (fun c54 => ?_) (fun c54 => ?_)
      · exact hno.elim (fun h => absurd h (Nat.not_le.mpr c41)) (fun h => absurd h (Nat.not_le.mpr c54))
      · refine lv_bipush (v := (-9)) hx hb dX8_way_57 (by decide) ?_
        exact re_i (v := (-9)) hx hb hr hlocks hS () hP hD rfl dX8_way_59

set_option maxHeartbeats 4000000 in
set_option maxRecDepth 100000 in
theorem mX8_way_ok (l : Launch) (G : GG) (ad : Nat → Nat) (z : Nat → Nat) (fo : Option Nat) (sv : Nat → Nat) (d : Nat → Int32) (pa ke : Nat → Nat) (ik fa : Nat → Int32) (te aw : Nat → Nat) (v i : Nat) (hB : SB sv) (ha : ∀ j, aw j ≤ 1000000) (hv : v < sv 0) (hi : i < 2 ^ 31) (h3 : (mesN (sf sv) (sg sv) (sc sv) (sv 6) (sv 1) (sv 0) (clo (sf sv) (sg sv) (sv 5) (sv 1) (sv 2)) aw) v < 1000000) (h4 : i < (mesN (sf sv) (sg sv) (sc sv) (sv 6) (sv 1) (sv 0) (clo (sf sv) (sg sv) (sv 5) (sv 1) (sv 2)) aw) v % 16) (hO : WOK (sf sv) (sg sv) (sc sv) (mesN (sf sv) (sg sv) (sc sv) (sv 6) (sv 1) (sv 0) (clo (sf sv) (sg sv) (sv 5) (sv 1) (sv 2)) aw) (sv 6) (sv 1) (sv 0)) (hM : ∀ x, x < sv 0 → (mesN (sf sv) (sg sv) (sc sv) (sv 6) (sv 1) (sv 0) (clo (sf sv) (sg sv) (sv 5) (sv 1) (sv 2)) aw) x < 1000000 → (mesN (sf sv) (sg sv) (sc sv) (sv 6) (sv 1) (sv 0) (clo (sf sv) (sg sv) (sv 5) (sv 1) (sv 2)) aw) x % 16 ≤ 6) : Mi l yX8_way cX8_way 5 (some .int) (rmN 2 47) G [.ref (ad 0), .int (nI v), .int (nI i)] (mow G ad z fo sv d pa ke ik fa te aw) (fun (r9 : Int32) (_ : Unit) => r9 = (oN (msN (sf sv) (sg sv) (sc sv) (mesN (sf sv) (sg sv) (sc sv) (sv 6) (sv 1) (sv 0) (clo (sf sv) (sg sv) (sv 5) (sv 1) (sv 2)) aw) (sv 6) (sv 1) i v))) (fun (_ : Unit) => mow G ad z fo sv d pa ke ik fa te (mesN (sf sv) (sg sv) (sc sv) (sv 6) (sv 1) (sv 0) (clo (sf sv) (sg sv) (sv 5) (sv 1) (sv 2)) aw)) := by
  refine Mi.of (cc := cX8_way) (nL := 5) (by decide) (Nat.le_of_ble_eq_true rfl) ?_
  intro p e s m below meth c A ls F hr hlocks hnm hX hA hD hP hS hl
  have F : CallFix p m c cX8_way 5 s [.ref (ad 0), .int (nI v), .int (nI i)].toArray wA RX8 := F
  obtain ⟨hx, hb, hml, hown, hts⟩ := id F
  have hl : lv_has ls 5 [(0, .ref (ad 0)), (1, .int (nI v)), (2, .int (nI i))] := hl
  obtain ⟨⟨b0, b1, b2, b3, b4, b5, b6, b7, b8⟩, g1, g2, g3, g4⟩ := id hB
  have gf : ∀ j, sf sv j < 10 := fun j => g1 (16 + j) (by omega)
  have gg : ∀ j, sg sv j < 10 := fun j => g1 (28 + j) (by omega)
  have gc : ∀ j, sc sv j ≤ 9 := fun j => by have := g1 (40 + j) (by omega); unfold sc; omega
  have gf7 : ∀ j, j < 12 → sf sv j < 7 := g2
  have gg7 : ∀ j, j < 12 → sg sv j < 7 := g3
  have hcl : clo (sf sv) (sg sv) (sv 5) (sv 1) (sv 2) < 1024 := clo_lt gf gg (by omega)
  have hml9 : ∀ j, (mesN (sf sv) (sg sv) (sc sv) (sv 6) (sv 1) (sv 0) (clo (sf sv) (sg sv) (sv 5) (sv 1) (sv 2)) aw) j ≤ 1000000 := mesN_le ha
  refine lv_aload_n hx hb dX8_way_0 rfl (lv_at hl 0 rfl) ?_
  refine lv_iconst (v := (nI 0)) hx hb dX8_way_1 (by decide) ?_
  refine va_put (D := G.1) (ci := 7) (v := .int (nI 0)) (ty := .int) (C := RX8) (T := TX8) (N := 17) hx hb hts inA8 tyX8 tyX8_ok nmX8 hown hX.1 hP hD hS 0 rfl rfl 0 (by decide) (hts _ kw_680) (fun _ h9 => h9) rfl (by decide +kernel) rfl rfl (Nat.le_of_ble_eq_true rfl) dX8_way_2 (fun H locs hP hD hS => ?_)
  have hP : va_P G.1 vwCl (mow G ad z fo sv d pa ke ik fa te aw) H := hP
  have hD : va_D A (mow G ad z fo sv d pa ke ik fa te aw) := hD
  refine lv_aload_n hx hb dX8_way_5 rfl (lv_at hl 0 rfl) ?_
  refine lv_iload_n hx hb dX8_way_6 rfl (lv_at hl 1 rfl) ?_
  refine ca_Vi (ci := 7) (q := (RX8, TX8, 17)) (rest := []) (wr := ([] : va_W)) F hX (mX8_isNode l G ad z fo sv d pa ke ik fa te aw (nI v) hB) (cA_V hts kw_794 kw_8 kw_791 kw_793 kp_29 hdX8_isNode ⟨Nat.le_of_ble_eq_true rfl, Nat.le_of_ble_eq_true rfl⟩) rfl rfl rfl hl.1 rfl (Nat.le_of_ble_eq_true rfl) dX8_way_7 ⟨Nat.le_of_ble_eq_true rfl, Nat.le_of_ble_eq_true rfl⟩ hP hD hS hA (pm_nil _) (fun r7 u7 H locs hp7 hP hD hS => ?_)
  have hP : va_P G.1 vwCl (mow G ad z fo sv d pa ke ik fa te aw) H := wp_pm (pm_nil _).symm hP
  have hD : va_D A (mow G ad z fo sv d pa ke ik fa te aw) := wd_pm (pm_nil _).symm hD
  subst hp7
  refine ti (y := (bI true)) (by rw [nd_in (v := v) (n := sv 0) (by omega) (by omega)]) ?_
  refine bv_eq (b := true) (tgt := 17) hx hb dX8_way_10 (by decide) (fun c10 => ?_) (fun c10 => ?_)
  · exact absurd c10 (by decide)
  · refine lv_iload_n hx hb dX8_way_13 rfl (lv_at hl 2 rfl) ?_
    refine nv_zge (x := i) (tgt := 19) hx hb dX8_way_14 (by decide) (by omega) ?_
    refine lv_aload_n hx hb dX8_way_19 rfl (lv_at hl 0 rfl) ?_
    refine lv_aload_n hx hb dX8_way_20 rfl (lv_at hl 0 rfl) ?_
    refine lv_aload_n hx hb dX8_way_21 rfl (lv_at hl 0 rfl) ?_
    refine va_get (D := G.1) (ci := 7) (v := .ref (ad 1)) (C := RX8) (T := TX8) (N := 17) hx hb hts inA8 hown hX.1 hP 0 rfl rfl 1 (by decide) (hts _ kw_681) (fun _ h9 => h9) rfl dX8_way_22 ?_
    refine lv_iconst (v := (nI 5)) hx hb dX8_way_25 (by decide) ?_
    refine nv_ald (f := sv) (k := 5) hx hb hX hP 1 rfl (by omega) (by decide) dX8_way_26 ?_
    refine ca_Vi (ci := 7) (q := (RX8, TX8, 17)) (rest := [.ref (ad 0)]) (wr := ([] : va_W)) F hX (mX8_nodesOf l G ad z fo sv d pa ke ik fa te aw (sv 5) hB (by omega)) (cA_V hts kw_798 kw_8 kw_795 kw_797 kp_30 hdX8_nodesOf ⟨Nat.le_of_ble_eq_true rfl, Nat.le_of_ble_eq_true rfl⟩) rfl rfl rfl hl.1 rfl (Nat.le_of_ble_eq_true rfl) dX8_way_27 ⟨Nat.le_of_ble_eq_true rfl, Nat.le_of_ble_eq_true rfl⟩ hP hD hS hA (pm_nil _) (fun r27 u27 H locs hp27 hP hD hS => ?_)
    have hP : va_P G.1 vwCl (mow G ad z fo sv d pa ke ik fa te aw) H := wp_pm (pm_nil _).symm hP
    have hD : va_D A (mow G ad z fo sv d pa ke ik fa te aw) := wd_pm (pm_nil _).symm hD
    subst hp27
    refine ca_Vv (ci := 7) (q := (RX8, TX8, 17)) (rest := []) (wr := ([] : va_W)) F hX (mX8_measures l G ad z fo sv d pa ke ik fa te aw (clo (sf sv) (sg sv) (sv 5) (sv 1) (sv 2)) hB ha (by omega)) (cA_V hts kw_805 kw_8 kw_802 kw_804 kp_31 hdX8_measures ⟨Nat.le_of_ble_eq_true rfl, Nat.le_of_ble_eq_true rfl⟩) rfl rfl rfl hl.1 rfl (Nat.le_of_ble_eq_true rfl) dX8_way_30 ⟨Nat.le_of_ble_eq_true rfl, Nat.le_of_ble_eq_true rfl⟩ hP hD hS hA (pm_nil _) (fun u30 H locs hp30 hP hD hS => ?_)
    have hP : va_P G.1 vwCl (mow G ad z fo sv d pa ke ik fa te (mesN (sf sv) (sg sv) (sc sv) (sv 6) (sv 1) (sv 0) (clo (sf sv) (sg sv) (sv 5) (sv 1) (sv 2)) aw)) H := wp_pm (pm_nil _).symm hP
    have hD : va_D A (mow G ad z fo sv d pa ke ik fa te (mesN (sf sv) (sg sv) (sc sv) (sv 6) (sv 1) (sv 0) (clo (sf sv) (sg sv) (sv 5) (sv 1) (sv 2)) aw)) := wd_pm (pm_nil _).symm hD
    refine lv_aload_n hx hb dX8_way_33 rfl (lv_at hl 0 rfl) ?_
    refine va_get (D := G.1) (ci := 7) (v := .ref (ad 8)) (C := RX8) (T := TX8) (N := 17) hx hb hts inA8 hown hX.1 hP 0 rfl rfl 15 (by decide) (hts _ kw_695) (fun _ h9 => h9) rfl dX8_way_34 ?_
    refine lv_iload_n hx hb dX8_way_37 rfl (lv_at hl 1 rfl) ?_
    refine nv_ald (f := mesN (sf sv) (sg sv) (sc sv) (sv 6) (sv 1) (sv 0) (clo (sf sv) (sg sv) (sv 5) (sv 1) (sv 2)) aw) (k := v) hx hb hX hP 8 rfl (by omega) (by decide) dX8_way_38 ?_
    refine lv_ldc (v := (nI 1000000)) hx hb hown (hts _ kw_806) dX8_way_39 ?_
    refine nv_ge (x := (mesN (sf sv) (sg sv) (sc sv) (sv 6) (sv 1) (sv 0) (clo (sf sv) (sg sv) (sv 5) (sv 1) (sv 2)) aw) v) (y := 1000000) (tgt := 57) hx hb dX8_way_41 (by decide) (by have := hml9 v; omega) (by decide) (fun c41 => ?_) (fun c41 => ?_)
    · exact absurd h3 (Nat.not_lt.mpr c41)
    · refine lv_iload_n hx hb dX8_way_44 rfl (lv_at hl 2 rfl) ?_
      refine lv_aload_n hx hb dX8_way_45 rfl (lv_at hl 0 rfl) ?_
      refine va_get (D := G.1) (ci := 7) (v := .ref (ad 8)) (C := RX8) (T := TX8) (N := 17) hx hb hts inA8 hown hX.1 hP 0 rfl rfl 15 (by decide) (hts _ kw_695) (fun _ h9 => h9) rfl dX8_way_46 ?_
      refine lv_iload_n hx hb dX8_way_49 rfl (lv_at hl 1 rfl) ?_
      refine nv_ald (f := mesN (sf sv) (sg sv) (sc sv) (sv 6) (sv 1) (sv 0) (clo (sf sv) (sg sv) (sv 5) (sv 1) (sv 2)) aw) (k := v) hx hb hX hP 8 rfl (by omega) (by decide) dX8_way_50 ?_
      refine lv_bipush (v := (nI 16)) hx hb dX8_way_51 (by decide) ?_
      refine lv_irem hx hb dX8_way_53 (by decide) (ti (y := (nI (((mesN (sf sv) (sg sv) (sc sv) (sv 6) (sv 1) (sv 0) (clo (sf sv) (sg sv) (sv 5) (sv 1) (sv 2)) aw) v) % 16))) (pk_rem (by have := hml9 v; omega) (by decide) (by decide)) ?_)
      refine nv_lt (x := i) (y := ((mesN (sf sv) (sg sv) (sc sv) (sv 6) (sv 1) (sv 0) (clo (sf sv) (sg sv) (sv 5) (sv 1) (sv 2)) aw) v) % 16) (tgt := 60) hx hb dX8_way_54 (by decide) hi (by omega) (fun c54 => ?_) (fun c54 => ?_)
      · refine lv_iload_n hx hb dX8_way_60 rfl (lv_at hl 1 rfl) ?_
        refine lv_istore_n (lv' := [(3, .int (nI v)), (0, .ref (ad 0)), (1, .int (nI v)), (2, .int (nI i))]) hx hb dX8_way_61 rfl hl (by decide) rfl (fun ls hl => ?_)
        refine lv_iconst (v := (nI 0)) hx hb dX8_way_62 (by decide) ?_
        refine lv_istore (lv' := [(4, .int (nI 0)), (3, .int (nI v)), (0, .ref (ad 0)), (1, .int (nI v)), (2, .int (nI i))]) hx hb dX8_way_63 hl (by decide) rfl (fun ls hl => ?_)
        have lp65 : ∀ (n65 : Nat) (q : Nat) (x : Nat), (i - q) < n65 → (q ≤ i) → (x < sv 0) → ((mesN (sf sv) (sg sv) (sc sv) (sv 6) (sv 1) (sv 0) (clo (sf sv) (sg sv) (sv 5) (sv 1) (sv 2)) aw) x < 1000000) → ((mesN (sf sv) (sg sv) (sc sv) (sv 6) (sv 1) (sv 0) (clo (sf sv) (sg sv) (sv 5) (sv 1) (sv 2)) aw) x % 16 + q = (mesN (sf sv) (sg sv) (sc sv) (sv 6) (sv 1) (sv 0) (clo (sf sv) (sg sv) (sv 5) (sv 1) (sv 2)) aw) v % 16) → (msN (sf sv) (sg sv) (sc sv) (mesN (sf sv) (sg sv) (sc sv) (sv 6) (sv 1) (sv 0) (clo (sf sv) (sg sv) (sv 5) (sv 1) (sv 2)) aw) (sv 6) (sv 1) (i - q) x = msN (sf sv) (sg sv) (sc sv) (mesN (sf sv) (sg sv) (sc sv) (sv 6) (sv 1) (sv 0) (clo (sf sv) (sg sv) (sv 5) (sv 1) (sv 2)) aw) (sv 6) (sv 1) i v) → ∀ (H : Heap) (locs : List Loc), va_P G.1 vwCl (mow G ad z fo sv d pa ke ik fa te (mesN (sf sv) (sg sv) (sc sv) (sv 6) (sv 1) (sv 0) (clo (sf sv) (sg sv) (sv 5) (sv 1) (sv 2)) aw)) H → va_D A (mow G ad z fo sv d pa ke ik fa te (mesN (sf sv) (sg sv) (sc sv) (sv 6) (sv 1) (sv 0) (clo (sf sv) (sg sv) (sv 5) (sv 1) (sv 2)) aw)) → va_S A s.heap H locs → ∀ (ls : Array Slot), lv_has ls 5 [(0, .ref (ad 0)), (1, .int (nI v)), (2, .int (nI i)), (3, .int (nI x)), (4, .int (nI q))] → WI p l e (rmN 2 47) s m [.ref (ad 0), .int (nI v), .int (nI i)] below meth c H locs G A (fun (r9 : Int32) (_ : Unit) => r9 = (oN (msN (sf sv) (sg sv) (sc sv) (mesN (sf sv) (sg sv) (sc sv) (sv 6) (sv 1) (sv 0) (clo (sf sv) (sg sv) (sv 5) (sv 1) (sv 2)) aw) (sv 6) (sv 1) i v))) (fun (_ : Unit) => mow G ad z fo sv d pa ke ik fa te (mesN (sf sv) (sg sv) (sc sv) (sv 6) (sv 1) (sv 0) (clo (sf sv) (sg sv) (sv 5) (sv 1) (sv 2)) aw)) (F0 m 65 ls []) := by
          intro n65
          induction n65 with
          | zero => intro q x h9; exact absurd h9 (Nat.not_lt_zero _)
          | succ n65 ih65 =>
            intro q x hm65  hq hx9 hxl hs hres H locs hP hD hS ls hl
            refine lv_iload hx hb dX8_way_65 (lv_at hl 4 rfl) ?_
            refine lv_iload_n hx hb dX8_way_67 rfl (lv_at hl 2 rfl) ?_
            refine nv_ge (x := q) (y := i) (tgt := 88) hx hb dX8_way_68 (by decide) (by omega) (by omega) (fun c68 => ?_) (fun c68 => ?_)
            · refine lv_aload_n hx hb dX8_way_88 rfl (lv_at hl 0 rfl) ?_
              refine lv_iload_n hx hb dX8_way_89 rfl (lv_at hl 3 rfl) ?_
              refine ca_Vi (ci := 7) (q := (RX8, TX8, 17)) (rest := []) (wr := ([] : va_W)) F hX (mX8_nextLink l G ad z fo sv d pa ke ik fa te (mesN (sf sv) (sg sv) (sc sv) (sv 6) (sv 1) (sv 0) (clo (sf sv) (sg sv) (sv 5) (sv 1) (sv 2)) aw) x hB hml9 (by omega)) (cA_V hts kw_814 kw_8 kw_811 kw_813 kp_33 hdX8_nextLink ⟨Nat.le_of_ble_eq_true rfl, Nat.le_of_ble_eq_true rfl⟩) rfl rfl rfl hl.1 rfl (Nat.le_of_ble_eq_true rfl) dX8_way_90 ⟨Nat.le_of_ble_eq_true rfl, Nat.le_of_ble_eq_true rfl⟩ hP hD hS hA (pm_nil _) (fun r90 u90 H locs hp90 hP hD hS => ?_)
              have hP : va_P G.1 vwCl (mow G ad z fo sv d pa ke ik fa te (mesN (sf sv) (sg sv) (sc sv) (sv 6) (sv 1) (sv 0) (clo (sf sv) (sg sv) (sv 5) (sv 1) (sv 2)) aw)) H := wp_pm (pm_nil _).symm hP
              have hD : va_D A (mow G ad z fo sv d pa ke ik fa te (mesN (sf sv) (sg sv) (sc sv) (sv 6) (sv 1) (sv 0) (clo (sf sv) (sg sv) (sv 5) (sv 1) (sv 2)) aw)) := wd_pm (pm_nil _).symm hD
              subst hp90
              exact re_i (v := (oN (nlO (sf sv) (sg sv) (sc sv) (mesN (sf sv) (sg sv) (sc sv) (sv 6) (sv 1) (sv 0) (clo (sf sv) (sg sv) (sv 5) (sv 1) (sv 2)) aw) (sv 6) (sv 1) x))) hx hb hr hlocks hS () hP hD (by have e9 : i - q = 0 := (by omega); rw [e9] at hres; rw [← hres]; rfl) dX8_way_93
            · refine lv_aload_n hx hb dX8_way_71 rfl (lv_at hl 0 rfl) ?_
              refine lv_aload_n hx hb dX8_way_72 rfl (lv_at hl 0 rfl) ?_
              refine lv_iload_n hx hb dX8_way_73 rfl (lv_at hl 3 rfl) ?_
              obtain ⟨j, b, hj, hb2, hbn, hbl⟩ := hO x hx9 (by omega) hxl
              have hj12 : j < 12 := by have := nlS_lt hj; omega
              refine ca_Vi (ci := 7) (q := (RX8, TX8, 17)) (rest := [.ref (ad 0)]) (wr := ([] : va_W)) F hX (mX8_nextLink l G ad z fo sv d pa ke ik fa te (mesN (sf sv) (sg sv) (sc sv) (sv 6) (sv 1) (sv 0) (clo (sf sv) (sg sv) (sv 5) (sv 1) (sv 2)) aw) x hB hml9 (by omega)) (cA_V hts kw_814 kw_8 kw_811 kw_813 kp_33 hdX8_nextLink ⟨Nat.le_of_ble_eq_true rfl, Nat.le_of_ble_eq_true rfl⟩) rfl rfl rfl hl.1 rfl (Nat.le_of_ble_eq_true rfl) dX8_way_74 ⟨Nat.le_of_ble_eq_true rfl, Nat.le_of_ble_eq_true rfl⟩ hP hD hS hA (pm_nil _) (fun r74 u74 H locs hp74 hP hD hS => ?_)
              have hP : va_P G.1 vwCl (mow G ad z fo sv d pa ke ik fa te (mesN (sf sv) (sg sv) (sc sv) (sv 6) (sv 1) (sv 0) (clo (sf sv) (sg sv) (sv 5) (sv 1) (sv 2)) aw)) H := wp_pm (pm_nil _).symm hP
              have hD : va_D A (mow G ad z fo sv d pa ke ik fa te (mesN (sf sv) (sg sv) (sc sv) (sv 6) (sv 1) (sv 0) (clo (sf sv) (sg sv) (sv 5) (sv 1) (sv 2)) aw)) := wd_pm (pm_nil _).symm hD
              subst hp74
              refine ti (y := (nI j)) (by rw [hj]; rfl) ?_
              refine lv_iload_n hx hb dX8_way_77 rfl (lv_at hl 3 rfl) ?_
              refine ca_Vi (ci := 7) (q := (RX8, TX8, 17)) (rest := []) (wr := ([] : va_W)) F hX (mX8_beyond l G ad z fo sv d pa ke ik fa te (mesN (sf sv) (sg sv) (sc sv) (sv 6) (sv 1) (sv 0) (clo (sf sv) (sg sv) (sv 5) (sv 1) (sv 2)) aw) j x hB (by omega) (by omega)) (cA_V hts kw_818 kw_8 kw_815 kw_817 kp_34 hdX8_beyond ⟨Nat.le_of_ble_eq_true rfl, Nat.le_of_ble_eq_true rfl⟩) rfl rfl rfl hl.1 rfl (Nat.le_of_ble_eq_true rfl) dX8_way_78 ⟨Nat.le_of_ble_eq_true rfl, Nat.le_of_ble_eq_true rfl⟩ hP hD hS hA (pm_nil _) (fun r78 u78 H locs hp78 hP hD hS => ?_)
              have hP : va_P G.1 vwCl (mow G ad z fo sv d pa ke ik fa te (mesN (sf sv) (sg sv) (sc sv) (sv 6) (sv 1) (sv 0) (clo (sf sv) (sg sv) (sv 5) (sv 1) (sv 2)) aw)) H := wp_pm (pm_nil _).symm hP
              have hD : va_D A (mow G ad z fo sv d pa ke ik fa te (mesN (sf sv) (sg sv) (sc sv) (sv 6) (sv 1) (sv 0) (clo (sf sv) (sg sv) (sv 5) (sv 1) (sv 2)) aw)) := wd_pm (pm_nil _).symm hD
              subst hp78
              refine ti (y := (nI b)) (by rw [hb2]; rfl) ?_
              refine lv_istore_n (lv' := [(3, .int (nI b)), (0, .ref (ad 0)), (1, .int (nI v)), (2, .int (nI i)), (4, .int (nI q))]) hx hb dX8_way_81 rfl hl (by decide) rfl (fun ls hl => ?_)
              refine lv_iinc (v := (nI (q + 1))) (lv' := [(4, .int (nI (q + 1))), (3, .int (nI b)), (0, .ref (ad 0)), (1, .int (nI v)), (2, .int (nI i))]) hx hb dX8_way_82 hl (k := 4) rfl (qn_inc _) (by decide) rfl (fun ls hl => ?_)
              refine lv_goto (tgt := 65) hx hb dX8_way_85 (by decide) ?_
              exact ih65 (q + 1) b (by omega) (by omega) hbn (by omega) (by have h5 := nl_step (n := sv 0) hj hb2 (hM b hbn (by omega)); omega) (by have e9 : i - q = (i - (q + 1)) + 1 := (by omega); rw [e9, msN_go hj hb2] at hres; exact hres) _ _ hP hD hS ls (lv_sub hl [2, 3, 4, 1, 0] rfl)
        exact lp65 _ 0 v (Nat.lt_succ_self _) (Nat.zero_le _) hv h3 rfl rfl _ _ hP hD hS ls (lv_sub hl [2, 3, 4, 1, 0] rfl)
      · exact absurd h4 (Nat.not_lt.mpr c54)

theorem hdX8_tree : hdOK yX8_tree 1 := by decide +kernel
set_option maxHeartbeats 4000000 in
set_option maxRecDepth 100000 in
theorem mX8_tree_bad (l : Launch) (G : GG) (ad : Nat → Nat) (z : Nat → Nat) (fo : Option Nat) (sv : Nat → Nat) (d : Nat → Int32) (pa ke : Nat → Nat) (ik fa : Nat → Int32) (te aw : Nat → Nat) (y : Int32) (hy : ¬ (0 ≤ y.toInt ∧ y.toInt ≤ 6)) : Mi l yX8_tree cX8_tree 2 (some .int) (rmN 0 0) G [.ref (ad 0), .int y] (mow G ad z fo sv d pa ke ik fa te aw) (fun (r9 : Int32) (_ : Unit) => r9 = (-1)) (fun (_ : Unit) => mow G ad z fo sv d pa ke ik fa te aw) := by
  refine Mi.of (cc := cX8_tree) (nL := 2) (by decide) (Nat.le_of_ble_eq_true rfl) ?_
  intro p e s m below meth c A ls F hr hlocks hnm hX hA hD hP hS hl
  have F : CallFix p m c cX8_tree 2 s [.ref (ad 0), .int y].toArray wA RX8 := F
  obtain ⟨hx, hb, hml, hown, hts⟩ := id F
  have hl : lv_has ls 2 [(0, .ref (ad 0)), (1, .int y)] := hl
  refine lv_aload_n hx hb dX8_tree_0 rfl (lv_at hl 0 rfl) ?_
  refine lv_iconst (v := (nI 0)) hx hb dX8_tree_1 (by decide) ?_
  refine va_put (D := G.1) (ci := 7) (v := .int (nI 0)) (ty := .int) (C := RX8) (T := TX8) (N := 17) hx hb hts inA8 tyX8 tyX8_ok nmX8 hown hX.1 hP hD hS 0 rfl rfl 0 (by decide) (hts _ kw_680) (fun _ h9 => h9) rfl (by decide +kernel) rfl rfl (Nat.le_of_ble_eq_true rfl) dX8_tree_2 (fun H locs hP hD hS => ?_)
  have hP : va_P G.1 vwCl (mow G ad z fo sv d pa ke ik fa te aw) H := hP
  have hD : va_D A (mow G ad z fo sv d pa ke ik fa te aw) := hD
  refine lv_iload_n hx hb dX8_tree_5 rfl (lv_at hl 1 rfl) ?_
  refine lv_tableOut (tgt := 100) hx hb dX8_tree_6 (by omega) (by decide) ?_
  refine lv_iconst (v := (-1)) hx hb dX8_tree_100 (by decide) ?_
  exact re_i (v := (-1)) hx hb hr hlocks hS () hP hD rfl dX8_tree_101

set_option maxHeartbeats 4000000 in
set_option maxRecDepth 100000 in
theorem mX8_tree_0 (l : Launch) (G : GG) (ad : Nat → Nat) (z : Nat → Nat) (fo : Option Nat) (sv : Nat → Nat) (d : Nat → Int32) (pa ke : Nat → Nat) (ik fa : Nat → Int32) (te aw : Nat → Nat)  (hB : SB sv) : Mi l yX8_tree cX8_tree 2 (some .int) (rmN 2 44) G [.ref (ad 0), .int (nI 0)] (mow G ad z fo sv d pa ke ik fa te aw) (fun (r9 : Int32) (_ : Unit) => r9 = (nI (coS sv (sv 5)))) (fun (_ : Unit) => mow G ad z fo sv d pa ke ik fa te aw) := by
  refine Mi.of (cc := cX8_tree) (nL := 2) (by decide) (Nat.le_of_ble_eq_true rfl) ?_
  intro p e s m below meth c A ls F hr hlocks hnm hX hA hD hP hS hl
  have F : CallFix p m c cX8_tree 2 s [.ref (ad 0), .int (nI 0)].toArray wA RX8 := F
  obtain ⟨hx, hb, hml, hown, hts⟩ := id F
  have hl : lv_has ls 2 [(0, .ref (ad 0)), (1, .int (nI 0))] := hl
  obtain ⟨⟨b0, b1, b2, b3, b4, b5, b6, b7, b8⟩, g1, g2, g3, g4⟩ := id hB
  have gf : ∀ j, sf sv j < 10 := fun j => g1 (16 + j) (by omega)
  have gg : ∀ j, sg sv j < 10 := fun j => g1 (28 + j) (by omega)
  have gc : ∀ j, sc sv j ≤ 9 := fun j => by have := g1 (40 + j) (by omega); unfold sc; omega
  have gf7 : ∀ j, j < 12 → sf sv j < 7 := g2
  have gg7 : ∀ j, j < 12 → sg sv j < 7 := g3
  refine lv_aload_n hx hb dX8_tree_0 rfl (lv_at hl 0 rfl) ?_
  refine lv_iconst (v := (nI 0)) hx hb dX8_tree_1 (by decide) ?_
  refine va_put (D := G.1) (ci := 7) (v := .int (nI 0)) (ty := .int) (C := RX8) (T := TX8) (N := 17) hx hb hts inA8 tyX8 tyX8_ok nmX8 hown hX.1 hP hD hS 0 rfl rfl 0 (by decide) (hts _ kw_680) (fun _ h9 => h9) rfl (by decide +kernel) rfl rfl (Nat.le_of_ble_eq_true rfl) dX8_tree_2 (fun H locs hP hD hS => ?_)
  have hP : va_P G.1 vwCl (mow G ad z fo sv d pa ke ik fa te aw) H := hP
  have hD : va_D A (mow G ad z fo sv d pa ke ik fa te aw) := hD
  refine lv_iload_n hx hb dX8_tree_5 rfl (lv_at hl 1 rfl) ?_
  refine lv_tableIn (off := 42) (tgt := 48) hx hb dX8_tree_6 (by decide) (by decide) (by decide +kernel) (by decide) ?_
  refine lv_aload_n hx hb dX8_tree_48 rfl (lv_at hl 0 rfl) ?_
  refine lv_aload_n hx hb dX8_tree_49 rfl (lv_at hl 0 rfl) ?_
  refine va_get (D := G.1) (ci := 7) (v := .ref (ad 1)) (C := RX8) (T := TX8) (N := 17) hx hb hts inA8 hown hX.1 hP 0 rfl rfl 1 (by decide) (hts _ kw_681) (fun _ h9 => h9) rfl dX8_tree_50 ?_
  refine lv_iconst (v := (nI 5)) hx hb dX8_tree_53 (by decide) ?_
  refine nv_ald (f := sv) (k := 5) hx hb hX hP 1 rfl (by omega) (by decide) dX8_tree_54 ?_
  refine ca_Vi (ci := 7) (q := (RX8, TX8, 17)) (rest := []) (wr := ([] : va_W)) F hX (mX8_costOf l G ad z fo sv d pa ke ik fa te aw (sv 5) hB (by omega)) (cA_V hts kw_834 kw_8 kw_831 kw_833 kp_38 hdX8_costOf ⟨Nat.le_of_ble_eq_true rfl, Nat.le_of_ble_eq_true rfl⟩) rfl rfl rfl hl.1 rfl (Nat.le_of_ble_eq_true rfl) dX8_tree_55 ⟨Nat.le_of_ble_eq_true rfl, Nat.le_of_ble_eq_true rfl⟩ hP hD hS hA (pm_nil _) (fun r55 u55 H locs hp55 hP hD hS => ?_)
  have hP : va_P G.1 vwCl (mow G ad z fo sv d pa ke ik fa te aw) H := wp_pm (pm_nil _).symm hP
  have hD : va_D A (mow G ad z fo sv d pa ke ik fa te aw) := wd_pm (pm_nil _).symm hD
  subst hp55
  refine ti (y := (nI (coS sv (sv 5)))) rfl ?_
  exact re_i (v := (nI (coS sv (sv 5)))) hx hb hr hlocks hS () hP hD rfl dX8_tree_58

set_option maxHeartbeats 4000000 in
set_option maxRecDepth 100000 in
theorem mX8_tree_1 (l : Launch) (G : GG) (ad : Nat → Nat) (z : Nat → Nat) (fo : Option Nat) (sv : Nat → Nat) (d : Nat → Int32) (pa ke : Nat → Nat) (ik fa : Nat → Int32) (te aw : Nat → Nat)  (hB : SB sv) (ha : ∀ j, aw j ≤ 1000000) (hA2 : AnS sv) : Mi l yX8_tree cX8_tree 2 (some .int) (rmN 4 95) G [.ref (ad 0), .int (nI 1)] (mow G ad z fo sv d pa ke ik fa te aw) (fun (r9 : Int32) (u9 : (Nat → Nat)) => r9 = nI (coS sv (anS sv)) ∧ ∀ j, u9 j ≤ 1000000) (fun (u9 : (Nat → Nat)) => mow G ad z fo sv d pa ke ik fa te u9) := by
  refine Mi.of (cc := cX8_tree) (nL := 2) (by decide) (Nat.le_of_ble_eq_true rfl) ?_
  intro p e s m below meth c A ls F hr hlocks hnm hX hA hD hP hS hl
  have F : CallFix p m c cX8_tree 2 s [.ref (ad 0), .int (nI 1)].toArray wA RX8 := F
  obtain ⟨hx, hb, hml, hown, hts⟩ := id F
  have hl : lv_has ls 2 [(0, .ref (ad 0)), (1, .int (nI 1))] := hl
  obtain ⟨⟨b0, b1, b2, b3, b4, b5, b6, b7, b8⟩, g1, g2, g3, g4⟩ := id hB
  have gf : ∀ j, sf sv j < 10 := fun j => g1 (16 + j) (by omega)
  have gg : ∀ j, sg sv j < 10 := fun j => g1 (28 + j) (by omega)
  have gc : ∀ j, sc sv j ≤ 9 := fun j => by have := g1 (40 + j) (by omega); unfold sc; omega
  have gf7 : ∀ j, j < 12 → sf sv j < 7 := g2
  have gg7 : ∀ j, j < 12 → sg sv j < 7 := g3
  refine lv_aload_n hx hb dX8_tree_0 rfl (lv_at hl 0 rfl) ?_
  refine lv_iconst (v := (nI 0)) hx hb dX8_tree_1 (by decide) ?_
  refine va_put (D := G.1) (ci := 7) (v := .int (nI 0)) (ty := .int) (C := RX8) (T := TX8) (N := 17) hx hb hts inA8 tyX8 tyX8_ok nmX8 hown hX.1 hP hD hS 0 rfl rfl 0 (by decide) (hts _ kw_680) (fun _ h9 => h9) rfl (by decide +kernel) rfl rfl (Nat.le_of_ble_eq_true rfl) dX8_tree_2 (fun H locs hP hD hS => ?_)
  have hP : va_P G.1 vwCl (mow G ad z fo sv d pa ke ik fa te aw) H := hP
  have hD : va_D A (mow G ad z fo sv d pa ke ik fa te aw) := hD
  refine lv_iload_n hx hb dX8_tree_5 rfl (lv_at hl 1 rfl) ?_
  refine lv_tableIn (off := 53) (tgt := 59) hx hb dX8_tree_6 (by decide) (by decide) (by decide +kernel) (by decide) ?_
  refine lv_aload_n hx hb dX8_tree_59 rfl (lv_at hl 0 rfl) ?_
  refine lv_aload_n hx hb dX8_tree_60 rfl (lv_at hl 0 rfl) ?_
  refine ca_Vi (ci := 7) (q := (RX8, TX8, 17)) (rest := [.ref (ad 0)]) (wr := ([] : va_W)) F hX (mX8_anew l G ad z fo sv d pa ke ik fa te aw  hB ha hA2) (cA_V hts kw_830 kw_8 kw_827 kw_829 kp_37 hdX8_anew ⟨Nat.le_of_ble_eq_true rfl, Nat.le_of_ble_eq_true rfl⟩) rfl rfl rfl hl.1 rfl (Nat.le_of_ble_eq_true rfl) dX8_tree_61 ⟨Nat.le_of_ble_eq_true rfl, Nat.le_of_ble_eq_true rfl⟩ hP hD hS hA (pm_nil _) (fun r61 u61 H locs hp61 hP hD hS => ?_)
  obtain ⟨e9, hu61⟩ := hp61
  subst e9
  have hP : va_P G.1 vwCl (mow G ad z fo sv d pa ke ik fa te u61) H := wp_pm (pm_nil _).symm hP
  have hD : va_D A (mow G ad z fo sv d pa ke ik fa te u61) := wd_pm (pm_nil _).symm hD
  refine ca_Vi (ci := 7) (q := (RX8, TX8, 17)) (rest := []) (wr := ([] : va_W)) F hX (mX8_costOf l G ad z fo sv d pa ke ik fa te u61 (anS sv) hB (Nat.lt_trans hB.anlt (by decide))) (cA_V hts kw_834 kw_8 kw_831 kw_833 kp_38 hdX8_costOf ⟨Nat.le_of_ble_eq_true rfl, Nat.le_of_ble_eq_true rfl⟩) rfl rfl rfl hl.1 rfl (Nat.le_of_ble_eq_true rfl) dX8_tree_64 ⟨Nat.le_of_ble_eq_true rfl, Nat.le_of_ble_eq_true rfl⟩ hP hD hS hA (pm_nil _) (fun r64 u64 H locs hp64 hP hD hS => ?_)
  have hP : va_P G.1 vwCl (mow G ad z fo sv d pa ke ik fa te u61) H := wp_pm (pm_nil _).symm hP
  have hD : va_D A (mow G ad z fo sv d pa ke ik fa te u61) := wd_pm (pm_nil _).symm hD
  subst hp64
  refine ti (y := (nI (coS sv (anS sv)))) rfl ?_
  exact re_i (v := (nI (coS sv (anS sv)))) hx hb hr hlocks hS u61 hP hD ⟨rfl, hu61⟩ dX8_tree_67

set_option maxHeartbeats 4000000 in
set_option maxRecDepth 100000 in
theorem mX8_tree_2 (l : Launch) (G : GG) (ad : Nat → Nat) (z : Nat → Nat) (fo : Option Nat) (sv : Nat → Nat) (d : Nat → Int32) (pa ke : Nat → Nat) (ik fa : Nat → Int32) (te aw : Nat → Nat)  (hB : SB sv) : Mi l yX8_tree cX8_tree 2 (some .int) (rmN 3 69) G [.ref (ad 0), .int (nI 2)] (mow G ad z fo sv d pa ke ik fa te aw) (fun (r9 : Int32) (_ : Unit) => r9 = (nI ((mleN (sf sv) (sg sv) (sc sv) (sv 1) (sv 2) (sv 4) (sv 6) (2 ^ sv 1)).2))) (fun (_ : Unit) => mow G ad (va_up z 16 ((mleN (sf sv) (sg sv) (sc sv) (sv 1) (sv 2) (sv 4) (sv 6) (2 ^ sv 1)).2)) fo sv d pa ke ik fa te aw) := by
  refine Mi.of (cc := cX8_tree) (nL := 2) (by decide) (Nat.le_of_ble_eq_true rfl) ?_
  intro p e s m below meth c A ls F hr hlocks hnm hX hA hD hP hS hl
  have F : CallFix p m c cX8_tree 2 s [.ref (ad 0), .int (nI 2)].toArray wA RX8 := F
  obtain ⟨hx, hb, hml, hown, hts⟩ := id F
  have hl : lv_has ls 2 [(0, .ref (ad 0)), (1, .int (nI 2))] := hl
  obtain ⟨⟨b0, b1, b2, b3, b4, b5, b6, b7, b8⟩, g1, g2, g3, g4⟩ := id hB
  have gf : ∀ j, sf sv j < 10 := fun j => g1 (16 + j) (by omega)
  have gg : ∀ j, sg sv j < 10 := fun j => g1 (28 + j) (by omega)
  have gc : ∀ j, sc sv j ≤ 9 := fun j => by have := g1 (40 + j) (by omega); unfold sc; omega
  have gf7 : ∀ j, j < 12 → sf sv j < 7 := g2
  have gg7 : ∀ j, j < 12 → sg sv j < 7 := g3
  refine lv_aload_n hx hb dX8_tree_0 rfl (lv_at hl 0 rfl) ?_
  refine lv_iconst (v := (nI 0)) hx hb dX8_tree_1 (by decide) ?_
  refine va_put (D := G.1) (ci := 7) (v := .int (nI 0)) (ty := .int) (C := RX8) (T := TX8) (N := 17) hx hb hts inA8 tyX8 tyX8_ok nmX8 hown hX.1 hP hD hS 0 rfl rfl 0 (by decide) (hts _ kw_680) (fun _ h9 => h9) rfl (by decide +kernel) rfl rfl (Nat.le_of_ble_eq_true rfl) dX8_tree_2 (fun H locs hP hD hS => ?_)
  have hP : va_P G.1 vwCl (mow G ad z fo sv d pa ke ik fa te aw) H := hP
  have hD : va_D A (mow G ad z fo sv d pa ke ik fa te aw) := hD
  refine lv_iload_n hx hb dX8_tree_5 rfl (lv_at hl 1 rfl) ?_
  refine lv_tableIn (off := 62) (tgt := 68) hx hb dX8_tree_6 (by decide) (by decide) (by decide +kernel) (by decide) ?_
  refine lv_aload_n hx hb dX8_tree_68 rfl (lv_at hl 0 rfl) ?_
  refine ca_Vi (ci := 7) (q := (RX8, TX8, 17)) (rest := []) (wr := ([] : va_W)) F hX (mX8_least l G ad z fo sv d pa ke ik fa te aw  hB) (cA_V hts kw_913 kw_8 kw_910 kw_912 kp_47 hdX8_least ⟨Nat.le_of_ble_eq_true rfl, Nat.le_of_ble_eq_true rfl⟩) rfl rfl rfl hl.1 rfl (Nat.le_of_ble_eq_true rfl) dX8_tree_69 ⟨Nat.le_of_ble_eq_true rfl, Nat.le_of_ble_eq_true rfl⟩ hP hD hS hA (pm_nil _) (fun r69 u69 H locs hp69 hP hD hS => ?_)
  have hP : va_P G.1 vwCl (mow G ad (va_up z 16 ((mleN (sf sv) (sg sv) (sc sv) (sv 1) (sv 2) (sv 4) (sv 6) (2 ^ sv 1)).2)) fo sv d pa ke ik fa te aw) H := wp_pm (pm_nil _).symm hP
  have hD : va_D A (mow G ad (va_up z 16 ((mleN (sf sv) (sg sv) (sc sv) (sv 1) (sv 2) (sv 4) (sv 6) (2 ^ sv 1)).2)) fo sv d pa ke ik fa te aw) := wd_pm (pm_nil _).symm hD
  subst hp69
  refine lv_pop hx hb dX8_tree_72 rfl ?_
  refine lv_aload_n hx hb dX8_tree_73 rfl (lv_at hl 0 rfl) ?_
  refine va_get (D := G.1) (ci := 7) (v := .int (nI ((mleN (sf sv) (sg sv) (sc sv) (sv 1) (sv 2) (sv 4) (sv 6) (2 ^ sv 1)).2))) (C := RX8) (T := TX8) (N := 17) hx hb hts inA8 hown hX.1 hP 0 rfl rfl 16 (by decide) (hts _ kw_696) (fun _ h9 => h9) rfl dX8_tree_74 ?_
  exact re_i (v := (nI ((mleN (sf sv) (sg sv) (sc sv) (sv 1) (sv 2) (sv 4) (sv 6) (2 ^ sv 1)).2))) hx hb hr hlocks hS () hP hD rfl dX8_tree_77

set_option maxHeartbeats 4000000 in
set_option maxRecDepth 100000 in
theorem mX8_tree_3 (l : Launch) (G : GG) (ad : Nat → Nat) (z : Nat → Nat) (fo : Option Nat) (sv : Nat → Nat) (d : Nat → Int32) (pa ke : Nat → Nat) (ik fa : Nat → Int32) (te aw : Nat → Nat)  (hB : SB sv) : Mi l yX8_tree cX8_tree 2 (some .int) (rmN 3 69) G [.ref (ad 0), .int (nI 3)] (mow G ad z fo sv d pa ke ik fa te aw) (fun (r9 : Int32) (_ : Unit) => r9 = (nI ((mleN (sf sv) (sg sv) (sc sv) (sv 1) (sv 2) (sv 4) (sv 6) (2 ^ sv 1)).1))) (fun (_ : Unit) => mow G ad (va_up z 16 ((mleN (sf sv) (sg sv) (sc sv) (sv 1) (sv 2) (sv 4) (sv 6) (2 ^ sv 1)).2)) fo sv d pa ke ik fa te aw) := by
  refine Mi.of (cc := cX8_tree) (nL := 2) (by decide) (Nat.le_of_ble_eq_true rfl) ?_
  intro p e s m below meth c A ls F hr hlocks hnm hX hA hD hP hS hl
  have F : CallFix p m c cX8_tree 2 s [.ref (ad 0), .int (nI 3)].toArray wA RX8 := F
  obtain ⟨hx, hb, hml, hown, hts⟩ := id F
  have hl : lv_has ls 2 [(0, .ref (ad 0)), (1, .int (nI 3))] := hl
  obtain ⟨⟨b0, b1, b2, b3, b4, b5, b6, b7, b8⟩, g1, g2, g3, g4⟩ := id hB
  have gf : ∀ j, sf sv j < 10 := fun j => g1 (16 + j) (by omega)
  have gg : ∀ j, sg sv j < 10 := fun j => g1 (28 + j) (by omega)
  have gc : ∀ j, sc sv j ≤ 9 := fun j => by have := g1 (40 + j) (by omega); unfold sc; omega
  have gf7 : ∀ j, j < 12 → sf sv j < 7 := g2
  have gg7 : ∀ j, j < 12 → sg sv j < 7 := g3
  refine lv_aload_n hx hb dX8_tree_0 rfl (lv_at hl 0 rfl) ?_
  refine lv_iconst (v := (nI 0)) hx hb dX8_tree_1 (by decide) ?_
  refine va_put (D := G.1) (ci := 7) (v := .int (nI 0)) (ty := .int) (C := RX8) (T := TX8) (N := 17) hx hb hts inA8 tyX8 tyX8_ok nmX8 hown hX.1 hP hD hS 0 rfl rfl 0 (by decide) (hts _ kw_680) (fun _ h9 => h9) rfl (by decide +kernel) rfl rfl (Nat.le_of_ble_eq_true rfl) dX8_tree_2 (fun H locs hP hD hS => ?_)
  have hP : va_P G.1 vwCl (mow G ad z fo sv d pa ke ik fa te aw) H := hP
  have hD : va_D A (mow G ad z fo sv d pa ke ik fa te aw) := hD
  refine lv_iload_n hx hb dX8_tree_5 rfl (lv_at hl 1 rfl) ?_
  refine lv_tableIn (off := 72) (tgt := 78) hx hb dX8_tree_6 (by decide) (by decide) (by decide +kernel) (by decide) ?_
  refine lv_aload_n hx hb dX8_tree_78 rfl (lv_at hl 0 rfl) ?_
  refine ca_Vi (ci := 7) (q := (RX8, TX8, 17)) (rest := []) (wr := ([] : va_W)) F hX (mX8_least l G ad z fo sv d pa ke ik fa te aw  hB) (cA_V hts kw_913 kw_8 kw_910 kw_912 kp_47 hdX8_least ⟨Nat.le_of_ble_eq_true rfl, Nat.le_of_ble_eq_true rfl⟩) rfl rfl rfl hl.1 rfl (Nat.le_of_ble_eq_true rfl) dX8_tree_79 ⟨Nat.le_of_ble_eq_true rfl, Nat.le_of_ble_eq_true rfl⟩ hP hD hS hA (pm_nil _) (fun r79 u79 H locs hp79 hP hD hS => ?_)
  have hP : va_P G.1 vwCl (mow G ad (va_up z 16 ((mleN (sf sv) (sg sv) (sc sv) (sv 1) (sv 2) (sv 4) (sv 6) (2 ^ sv 1)).2)) fo sv d pa ke ik fa te aw) H := wp_pm (pm_nil _).symm hP
  have hD : va_D A (mow G ad (va_up z 16 ((mleN (sf sv) (sg sv) (sc sv) (sv 1) (sv 2) (sv 4) (sv 6) (2 ^ sv 1)).2)) fo sv d pa ke ik fa te aw) := wd_pm (pm_nil _).symm hD
  subst hp79
  exact re_i (v := (nI ((mleN (sf sv) (sg sv) (sc sv) (sv 1) (sv 2) (sv 4) (sv 6) (2 ^ sv 1)).1))) hx hb hr hlocks hS () hP hD rfl dX8_tree_82

set_option maxHeartbeats 4000000 in
set_option maxRecDepth 100000 in
theorem mX8_tree_4 (l : Launch) (G : GG) (ad : Nat → Nat) (z : Nat → Nat) (fo : Option Nat) (sv : Nat → Nat) (d : Nat → Int32) (pa ke : Nat → Nat) (ik fa : Nat → Int32) (te aw : Nat → Nat)  (hB : SB sv) : Mi l yX8_tree cX8_tree 2 (some .int) (rmN 0 0) G [.ref (ad 0), .int (nI 4)] (mow G ad z fo sv d pa ke ik fa te aw) (fun (r9 : Int32) (_ : Unit) => r9 = (nI (sv 5))) (fun (_ : Unit) => mow G ad z fo sv d pa ke ik fa te aw) := by
  refine Mi.of (cc := cX8_tree) (nL := 2) (by decide) (Nat.le_of_ble_eq_true rfl) ?_
  intro p e s m below meth c A ls F hr hlocks hnm hX hA hD hP hS hl
  have F : CallFix p m c cX8_tree 2 s [.ref (ad 0), .int (nI 4)].toArray wA RX8 := F
  obtain ⟨hx, hb, hml, hown, hts⟩ := id F
  have hl : lv_has ls 2 [(0, .ref (ad 0)), (1, .int (nI 4))] := hl
  obtain ⟨⟨b0, b1, b2, b3, b4, b5, b6, b7, b8⟩, g1, g2, g3, g4⟩ := id hB
  have gf : ∀ j, sf sv j < 10 := fun j => g1 (16 + j) (by omega)
  have gg : ∀ j, sg sv j < 10 := fun j => g1 (28 + j) (by omega)
  have gc : ∀ j, sc sv j ≤ 9 := fun j => by have := g1 (40 + j) (by omega); unfold sc; omega
  have gf7 : ∀ j, j < 12 → sf sv j < 7 := g2
  have gg7 : ∀ j, j < 12 → sg sv j < 7 := g3
  refine lv_aload_n hx hb dX8_tree_0 rfl (lv_at hl 0 rfl) ?_
  refine lv_iconst (v := (nI 0)) hx hb dX8_tree_1 (by decide) ?_
  refine va_put (D := G.1) (ci := 7) (v := .int (nI 0)) (ty := .int) (C := RX8) (T := TX8) (N := 17) hx hb hts inA8 tyX8 tyX8_ok nmX8 hown hX.1 hP hD hS 0 rfl rfl 0 (by decide) (hts _ kw_680) (fun _ h9 => h9) rfl (by decide +kernel) rfl rfl (Nat.le_of_ble_eq_true rfl) dX8_tree_2 (fun H locs hP hD hS => ?_)
  have hP : va_P G.1 vwCl (mow G ad z fo sv d pa ke ik fa te aw) H := hP
  have hD : va_D A (mow G ad z fo sv d pa ke ik fa te aw) := hD
  refine lv_iload_n hx hb dX8_tree_5 rfl (lv_at hl 1 rfl) ?_
  refine lv_tableIn (off := 77) (tgt := 83) hx hb dX8_tree_6 (by decide) (by decide) (by decide +kernel) (by decide) ?_
  refine lv_aload_n hx hb dX8_tree_83 rfl (lv_at hl 0 rfl) ?_
  refine va_get (D := G.1) (ci := 7) (v := .ref (ad 1)) (C := RX8) (T := TX8) (N := 17) hx hb hts inA8 hown hX.1 hP 0 rfl rfl 1 (by decide) (hts _ kw_681) (fun _ h9 => h9) rfl dX8_tree_84 ?_
  refine lv_iconst (v := (nI 5)) hx hb dX8_tree_87 (by decide) ?_
  refine nv_ald (f := sv) (k := 5) hx hb hX hP 1 rfl (by omega) (by decide) dX8_tree_88 ?_
  exact re_i (v := (nI (sv 5))) hx hb hr hlocks hS () hP hD rfl dX8_tree_89

set_option maxHeartbeats 4000000 in
set_option maxRecDepth 100000 in
theorem mX8_tree_5 (l : Launch) (G : GG) (ad : Nat → Nat) (z : Nat → Nat) (fo : Option Nat) (sv : Nat → Nat) (d : Nat → Int32) (pa ke : Nat → Nat) (ik fa : Nat → Int32) (te aw : Nat → Nat)  (hB : SB sv) : Mi l yX8_tree cX8_tree 2 (some .int) (rmN 4 89) G [.ref (ad 0), .int (nI 5)] (mow G ad z fo sv d pa ke ik fa te aw) (fun (r9 : Int32) (_ : Unit) => r9 = (oN (bstN (mldN (sf sv) (sg sv) (sv 1) (sv 2) (sv 4) (sv 5)) (sv 5) (sv 1)))) (fun (_ : Unit) => mow G ad z fo sv d pa ke ik fa te aw) := by
  refine Mi.of (cc := cX8_tree) (nL := 2) (by decide) (Nat.le_of_ble_eq_true rfl) ?_
  intro p e s m below meth c A ls F hr hlocks hnm hX hA hD hP hS hl
  have F : CallFix p m c cX8_tree 2 s [.ref (ad 0), .int (nI 5)].toArray wA RX8 := F
  obtain ⟨hx, hb, hml, hown, hts⟩ := id F
  have hl : lv_has ls 2 [(0, .ref (ad 0)), (1, .int (nI 5))] := hl
  obtain ⟨⟨b0, b1, b2, b3, b4, b5, b6, b7, b8⟩, g1, g2, g3, g4⟩ := id hB
  have gf : ∀ j, sf sv j < 10 := fun j => g1 (16 + j) (by omega)
  have gg : ∀ j, sg sv j < 10 := fun j => g1 (28 + j) (by omega)
  have gc : ∀ j, sc sv j ≤ 9 := fun j => by have := g1 (40 + j) (by omega); unfold sc; omega
  have gf7 : ∀ j, j < 12 → sf sv j < 7 := g2
  have gg7 : ∀ j, j < 12 → sg sv j < 7 := g3
  refine lv_aload_n hx hb dX8_tree_0 rfl (lv_at hl 0 rfl) ?_
  refine lv_iconst (v := (nI 0)) hx hb dX8_tree_1 (by decide) ?_
  refine va_put (D := G.1) (ci := 7) (v := .int (nI 0)) (ty := .int) (C := RX8) (T := TX8) (N := 17) hx hb hts inA8 tyX8 tyX8_ok nmX8 hown hX.1 hP hD hS 0 rfl rfl 0 (by decide) (hts _ kw_680) (fun _ h9 => h9) rfl (by decide +kernel) rfl rfl (Nat.le_of_ble_eq_true rfl) dX8_tree_2 (fun H locs hP hD hS => ?_)
  have hP : va_P G.1 vwCl (mow G ad z fo sv d pa ke ik fa te aw) H := hP
  have hD : va_D A (mow G ad z fo sv d pa ke ik fa te aw) := hD
  refine lv_iload_n hx hb dX8_tree_5 rfl (lv_at hl 1 rfl) ?_
  refine lv_tableIn (off := 84) (tgt := 90) hx hb dX8_tree_6 (by decide) (by decide) (by decide +kernel) (by decide) ?_
  refine lv_aload_n hx hb dX8_tree_90 rfl (lv_at hl 0 rfl) ?_
  refine ca_Vi (ci := 7) (q := (RX8, TX8, 17)) (rest := []) (wr := ([] : va_W)) F hX (mX8_busiest l G ad z fo sv d pa ke ik fa te aw  hB) (cA_V hts kw_917 kw_8 kw_914 kw_916 kp_48 hdX8_busiest ⟨Nat.le_of_ble_eq_true rfl, Nat.le_of_ble_eq_true rfl⟩) rfl rfl rfl hl.1 rfl (Nat.le_of_ble_eq_true rfl) dX8_tree_91 ⟨Nat.le_of_ble_eq_true rfl, Nat.le_of_ble_eq_true rfl⟩ hP hD hS hA (pm_nil _) (fun r91 u91 H locs hp91 hP hD hS => ?_)
  have hP : va_P G.1 vwCl (mow G ad z fo sv d pa ke ik fa te aw) H := wp_pm (pm_nil _).symm hP
  have hD : va_D A (mow G ad z fo sv d pa ke ik fa te aw) := wd_pm (pm_nil _).symm hD
  subst hp91
  exact re_i (v := (oN (bstN (mldN (sf sv) (sg sv) (sv 1) (sv 2) (sv 4) (sv 5)) (sv 5) (sv 1)))) hx hb hr hlocks hS () hP hD rfl dX8_tree_94

set_option maxHeartbeats 4000000 in
set_option maxRecDepth 100000 in
theorem mX8_tree_6 (l : Launch) (G : GG) (ad : Nat → Nat) (z : Nat → Nat) (fo : Option Nat) (sv : Nat → Nat) (d : Nat → Int32) (pa ke : Nat → Nat) (ik fa : Nat → Int32) (te aw : Nat → Nat)  (hB : SB sv) : Mi l yX8_tree cX8_tree 2 (some .int) (rmN 3 69) G [.ref (ad 0), .int (nI 6)] (mow G ad z fo sv d pa ke ik fa te aw) (fun (r9 : Int32) (_ : Unit) => r9 = (nI (mneN (sf sv) (sg sv) (sv 1) (sv 2) (sv 4) (sv 5) (nd (2 ^ sv 1 - 1) (sv 6)) (sv 1)))) (fun (_ : Unit) => mow G ad z fo sv d pa ke ik fa te aw) := by
  refine Mi.of (cc := cX8_tree) (nL := 2) (by decide) (Nat.le_of_ble_eq_true rfl) ?_
  intro p e s m below meth c A ls F hr hlocks hnm hX hA hD hP hS hl
  have F : CallFix p m c cX8_tree 2 s [.ref (ad 0), .int (nI 6)].toArray wA RX8 := F
  obtain ⟨hx, hb, hml, hown, hts⟩ := id F
  have hl : lv_has ls 2 [(0, .ref (ad 0)), (1, .int (nI 6))] := hl
  obtain ⟨⟨b0, b1, b2, b3, b4, b5, b6, b7, b8⟩, g1, g2, g3, g4⟩ := id hB
  have gf : ∀ j, sf sv j < 10 := fun j => g1 (16 + j) (by omega)
  have gg : ∀ j, sg sv j < 10 := fun j => g1 (28 + j) (by omega)
  have gc : ∀ j, sc sv j ≤ 9 := fun j => by have := g1 (40 + j) (by omega); unfold sc; omega
  have gf7 : ∀ j, j < 12 → sf sv j < 7 := g2
  have gg7 : ∀ j, j < 12 → sg sv j < 7 := g3
  refine lv_aload_n hx hb dX8_tree_0 rfl (lv_at hl 0 rfl) ?_
  refine lv_iconst (v := (nI 0)) hx hb dX8_tree_1 (by decide) ?_
  refine va_put (D := G.1) (ci := 7) (v := .int (nI 0)) (ty := .int) (C := RX8) (T := TX8) (N := 17) hx hb hts inA8 tyX8 tyX8_ok nmX8 hown hX.1 hP hD hS 0 rfl rfl 0 (by decide) (hts _ kw_680) (fun _ h9 => h9) rfl (by decide +kernel) rfl rfl (Nat.le_of_ble_eq_true rfl) dX8_tree_2 (fun H locs hP hD hS => ?_)
  have hP : va_P G.1 vwCl (mow G ad z fo sv d pa ke ik fa te aw) H := hP
  have hD : va_D A (mow G ad z fo sv d pa ke ik fa te aw) := hD
  refine lv_iload_n hx hb dX8_tree_5 rfl (lv_at hl 1 rfl) ?_
  refine lv_tableIn (off := 89) (tgt := 95) hx hb dX8_tree_6 (by decide) (by decide) (by decide +kernel) (by decide) ?_
  refine lv_aload_n hx hb dX8_tree_95 rfl (lv_at hl 0 rfl) ?_
  refine ca_Vi (ci := 7) (q := (RX8, TX8, 17)) (rest := []) (wr := ([] : va_W)) F hX (mX8_needed l G ad z fo sv d pa ke ik fa te aw  hB) (cA_V hts kw_921 kw_8 kw_918 kw_920 kp_49 hdX8_needed ⟨Nat.le_of_ble_eq_true rfl, Nat.le_of_ble_eq_true rfl⟩) rfl rfl rfl hl.1 rfl (Nat.le_of_ble_eq_true rfl) dX8_tree_96 ⟨Nat.le_of_ble_eq_true rfl, Nat.le_of_ble_eq_true rfl⟩ hP hD hS hA (pm_nil _) (fun r96 u96 H locs hp96 hP hD hS => ?_)
  have hP : va_P G.1 vwCl (mow G ad z fo sv d pa ke ik fa te aw) H := wp_pm (pm_nil _).symm hP
  have hD : va_D A (mow G ad z fo sv d pa ke ik fa te aw) := wd_pm (pm_nil _).symm hD
  subst hp96
  exact re_i (v := (nI (mneN (sf sv) (sg sv) (sv 1) (sv 2) (sv 4) (sv 5) (nd (2 ^ sv 1 - 1) (sv 6)) (sv 1)))) hx hb hr hlocks hS () hP hD rfl dX8_tree_99

theorem hdX8_sees : hdOK yX8_sees 2 := by decide +kernel
set_option maxHeartbeats 4000000 in
set_option maxRecDepth 100000 in
theorem mX8_sees_bad (l : Launch) (G : GG) (ad : Nat → Nat) (z : Nat → Nat) (fo : Option Nat) (sv : Nat → Nat) (d : Nat → Int32) (pa ke : Nat → Nat) (ik fa : Nat → Int32) (te aw : Nat → Nat) (x y : Int32) (hx9 : ¬ (0 ≤ x.toInt ∧ x.toInt ≤ 1) ∨ ¬ (y = -9 ∨ (0 ≤ y.toInt ∧ y.toInt ≤ 99))) : Mi l yX8_sees cX8_sees 3 (some .int) (rmN 1 22) G [.ref (ad 0), .int x, .int y] (mow G ad z fo sv d pa ke ik fa te aw) (fun (r9 : Int32) (_ : Unit) => r9 = (-1)) (fun (_ : Unit) => mow G ad z fo sv d pa ke ik fa te aw) := by
  refine Mi.of (cc := cX8_sees) (nL := 3) (by decide) (Nat.le_of_ble_eq_true rfl) ?_
  intro p e s m below meth c A ls F hr hlocks hnm hX hA hD hP hS hl
  have F : CallFix p m c cX8_sees 3 s [.ref (ad 0), .int x, .int y].toArray wA RX8 := F
  obtain ⟨hx, hb, hml, hown, hts⟩ := id F
  have hl : lv_has ls 3 [(0, .ref (ad 0)), (1, .int x), (2, .int y)] := hl
  refine lv_aload_n hx hb dX8_sees_0 rfl (lv_at hl 0 rfl) ?_
  refine lv_iconst (v := (nI 0)) hx hb dX8_sees_1 (by decide) ?_
  refine va_put (D := G.1) (ci := 7) (v := .int (nI 0)) (ty := .int) (C := RX8) (T := TX8) (N := 17) hx hb hts inA8 tyX8 tyX8_ok nmX8 hown hX.1 hP hD hS 0 rfl rfl 0 (by decide) (hts _ kw_680) (fun _ h9 => h9) rfl (by decide +kernel) rfl rfl (Nat.le_of_ble_eq_true rfl) dX8_sees_2 (fun H locs hP hD hS => ?_)
  have hP : va_P G.1 vwCl (mow G ad z fo sv d pa ke ik fa te aw) H := hP
  have hD : va_D A (mow G ad z fo sv d pa ke ik fa te aw) := hD
  refine lv_iload_n hx hb dX8_sees_5 rfl (lv_at hl 1 rfl) ?_
  refine lv_iconst (v := (nI 0)) hx hb dX8_sees_6 (by decide) ?_
  refine lv_iconst (v := (nI 1)) hx hb dX8_sees_7 (by decide) ?_
  refine ca_Si (rest := []) (wr := mow G ad z fo sv d pa ke ik fa te aw) F hX (mX8_in l G x (nI 0) (nI 1)) (cA_S hts kw_738 kw_8 kw_736 kw_737 hdX8_in ⟨Nat.le_of_ble_eq_true rfl, Nat.le_of_ble_eq_true rfl⟩) rfl hl.1 rfl (Nat.le_of_ble_eq_true rfl) dX8_sees_8 ⟨Nat.le_of_ble_eq_true rfl, Nat.le_of_ble_eq_true rfl⟩ hP hD hS hA (List.Perm.refl _) (fun r8 u8 H locs hp8 hP hD hS => ?_)
  have hP : va_P G.1 vwCl (mow G ad z fo sv d pa ke ik fa te aw) H := hP
  have hD : va_D A (mow G ad z fo sv d pa ke ik fa te aw) := hD
  subst hp8
  refine ti (y := (bI (decide (0 ≤ x.toInt ∧ x.toInt ≤ 1)))) (by rw [in_dec2 x (by decide)]; rfl) ?_
  refine bv_eq (b := decide (0 ≤ x.toInt ∧ x.toInt ≤ 1)) (tgt := 30) hx hb dX8_sees_11 (by decide) (fun c11 => ?_) (fun c11 => ?_)
  · refine lv_iconst (v := (-1)) hx hb dX8_sees_30 (by decide) ?_
    exact re_i (v := (-1)) hx hb hr hlocks hS () hP hD rfl dX8_sees_31
  · refine lv_iload_n hx hb dX8_sees_14 rfl (lv_at hl 2 rfl) ?_
    refine lv_bipush (v := (-9)) hx hb dX8_sees_15 (by decide) ?_
    refine lv_icmp_eq (x := y) (y := (-9)) (tgt := 32) hx hb dX8_sees_17 (by decide) (fun c17 => ?_) (fun c17 => ?_)
    · exact False.elim (hx9.elim (fun h => h (of_decide_eq_true c11)) (fun h => h (Or.inl c17)))
    · refine lv_iload_n hx hb dX8_sees_20 rfl (lv_at hl 2 rfl) ?_
      refine lv_iconst (v := (nI 0)) hx hb dX8_sees_21 (by decide) ?_
      refine lv_bipush (v := (nI 99)) hx hb dX8_sees_22 (by decide) ?_
      refine ca_Si (rest := []) (wr := mow G ad z fo sv d pa ke ik fa te aw) F hX (mX8_in l G y (nI 0) (nI 99)) (cA_S hts kw_738 kw_8 kw_736 kw_737 hdX8_in ⟨Nat.le_of_ble_eq_true rfl, Nat.le_of_ble_eq_true rfl⟩) rfl hl.1 rfl (Nat.le_of_ble_eq_true rfl) dX8_sees_24 ⟨Nat.le_of_ble_eq_true rfl, Nat.le_of_ble_eq_true rfl⟩ hP hD hS hA (List.Perm.refl _) (fun r24 u24 H locs hp24 hP hD hS => ?_)
      have hP : va_P G.1 vwCl (mow G ad z fo sv d pa ke ik fa te aw) H := hP
      have hD : va_D A (mow G ad z fo sv d pa ke ik fa te aw) := hD
      subst hp24
      refine ti (y := (bI (decide (0 ≤ y.toInt ∧ y.toInt ≤ 99)))) (by rw [in_dec2 y (by decide)]; rfl) ?_
      refine bv_ne (b := decide (0 ≤ y.toInt ∧ y.toInt ≤ 99)) (tgt := 32) hx hb dX8_sees_27 (by decide) (fun c27 => ?_) (fun c27 => ?_)
      · exact False.elim (hx9.elim (fun h => h (of_decide_eq_true c11)) (fun h => h (Or.inr (of_decide_eq_true c27))))
      · refine lv_iconst (v := (-1)) hx hb dX8_sees_30 (by decide) ?_
        exact re_i (v := (-1)) hx hb hr hlocks hS () hP hD rfl dX8_sees_31

set_option maxHeartbeats 4000000 in
set_option maxRecDepth 100000 in
theorem mX8_sees_full (l : Launch) (G : GG) (ad : Nat → Nat) (z : Nat → Nat) (fo : Option Nat) (sv : Nat → Nat) (d : Nat → Int32) (pa ke : Nat → Nat) (ik fa : Nat → Int32) (te aw : Nat → Nat) (x : Nat) (y : Int32) (hx9 : x ≤ 1) (hy9 : y = -9 ∨ (0 ≤ y.toInt ∧ y.toInt ≤ 99)) (hz : z 8 = 6) : Mi l yX8_sees cX8_sees 3 (some .int) (rmN 1 22) G [.ref (ad 0), .int (nI x), .int y] (mow G ad z fo sv d pa ke ik fa te aw) (fun (r9 : Int32) (_ : Unit) => r9 = (-3)) (fun (_ : Unit) => mow G ad z fo sv d pa ke ik fa te aw) := by
  refine Mi.of (cc := cX8_sees) (nL := 3) (by decide) (Nat.le_of_ble_eq_true rfl) ?_
  intro p e s m below meth c A ls F hr hlocks hnm hX hA hD hP hS hl
  have F : CallFix p m c cX8_sees 3 s [.ref (ad 0), .int (nI x), .int y].toArray wA RX8 := F
  obtain ⟨hx, hb, hml, hown, hts⟩ := id F
  have hl : lv_has ls 3 [(0, .ref (ad 0)), (1, .int (nI x)), (2, .int y)] := hl
  refine lv_aload_n hx hb dX8_sees_0 rfl (lv_at hl 0 rfl) ?_
  refine lv_iconst (v := (nI 0)) hx hb dX8_sees_1 (by decide) ?_
  refine va_put (D := G.1) (ci := 7) (v := .int (nI 0)) (ty := .int) (C := RX8) (T := TX8) (N := 17) hx hb hts inA8 tyX8 tyX8_ok nmX8 hown hX.1 hP hD hS 0 rfl rfl 0 (by decide) (hts _ kw_680) (fun _ h9 => h9) rfl (by decide +kernel) rfl rfl (Nat.le_of_ble_eq_true rfl) dX8_sees_2 (fun H locs hP hD hS => ?_)
  have hP : va_P G.1 vwCl (mow G ad z fo sv d pa ke ik fa te aw) H := hP
  have hD : va_D A (mow G ad z fo sv d pa ke ik fa te aw) := hD
  refine lv_iload_n hx hb dX8_sees_5 rfl (lv_at hl 1 rfl) ?_
  refine lv_iconst (v := (nI 0)) hx hb dX8_sees_6 (by decide) ?_
  refine lv_iconst (v := (nI 1)) hx hb dX8_sees_7 (by decide) ?_
  refine ca_Si (rest := []) (wr := mow G ad z fo sv d pa ke ik fa te aw) F hX (mX8_in l G (nI x) (nI 0) (nI 1)) (cA_S hts kw_738 kw_8 kw_736 kw_737 hdX8_in ⟨Nat.le_of_ble_eq_true rfl, Nat.le_of_ble_eq_true rfl⟩) rfl hl.1 rfl (Nat.le_of_ble_eq_true rfl) dX8_sees_8 ⟨Nat.le_of_ble_eq_true rfl, Nat.le_of_ble_eq_true rfl⟩ hP hD hS hA (List.Perm.refl _) (fun r8 u8 H locs hp8 hP hD hS => ?_)
  have hP : va_P G.1 vwCl (mow G ad z fo sv d pa ke ik fa te aw) H := hP
  have hD : va_D A (mow G ad z fo sv d pa ke ik fa te aw) := hD
  subst hp8
  refine ti (y := (bI true)) (by rw [in_in (v := x) (n := 1) (by omega) (by decide)]) ?_
  refine bv_eq (b := true) (tgt := 30) hx hb dX8_sees_11 (by decide) (fun c11 => ?_) (fun c11 => ?_)
  · exact absurd c11 (by decide)
  · refine lv_iload_n hx hb dX8_sees_14 rfl (lv_at hl 2 rfl) ?_
    refine lv_bipush (v := (-9)) hx hb dX8_sees_15 (by decide) ?_
    refine lv_icmp_eq (x := y) (y := (-9)) (tgt := 32) hx hb dX8_sees_17 (by decide) (fun c17 => ?_) (fun c17 => ?_)
    · refine lv_aload_n hx hb dX8_sees_32 rfl (lv_at hl 0 rfl) ?_
      refine va_get (D := G.1) (ci := 7) (v := .int (nI (z 8))) (C := RX8) (T := TX8) (N := 17) hx hb hts inA8 hown hX.1 hP 0 rfl rfl 8 (by decide) (hts _ kw_688) (fun _ h9 => h9) rfl dX8_sees_33 ?_
      refine lv_bipush (v := (nI 6)) hx hb dX8_sees_36 (by decide) ?_
      refine nv_ne (x := z 8) (y := 6) (tgt := 44) hx hb dX8_sees_38 (by decide) (by omega) (by decide) (fun c38 => ?_) (fun c38 => ?_)
      · exact absurd hz c38
      · refine lv_bipush (v := (-3)) hx hb dX8_sees_41 (by decide) ?_
        exact re_i (v := (-3)) hx hb hr hlocks hS () hP hD rfl dX8_sees_43
    · refine lv_iload_n hx hb dX8_sees_20 rfl (lv_at hl 2 rfl) ?_
      refine lv_iconst (v := (nI 0)) hx hb dX8_sees_21 (by decide) ?_
      refine lv_bipush (v := (nI 99)) hx hb dX8_sees_22 (by decide) ?_
      refine ca_Si (rest := []) (wr := mow G ad z fo sv d pa ke ik fa te aw) F hX (mX8_in l G y (nI 0) (nI 99)) (cA_S hts kw_738 kw_8 kw_736 kw_737 hdX8_in ⟨Nat.le_of_ble_eq_true rfl, Nat.le_of_ble_eq_true rfl⟩) rfl hl.1 rfl (Nat.le_of_ble_eq_true rfl) dX8_sees_24 ⟨Nat.le_of_ble_eq_true rfl, Nat.le_of_ble_eq_true rfl⟩ hP hD hS hA (List.Perm.refl _) (fun r24 u24 H locs hp24 hP hD hS => ?_)
      have hP : va_P G.1 vwCl (mow G ad z fo sv d pa ke ik fa te aw) H := hP
      have hD : va_D A (mow G ad z fo sv d pa ke ik fa te aw) := hD
      subst hp24
      refine ti (y := (bI (decide (0 ≤ y.toInt ∧ y.toInt ≤ 99)))) (by rw [in_dec2 y (by decide)]; rfl) ?_
      refine bv_ne (b := decide (0 ≤ y.toInt ∧ y.toInt ≤ 99)) (tgt := 32) hx hb dX8_sees_27 (by decide) (fun c27 => ?_) (fun c27 => ?_)
      · refine lv_aload_n hx hb dX8_sees_32 rfl (lv_at hl 0 rfl) ?_
        refine va_get (D := G.1) (ci := 7) (v := .int (nI (z 8))) (C := RX8) (T := TX8) (N := 17) hx hb hts inA8 hown hX.1 hP 0 rfl rfl 8 (by decide) (hts _ kw_688) (fun _ h9 => h9) rfl dX8_sees_33 ?_
        refine lv_bipush (v := (nI 6)) hx hb dX8_sees_36 (by decide) ?_
        refine nv_ne (x := z 8) (y := 6) (tgt := 44) hx hb dX8_sees_38 (by decide) (by omega) (by decide) (fun c38 => ?_) (fun c38 => ?_)
        · exact absurd hz c38
        · refine lv_bipush (v := (-3)) hx hb dX8_sees_41 (by decide) ?_
          exact re_i (v := (-3)) hx hb hr hlocks hS () hP hD rfl dX8_sees_43
      · exact False.elim (hy9.elim (fun h => c17 h) (fun h => (of_decide_eq_false c27) h))

set_option maxHeartbeats 4000000 in
set_option maxRecDepth 100000 in
theorem mX8_sees_ok (l : Launch) (G : GG) (ad : Nat → Nat) (z : Nat → Nat) (fo : Option Nat) (sv : Nat → Nat) (d : Nat → Int32) (pa ke : Nat → Nat) (ik fa : Nat → Int32) (te aw : Nat → Nat) (x : Nat) (y : Int32) (hx9 : x ≤ 1) (hy9 : y = -9 ∨ (0 ≤ y.toInt ∧ y.toInt ≤ 99)) (hz : z 8 < 6) : Mi l yX8_sees cX8_sees 3 (some .int) (rmN 1 22) G [.ref (ad 0), .int (nI x), .int y] (mow G ad z fo sv d pa ke ik fa te aw) (fun (r9 : Int32) (_ : Unit) => r9 = (nI (z 8 + 1))) (fun (_ : Unit) => mow G ad (va_up z 8 (z 8 + 1)) fo sv d pa ke ik (upd (upd fa (2 * z 8) (nI x)) (2 * z 8 + 1) y) te aw) := by
  refine Mi.of (cc := cX8_sees) (nL := 3) (by decide) (Nat.le_of_ble_eq_true rfl) ?_
  intro p e s m below meth c A ls F hr hlocks hnm hX hA hD hP hS hl
  have F : CallFix p m c cX8_sees 3 s [.ref (ad 0), .int (nI x), .int y].toArray wA RX8 := F
  obtain ⟨hx, hb, hml, hown, hts⟩ := id F
  have hl : lv_has ls 3 [(0, .ref (ad 0)), (1, .int (nI x)), (2, .int y)] := hl
  refine lv_aload_n hx hb dX8_sees_0 rfl (lv_at hl 0 rfl) ?_
  refine lv_iconst (v := (nI 0)) hx hb dX8_sees_1 (by decide) ?_
  refine va_put (D := G.1) (ci := 7) (v := .int (nI 0)) (ty := .int) (C := RX8) (T := TX8) (N := 17) hx hb hts inA8 tyX8 tyX8_ok nmX8 hown hX.1 hP hD hS 0 rfl rfl 0 (by decide) (hts _ kw_680) (fun _ h9 => h9) rfl (by decide +kernel) rfl rfl (Nat.le_of_ble_eq_true rfl) dX8_sees_2 (fun H locs hP hD hS => ?_)
  have hP : va_P G.1 vwCl (mow G ad z fo sv d pa ke ik fa te aw) H := hP
  have hD : va_D A (mow G ad z fo sv d pa ke ik fa te aw) := hD
  refine lv_iload_n hx hb dX8_sees_5 rfl (lv_at hl 1 rfl) ?_
  refine lv_iconst (v := (nI 0)) hx hb dX8_sees_6 (by decide) ?_
  refine lv_iconst (v := (nI 1)) hx hb dX8_sees_7 (by decide) ?_
  refine ca_Si (rest := []) (wr := mow G ad z fo sv d pa ke ik fa te aw) F hX (mX8_in l G (nI x) (nI 0) (nI 1)) (cA_S hts kw_738 kw_8 kw_736 kw_737 hdX8_in ⟨Nat.le_of_ble_eq_true rfl, Nat.le_of_ble_eq_true rfl⟩) rfl hl.1 rfl (Nat.le_of_ble_eq_true rfl) dX8_sees_8 ⟨Nat.le_of_ble_eq_true rfl, Nat.le_of_ble_eq_true rfl⟩ hP hD hS hA (List.Perm.refl _) (fun r8 u8 H locs hp8 hP hD hS => ?_)
  have hP : va_P G.1 vwCl (mow G ad z fo sv d pa ke ik fa te aw) H := hP
  have hD : va_D A (mow G ad z fo sv d pa ke ik fa te aw) := hD
  subst hp8
  refine ti (y := (bI true)) (by rw [in_in (v := x) (n := 1) (by omega) (by decide)]) ?_
  refine bv_eq (b := true) (tgt := 30) hx hb dX8_sees_11 (by decide) (fun c11 => ?_) (fun c11 => ?_)
  · exact absurd c11 (by decide)
  · refine lv_iload_n hx hb dX8_sees_14 rfl (lv_at hl 2 rfl) ?_
    refine lv_bipush (v := (-9)) hx hb dX8_sees_15 (by decide) ?_
    refine lv_icmp_eq (x := y) (y := (-9)) (tgt := 32) hx hb dX8_sees_17 (by decide) (fun c17 => ?_) (fun c17 => ?_)
    · refine lv_aload_n hx hb dX8_sees_32 rfl (lv_at hl 0 rfl) ?_
      refine va_get (D := G.1) (ci := 7) (v := .int (nI (z 8))) (C := RX8) (T := TX8) (N := 17) hx hb hts inA8 hown hX.1 hP 0 rfl rfl 8 (by decide) (hts _ kw_688) (fun _ h9 => h9) rfl dX8_sees_33 ?_
      refine lv_bipush (v := (nI 6)) hx hb dX8_sees_36 (by decide) ?_
      refine nv_ne (x := z 8) (y := 6) (tgt := 44) hx hb dX8_sees_38 (by decide) (by omega) (by decide) (fun c38 => ?_) (fun c38 => ?_)
      · refine lv_aload_n hx hb dX8_sees_44 rfl (lv_at hl 0 rfl) ?_
        refine va_get (D := G.1) (ci := 7) (v := .ref (ad 6)) (C := RX8) (T := TX8) (N := 17) hx hb hts inA8 hown hX.1 hP 0 rfl rfl 7 (by decide) (hts _ kw_687) (fun _ h9 => h9) rfl dX8_sees_45 ?_
        refine lv_iconst (v := (nI 2)) hx hb dX8_sees_48 (by decide) ?_
        refine lv_aload_n hx hb dX8_sees_49 rfl (lv_at hl 0 rfl) ?_
        refine va_get (D := G.1) (ci := 7) (v := .int (nI (z 8))) (C := RX8) (T := TX8) (N := 17) hx hb hts inA8 hown hX.1 hP 0 rfl rfl 8 (by decide) (hts _ kw_688) (fun _ h9 => h9) rfl dX8_sees_50 ?_
        refine lv_imul hx hb dX8_sees_53 (ti (y := (nI (2 * (z 8)))) (pk_mul _ _) ?_)
        refine lv_iload_n hx hb dX8_sees_54 rfl (lv_at hl 1 rfl) ?_
        refine nv_astI (f := fa) (k := 2 * (z 8)) (v := (nI x)) hx hb hX hP hD hS 6 rfl (by omega) (by decide) dX8_sees_55 (fun H locs hP hD hS => ?_)
        have hP : va_P G.1 vwCl (mow G ad z fo sv d pa ke ik (upd fa (2 * (z 8)) (nI x)) te aw) H := hP
        have hD : va_D A (mow G ad z fo sv d pa ke ik (upd fa (2 * (z 8)) (nI x)) te aw) := hD
        refine lv_aload_n hx hb dX8_sees_56 rfl (lv_at hl 0 rfl) ?_
        refine va_get (D := G.1) (ci := 7) (v := .ref (ad 6)) (C := RX8) (T := TX8) (N := 17) hx hb hts inA8 hown hX.1 hP 0 rfl rfl 7 (by decide) (hts _ kw_687) (fun _ h9 => h9) rfl dX8_sees_57 ?_
        refine lv_iconst (v := (nI 2)) hx hb dX8_sees_60 (by decide) ?_
        refine lv_aload_n hx hb dX8_sees_61 rfl (lv_at hl 0 rfl) ?_
        refine va_get (D := G.1) (ci := 7) (v := .int (nI (z 8))) (C := RX8) (T := TX8) (N := 17) hx hb hts inA8 hown hX.1 hP 0 rfl rfl 8 (by decide) (hts _ kw_688) (fun _ h9 => h9) rfl dX8_sees_62 ?_
        refine lv_imul hx hb dX8_sees_65 (ti (y := (nI (2 * (z 8)))) (pk_mul _ _) ?_)
        refine lv_iconst (v := (nI 1)) hx hb dX8_sees_66 (by decide) ?_
        refine lv_iadd hx hb dX8_sees_67 (ti (y := (nI ((2 * (z 8)) + 1))) (nI_add _ _) ?_)
        refine lv_iload_n hx hb dX8_sees_68 rfl (lv_at hl 2 rfl) ?_
        refine nv_astI (f := upd fa (2 * (z 8)) (nI x)) (k := (2 * (z 8)) + 1) (v := y) hx hb hX hP hD hS 6 rfl (by omega) (by decide) dX8_sees_69 (fun H locs hP hD hS => ?_)
        have hP : va_P G.1 vwCl (mow G ad z fo sv d pa ke ik (upd (upd fa (2 * (z 8)) (nI x)) ((2 * (z 8)) + 1) y) te aw) H := hP
        have hD : va_D A (mow G ad z fo sv d pa ke ik (upd (upd fa (2 * (z 8)) (nI x)) ((2 * (z 8)) + 1) y) te aw) := hD
        refine lv_aload_n hx hb dX8_sees_70 rfl (lv_at hl 0 rfl) ?_
        refine lv_dup hx hb dX8_sees_71 rfl ?_
        refine va_get (D := G.1) (ci := 7) (v := .int (nI (z 8))) (C := RX8) (T := TX8) (N := 17) hx hb hts inA8 hown hX.1 hP 0 rfl rfl 8 (by decide) (hts _ kw_688) (fun _ h9 => h9) rfl dX8_sees_72 ?_
        refine lv_iconst (v := (nI 1)) hx hb dX8_sees_75 (by decide) ?_
        refine lv_iadd hx hb dX8_sees_76 (ti (y := (nI ((z 8) + 1))) (nI_add _ _) ?_)
        refine va_put (D := G.1) (ci := 7) (v := .int (nI ((z 8) + 1))) (ty := .int) (C := RX8) (T := TX8) (N := 17) hx hb hts inA8 tyX8 tyX8_ok nmX8 hown hX.1 hP hD hS 0 rfl rfl 8 (by decide) (hts _ kw_688) (fun _ h9 => h9) rfl (by decide +kernel) rfl rfl (Nat.le_of_ble_eq_true rfl) dX8_sees_77 (fun H locs hP hD hS => ?_)
        have hP : va_P G.1 vwCl (mow G ad (va_up z 8 ((z 8) + 1)) fo sv d pa ke ik (upd (upd fa (2 * (z 8)) (nI x)) ((2 * (z 8)) + 1) y) te aw) H := hP
        have hD : va_D A (mow G ad (va_up z 8 ((z 8) + 1)) fo sv d pa ke ik (upd (upd fa (2 * (z 8)) (nI x)) ((2 * (z 8)) + 1) y) te aw) := hD
        refine lv_aload_n hx hb dX8_sees_80 rfl (lv_at hl 0 rfl) ?_
        refine va_get (D := G.1) (ci := 7) (v := .int (nI ((z 8) + 1))) (C := RX8) (T := TX8) (N := 17) hx hb hts inA8 hown hX.1 hP 0 rfl rfl 8 (by decide) (hts _ kw_688) (fun _ h9 => h9) rfl dX8_sees_81 ?_
        exact re_i (v := (nI ((z 8) + 1))) hx hb hr hlocks hS () hP hD rfl dX8_sees_84
      · exact absurd c38 (by omega)
    · refine lv_iload_n hx hb dX8_sees_20 rfl (lv_at hl 2 rfl) ?_
      refine lv_iconst (v := (nI 0)) hx hb dX8_sees_21 (by decide) ?_
      refine lv_bipush (v := (nI 99)) hx hb dX8_sees_22 (by decide) ?_
      refine ca_Si (rest := []) (wr := mow G ad z fo sv d pa ke ik fa te aw) F hX (mX8_in l G y (nI 0) (nI 99)) (cA_S hts kw_738 kw_8 kw_736 kw_737 hdX8_in ⟨Nat.le_of_ble_eq_true rfl, Nat.le_of_ble_eq_true rfl⟩) rfl hl.1 rfl (Nat.le_of_ble_eq_true rfl) dX8_sees_24 ⟨Nat.le_of_ble_eq_true rfl, Nat.le_of_ble_eq_true rfl⟩ hP hD hS hA (List.Perm.refl _) (fun r24 u24 H locs hp24 hP hD hS => ?_)
      have hP : va_P G.1 vwCl (mow G ad z fo sv d pa ke ik fa te aw) H := hP
      have hD : va_D A (mow G ad z fo sv d pa ke ik fa te aw) := hD
      subst hp24
      refine ti (y := (bI (decide (0 ≤ y.toInt ∧ y.toInt ≤ 99)))) (by rw [in_dec2 y (by decide)]; rfl) ?_
      refine bv_ne (b := decide (0 ≤ y.toInt ∧ y.toInt ≤ 99)) (tgt := 32) hx hb dX8_sees_27 (by decide) (fun c27 => ?_) (fun c27 => ?_)
      · refine lv_aload_n hx hb dX8_sees_32 rfl (lv_at hl 0 rfl) ?_
        refine va_get (D := G.1) (ci := 7) (v := .int (nI (z 8))) (C := RX8) (T := TX8) (N := 17) hx hb hts inA8 hown hX.1 hP 0 rfl rfl 8 (by decide) (hts _ kw_688) (fun _ h9 => h9) rfl dX8_sees_33 ?_
        refine lv_bipush (v := (nI 6)) hx hb dX8_sees_36 (by decide) ?_
        refine nv_ne (x := z 8) (y := 6) (tgt := 44) hx hb dX8_sees_38 (by decide) (by omega) (by decide) (fun c38 => ?_) (fun c38 => ?_)
        · refine lv_aload_n hx hb dX8_sees_44 rfl (lv_at hl 0 rfl) ?_
          refine va_get (D := G.1) (ci := 7) (v := .ref (ad 6)) (C := RX8) (T := TX8) (N := 17) hx hb hts inA8 hown hX.1 hP 0 rfl rfl 7 (by decide) (hts _ kw_687) (fun _ h9 => h9) rfl dX8_sees_45 ?_
          refine lv_iconst (v := (nI 2)) hx hb dX8_sees_48 (by decide) ?_
          refine lv_aload_n hx hb dX8_sees_49 rfl (lv_at hl 0 rfl) ?_
          refine va_get (D := G.1) (ci := 7) (v := .int (nI (z 8))) (C := RX8) (T := TX8) (N := 17) hx hb hts inA8 hown hX.1 hP 0 rfl rfl 8 (by decide) (hts _ kw_688) (fun _ h9 => h9) rfl dX8_sees_50 ?_
          refine lv_imul hx hb dX8_sees_53 (ti (y := (nI (2 * (z 8)))) (pk_mul _ _) ?_)
          refine lv_iload_n hx hb dX8_sees_54 rfl (lv_at hl 1 rfl) ?_
          refine nv_astI (f := fa) (k := 2 * (z 8)) (v := (nI x)) hx hb hX hP hD hS 6 rfl (by omega) (by decide) dX8_sees_55 (fun H locs hP hD hS => ?_)
          have hP : va_P G.1 vwCl (mow G ad z fo sv d pa ke ik (upd fa (2 * (z 8)) (nI x)) te aw) H := hP
          have hD : va_D A (mow G ad z fo sv d pa ke ik (upd fa (2 * (z 8)) (nI x)) te aw) := hD
          refine lv_aload_n hx hb dX8_sees_56 rfl (lv_at hl 0 rfl) ?_
          refine va_get (D := G.1) (ci := 7) (v := .ref (ad 6)) (C := RX8) (T := TX8) (N := 17) hx hb hts inA8 hown hX.1 hP 0 rfl rfl 7 (by decide) (hts _ kw_687) (fun _ h9 => h9) rfl dX8_sees_57 ?_
          refine lv_iconst (v := (nI 2)) hx hb dX8_sees_60 (by decide) ?_
          refine lv_aload_n hx hb dX8_sees_61 rfl (lv_at hl 0 rfl) ?_
          refine va_get (D := G.1) (ci := 7) (v := .int (nI (z 8))) (C := RX8) (T := TX8) (N := 17) hx hb hts inA8 hown hX.1 hP 0 rfl rfl 8 (by decide) (hts _ kw_688) (fun _ h9 => h9) rfl dX8_sees_62 ?_
          refine lv_imul hx hb dX8_sees_65 (ti (y := (nI (2 * (z 8)))) (pk_mul _ _) ?_)
          refine lv_iconst (v := (nI 1)) hx hb dX8_sees_66 (by decide) ?_
          refine lv_iadd hx hb dX8_sees_67 (ti (y := (nI ((2 * (z 8)) + 1))) (nI_add _ _) ?_)
          refine lv_iload_n hx hb dX8_sees_68 rfl (lv_at hl 2 rfl) ?_
          refine nv_astI (f := upd fa (2 * (z 8)) (nI x)) (k := (2 * (z 8)) + 1) (v := y) hx hb hX hP hD hS 6 rfl (by omega) (by decide) dX8_sees_69 (fun H locs hP hD hS => ?_)
          have hP : va_P G.1 vwCl (mow G ad z fo sv d pa ke ik (upd (upd fa (2 * (z 8)) (nI x)) ((2 * (z 8)) + 1) y) te aw) H := hP
          have hD : va_D A (mow G ad z fo sv d pa ke ik (upd (upd fa (2 * (z 8)) (nI x)) ((2 * (z 8)) + 1) y) te aw) := hD
          refine lv_aload_n hx hb dX8_sees_70 rfl (lv_at hl 0 rfl) ?_
          refine lv_dup hx hb dX8_sees_71 rfl ?_
          refine va_get (D := G.1) (ci := 7) (v := .int (nI (z 8))) (C := RX8) (T := TX8) (N := 17) hx hb hts inA8 hown hX.1 hP 0 rfl rfl 8 (by decide) (hts _ kw_688) (fun _ h9 => h9) rfl dX8_sees_72 ?_
          refine lv_iconst (v := (nI 1)) hx hb dX8_sees_75 (by decide) ?_
          refine lv_iadd hx hb dX8_sees_76 (ti (y := (nI ((z 8) + 1))) (nI_add _ _) ?_)
          refine va_put (D := G.1) (ci := 7) (v := .int (nI ((z 8) + 1))) (ty := .int) (C := RX8) (T := TX8) (N := 17) hx hb hts inA8 tyX8 tyX8_ok nmX8 hown hX.1 hP hD hS 0 rfl rfl 8 (by decide) (hts _ kw_688) (fun _ h9 => h9) rfl (by decide +kernel) rfl rfl (Nat.le_of_ble_eq_true rfl) dX8_sees_77 (fun H locs hP hD hS => ?_)
          have hP : va_P G.1 vwCl (mow G ad (va_up z 8 ((z 8) + 1)) fo sv d pa ke ik (upd (upd fa (2 * (z 8)) (nI x)) ((2 * (z 8)) + 1) y) te aw) H := hP
          have hD : va_D A (mow G ad (va_up z 8 ((z 8) + 1)) fo sv d pa ke ik (upd (upd fa (2 * (z 8)) (nI x)) ((2 * (z 8)) + 1) y) te aw) := hD
          refine lv_aload_n hx hb dX8_sees_80 rfl (lv_at hl 0 rfl) ?_
          refine va_get (D := G.1) (ci := 7) (v := .int (nI ((z 8) + 1))) (C := RX8) (T := TX8) (N := 17) hx hb hts inA8 hown hX.1 hP 0 rfl rfl 8 (by decide) (hts _ kw_688) (fun _ h9 => h9) rfl dX8_sees_81 ?_
          exact re_i (v := (nI ((z 8) + 1))) hx hb hr hlocks hS () hP hD rfl dX8_sees_84
        · exact absurd c38 (by omega)
      · exact False.elim (hy9.elim (fun h => c17 h) (fun h => (of_decide_eq_false c27) h))

theorem hdX8_which : hdOK yX8_which 1 := by decide +kernel
set_option maxHeartbeats 4000000 in
set_option maxRecDepth 100000 in
theorem mX8_which_bad (l : Launch) (G : GG) (ad : Nat → Nat) (z : Nat → Nat) (fo : Option Nat) (sv : Nat → Nat) (d : Nat → Int32) (pa ke : Nat → Nat) (ik fa : Nat → Int32) (te aw : Nat → Nat) (x : Int32) (hx9 : ¬ (0 ≤ x.toInt ∧ x.toInt ≤ 1)) : Mi l yX8_which cX8_which 7 (some .int) (rmN 1 22) G [.ref (ad 0), .int x] (mow G ad z fo sv d pa ke ik fa te aw) (fun (r9 : Int32) (_ : Unit) => r9 = (-1)) (fun (_ : Unit) => mow G ad z fo sv d pa ke ik fa te aw) := by
  refine Mi.of (cc := cX8_which) (nL := 7) (by decide) (Nat.le_of_ble_eq_true rfl) ?_
  intro p e s m below meth c A ls F hr hlocks hnm hX hA hD hP hS hl
  have F : CallFix p m c cX8_which 7 s [.ref (ad 0), .int x].toArray wA RX8 := F
  obtain ⟨hx, hb, hml, hown, hts⟩ := id F
  have hl : lv_has ls 7 [(0, .ref (ad 0)), (1, .int x)] := hl
  refine lv_aload_n hx hb dX8_which_0 rfl (lv_at hl 0 rfl) ?_
  refine lv_iconst (v := (nI 0)) hx hb dX8_which_1 (by decide) ?_
  refine va_put (D := G.1) (ci := 7) (v := .int (nI 0)) (ty := .int) (C := RX8) (T := TX8) (N := 17) hx hb hts inA8 tyX8 tyX8_ok nmX8 hown hX.1 hP hD hS 0 rfl rfl 0 (by decide) (hts _ kw_680) (fun _ h9 => h9) rfl (by decide +kernel) rfl rfl (Nat.le_of_ble_eq_true rfl) dX8_which_2 (fun H locs hP hD hS => ?_)
  have hP : va_P G.1 vwCl (mow G ad z fo sv d pa ke ik fa te aw) H := hP
  have hD : va_D A (mow G ad z fo sv d pa ke ik fa te aw) := hD
  refine lv_iload_n hx hb dX8_which_5 rfl (lv_at hl 1 rfl) ?_
  refine lv_iconst (v := (nI 0)) hx hb dX8_which_6 (by decide) ?_
  refine lv_iconst (v := (nI 1)) hx hb dX8_which_7 (by decide) ?_
  refine ca_Si (rest := []) (wr := mow G ad z fo sv d pa ke ik fa te aw) F hX (mX8_in l G x (nI 0) (nI 1)) (cA_S hts kw_738 kw_8 kw_736 kw_737 hdX8_in ⟨Nat.le_of_ble_eq_true rfl, Nat.le_of_ble_eq_true rfl⟩) rfl hl.1 rfl (Nat.le_of_ble_eq_true rfl) dX8_which_8 ⟨Nat.le_of_ble_eq_true rfl, Nat.le_of_ble_eq_true rfl⟩ hP hD hS hA (List.Perm.refl _) (fun r8 u8 H locs hp8 hP hD hS => ?_)
  have hP : va_P G.1 vwCl (mow G ad z fo sv d pa ke ik fa te aw) H := hP
  have hD : va_D A (mow G ad z fo sv d pa ke ik fa te aw) := hD
  subst hp8
  refine ti (y := (bI (decide (0 ≤ x.toInt ∧ x.toInt ≤ 1)))) (by rw [in_dec2 x (by decide)]; rfl) ?_
  refine bv_ne (b := decide (0 ≤ x.toInt ∧ x.toInt ≤ 1)) (tgt := 16) hx hb dX8_which_11 (by decide) (fun c11 => ?_) (fun c11 => ?_)
  · exact absurd (of_decide_eq_true c11) hx9
  · refine lv_iconst (v := (-1)) hx hb dX8_which_14 (by decide) ?_
    exact re_i (v := (-1)) hx hb hr hlocks hS () hP hD rfl dX8_which_15

set_option maxHeartbeats 4000000 in
set_option maxRecDepth 100000 in
theorem mX8_which_0 (l : Launch) (G : GG) (ad : Nat → Nat) (z : Nat → Nat) (fo : Option Nat) (sv : Nat → Nat) (d : Nat → Int32) (pa ke : Nat → Nat) (ik fa : Nat → Int32) (te aw : Nat → Nat)  (hB : SB sv) (ha : ∀ j, aw j ≤ 1000000) (hz : z 8 ≤ 6) : Mi l yX8_which cX8_which 7 (some .int) (rmN 2 47) G [.ref (ad 0), .int (nI 0)] (mow G ad z fo sv d pa ke ik fa te aw) (fun (r9 : Int32) (_ : Unit) => r9 = (nI ((mwS (mesN (sf sv) (sg sv) (sc sv) (sv 6) (sv 1) (sv 0) (clo (sf sv) (sg sv) (sv 5) (sv 1) (sv 2)) aw) fa (z 8) (sv 2) (sv 4) (sv 0)).1))) (fun (_ : Unit) => mow G ad z fo sv d pa ke ik fa te (mesN (sf sv) (sg sv) (sc sv) (sv 6) (sv 1) (sv 0) (clo (sf sv) (sg sv) (sv 5) (sv 1) (sv 2)) aw)) := by
  refine Mi.of (cc := cX8_which) (nL := 7) (by decide) (Nat.le_of_ble_eq_true rfl) ?_
  intro p e s m below meth c A ls F hr hlocks hnm hX hA hD hP hS hl
  have F : CallFix p m c cX8_which 7 s [.ref (ad 0), .int (nI 0)].toArray wA RX8 := F
  obtain ⟨hx, hb, hml, hown, hts⟩ := id F
  have hl : lv_has ls 7 [(0, .ref (ad 0)), (1, .int (nI 0))] := hl
  obtain ⟨⟨b0, b1, b2, b3, b4, b5, b6, b7, b8⟩, g1, g2, g3, g4⟩ := id hB
  have gf : ∀ j, sf sv j < 10 := fun j => g1 (16 + j) (by omega)
  have gg : ∀ j, sg sv j < 10 := fun j => g1 (28 + j) (by omega)
  have gc : ∀ j, sc sv j ≤ 9 := fun j => by have := g1 (40 + j) (by omega); unfold sc; omega
  have gf7 : ∀ j, j < 12 → sf sv j < 7 := g2
  have gg7 : ∀ j, j < 12 → sg sv j < 7 := g3
  have hcl : clo (sf sv) (sg sv) (sv 5) (sv 1) (sv 2) < 1024 := clo_lt gf gg (by omega)
  have hml9 : ∀ j, (mesN (sf sv) (sg sv) (sc sv) (sv 6) (sv 1) (sv 0) (clo (sf sv) (sg sv) (sv 5) (sv 1) (sv 2)) aw) j ≤ 1000000 := mesN_le ha
  refine lv_aload_n hx hb dX8_which_0 rfl (lv_at hl 0 rfl) ?_
  refine lv_iconst (v := (nI 0)) hx hb dX8_which_1 (by decide) ?_
  refine va_put (D := G.1) (ci := 7) (v := .int (nI 0)) (ty := .int) (C := RX8) (T := TX8) (N := 17) hx hb hts inA8 tyX8 tyX8_ok nmX8 hown hX.1 hP hD hS 0 rfl rfl 0 (by decide) (hts _ kw_680) (fun _ h9 => h9) rfl (by decide +kernel) rfl rfl (Nat.le_of_ble_eq_true rfl) dX8_which_2 (fun H locs hP hD hS => ?_)
  have hP : va_P G.1 vwCl (mow G ad z fo sv d pa ke ik fa te aw) H := hP
  have hD : va_D A (mow G ad z fo sv d pa ke ik fa te aw) := hD
  refine lv_iload_n hx hb dX8_which_5 rfl (lv_at hl 1 rfl) ?_
  refine lv_iconst (v := (nI 0)) hx hb dX8_which_6 (by decide) ?_
  refine lv_iconst (v := (nI 1)) hx hb dX8_which_7 (by decide) ?_
  refine ca_Si (rest := []) (wr := mow G ad z fo sv d pa ke ik fa te aw) F hX (mX8_in l G (nI 0) (nI 0) (nI 1)) (cA_S hts kw_738 kw_8 kw_736 kw_737 hdX8_in ⟨Nat.le_of_ble_eq_true rfl, Nat.le_of_ble_eq_true rfl⟩) rfl hl.1 rfl (Nat.le_of_ble_eq_true rfl) dX8_which_8 ⟨Nat.le_of_ble_eq_true rfl, Nat.le_of_ble_eq_true rfl⟩ hP hD hS hA (List.Perm.refl _) (fun r8 u8 H locs hp8 hP hD hS => ?_)
  have hP : va_P G.1 vwCl (mow G ad z fo sv d pa ke ik fa te aw) H := hP
  have hD : va_D A (mow G ad z fo sv d pa ke ik fa te aw) := hD
  subst hp8
  refine ti (y := (bI true)) (by decide) ?_
  refine bv_ne (b := true) (tgt := 16) hx hb dX8_which_11 (by decide) (fun c11 => ?_) (fun c11 => ?_)
  · refine lv_aload_n hx hb dX8_which_16 rfl (lv_at hl 0 rfl) ?_
    refine lv_aload_n hx hb dX8_which_17 rfl (lv_at hl 0 rfl) ?_
    refine lv_aload_n hx hb dX8_which_18 rfl (lv_at hl 0 rfl) ?_
    refine va_get (D := G.1) (ci := 7) (v := .ref (ad 1)) (C := RX8) (T := TX8) (N := 17) hx hb hts inA8 hown hX.1 hP 0 rfl rfl 1 (by decide) (hts _ kw_681) (fun _ h9 => h9) rfl dX8_which_19 ?_
    refine lv_iconst (v := (nI 5)) hx hb dX8_which_22 (by decide) ?_
    refine nv_ald (f := sv) (k := 5) hx hb hX hP 1 rfl (by omega) (by decide) dX8_which_23 ?_
    refine ca_Vi (ci := 7) (q := (RX8, TX8, 17)) (rest := [.ref (ad 0)]) (wr := ([] : va_W)) F hX (mX8_nodesOf l G ad z fo sv d pa ke ik fa te aw (sv 5) hB (by omega)) (cA_V hts kw_798 kw_8 kw_795 kw_797 kp_30 hdX8_nodesOf ⟨Nat.le_of_ble_eq_true rfl, Nat.le_of_ble_eq_true rfl⟩) rfl rfl rfl hl.1 rfl (Nat.le_of_ble_eq_true rfl) dX8_which_24 ⟨Nat.le_of_ble_eq_true rfl, Nat.le_of_ble_eq_true rfl⟩ hP hD hS hA (pm_nil _) (fun r24 u24 H locs hp24 hP hD hS => ?_)
    have hP : va_P G.1 vwCl (mow G ad z fo sv d pa ke ik fa te aw) H := wp_pm (pm_nil _).symm hP
    have hD : va_D A (mow G ad z fo sv d pa ke ik fa te aw) := wd_pm (pm_nil _).symm hD
    subst hp24
    refine ca_Vv (ci := 7) (q := (RX8, TX8, 17)) (rest := []) (wr := ([] : va_W)) F hX (mX8_measures l G ad z fo sv d pa ke ik fa te aw (clo (sf sv) (sg sv) (sv 5) (sv 1) (sv 2)) hB ha (by omega)) (cA_V hts kw_805 kw_8 kw_802 kw_804 kp_31 hdX8_measures ⟨Nat.le_of_ble_eq_true rfl, Nat.le_of_ble_eq_true rfl⟩) rfl rfl rfl hl.1 rfl (Nat.le_of_ble_eq_true rfl) dX8_which_27 ⟨Nat.le_of_ble_eq_true rfl, Nat.le_of_ble_eq_true rfl⟩ hP hD hS hA (pm_nil _) (fun u27 H locs hp27 hP hD hS => ?_)
    have hP : va_P G.1 vwCl (mow G ad z fo sv d pa ke ik fa te (mesN (sf sv) (sg sv) (sc sv) (sv 6) (sv 1) (sv 0) (clo (sf sv) (sg sv) (sv 5) (sv 1) (sv 2)) aw)) H := wp_pm (pm_nil _).symm hP
    have hD : va_D A (mow G ad z fo sv d pa ke ik fa te (mesN (sf sv) (sg sv) (sc sv) (sv 6) (sv 1) (sv 0) (clo (sf sv) (sg sv) (sv 5) (sv 1) (sv 2)) aw)) := wd_pm (pm_nil _).symm hD
    refine lv_iconst (v := (nI 0)) hx hb dX8_which_30 (by decide) ?_
    refine lv_istore_n (lv' := [(2, .int (nI 0)), (0, .ref (ad 0)), (1, .int (nI 0))]) hx hb dX8_which_31 rfl hl (by decide) rfl (fun ls hl => ?_)
    refine lv_bipush (v := (-9)) hx hb dX8_which_32 (by decide) ?_
    refine lv_istore_n (lv' := [(3, .int (-9)), (2, .int (nI 0)), (0, .ref (ad 0)), (1, .int (nI 0))]) hx hb dX8_which_34 rfl hl (by decide) rfl (fun ls hl => ?_)
    refine lv_iconst (v := (nI 0)) hx hb dX8_which_35 (by decide) ?_
    refine lv_istore (lv' := [(4, .int (nI 0)), (3, .int (-9)), (2, .int (nI 0)), (0, .ref (ad 0)), (1, .int (nI 0))]) hx hb dX8_which_36 hl (by decide) rfl (fun ls hl => ?_)
    have lp38 : ∀ (n38 : Nat) (v : Nat) (n : Nat) (o : Option Nat), (sv 0 - v) < n38 → n = (mwS (mesN (sf sv) (sg sv) (sc sv) (sv 6) (sv 1) (sv 0) (clo (sf sv) (sg sv) (sv 5) (sv 1) (sv 2)) aw) fa (z 8) (sv 2) (sv 4) v).1 → o = (mwS (mesN (sf sv) (sg sv) (sc sv) (sv 6) (sv 1) (sv 0) (clo (sf sv) (sg sv) (sv 5) (sv 1) (sv 2)) aw) fa (z 8) (sv 2) (sv 4) v).2 → (v ≤ sv 0) → ∀ (H : Heap) (locs : List Loc), va_P G.1 vwCl (mow G ad z fo sv d pa ke ik fa te (mesN (sf sv) (sg sv) (sc sv) (sv 6) (sv 1) (sv 0) (clo (sf sv) (sg sv) (sv 5) (sv 1) (sv 2)) aw)) H → va_D A (mow G ad z fo sv d pa ke ik fa te (mesN (sf sv) (sg sv) (sc sv) (sv 6) (sv 1) (sv 0) (clo (sf sv) (sg sv) (sv 5) (sv 1) (sv 2)) aw)) → va_S A s.heap H locs → ∀ (ls : Array Slot), lv_has ls 7 [(0, .ref (ad 0)), (1, .int (nI 0)), (2, .int (nI n)), (3, .int (oN o)), (4, .int (nI v))] → WI p l e (rmN 2 47) s m [.ref (ad 0), .int (nI 0)] below meth c H locs G A (fun (r9 : Int32) (_ : Unit) => r9 = (nI ((mwS (mesN (sf sv) (sg sv) (sc sv) (sv 6) (sv 1) (sv 0) (clo (sf sv) (sg sv) (sv 5) (sv 1) (sv 2)) aw) fa (z 8) (sv 2) (sv 4) (sv 0)).1))) (fun (_ : Unit) => mow G ad z fo sv d pa ke ik fa te (mesN (sf sv) (sg sv) (sc sv) (sv 6) (sv 1) (sv 0) (clo (sf sv) (sg sv) (sv 5) (sv 1) (sv 2)) aw)) (F0 m 38 ls []) := by
      intro n38
      induction n38 with
      | zero => intro v n o h9; exact absurd h9 (Nat.not_lt_zero _)
      | succ n38 ih38 =>
        intro v n o hm38 e_n e_o hv H locs hP hD hS ls hl
        subst e_n
        subst e_o
        refine lv_iload hx hb dX8_which_38 (lv_at hl 4 rfl) ?_
        refine lv_aload_n hx hb dX8_which_40 rfl (lv_at hl 0 rfl) ?_
        refine va_get (D := G.1) (ci := 7) (v := .ref (ad 1)) (C := RX8) (T := TX8) (N := 17) hx hb hts inA8 hown hX.1 hP 0 rfl rfl 1 (by decide) (hts _ kw_681) (fun _ h9 => h9) rfl dX8_which_41 ?_
        refine lv_iconst (v := (nI 0)) hx hb dX8_which_44 (by decide) ?_
        refine nv_ald (f := sv) (k := 0) hx hb hX hP 1 rfl (by omega) (by decide) dX8_which_45 ?_
        refine nv_ge (x := v) (y := sv 0) (tgt := 175) hx hb dX8_which_46 (by decide) (by omega) (by omega) (fun c46 => ?_) (fun c46 => ?_)
        · refine lv_iload_n hx hb dX8_which_175 rfl (lv_at hl 1 rfl) ?_
          refine nv_zne (x := 0) (tgt := 183) hx hb dX8_which_176 (by decide) (by decide) (fun h9 => absurd h9 (by decide)) (fun _ => ?_)
          refine lv_iload_n hx hb dX8_which_179 rfl (lv_at hl 2 rfl) ?_
          refine lv_goto (tgt := 184) hx hb dX8_which_180 (by decide) ?_
          exact re_i (v := (nI ((mwS (mesN (sf sv) (sg sv) (sc sv) (sv 6) (sv 1) (sv 0) (clo (sf sv) (sg sv) (sv 5) (sv 1) (sv 2)) aw) fa (z 8) (sv 2) (sv 4) v).1))) hx hb hr hlocks hS () hP hD (by have e9 : v = sv 0 := (by omega); rw [e9]) dX8_which_184
        · refine lv_iload hx hb dX8_which_49 (lv_at hl 4 rfl) ?_
          refine lv_aload_n hx hb dX8_which_51 rfl (lv_at hl 0 rfl) ?_
          refine va_get (D := G.1) (ci := 7) (v := .ref (ad 1)) (C := RX8) (T := TX8) (N := 17) hx hb hts inA8 hown hX.1 hP 0 rfl rfl 1 (by decide) (hts _ kw_681) (fun _ h9 => h9) rfl dX8_which_52 ?_
          refine lv_iconst (v := (nI 2)) hx hb dX8_which_55 (by decide) ?_
          refine nv_ald (f := sv) (k := 2) hx hb hX hP 1 rfl (by omega) (by decide) dX8_which_56 ?_
          refine nv_eq (x := v) (y := sv 2) (tgt := 78) hx hb dX8_which_57 (by decide) (by omega) (by omega) (fun c57 => ?_) (fun c57 => ?_)
          · refine lv_iconst (v := (nI 0)) hx hb dX8_which_78 (by decide) ?_
            refine lv_istore (lv' := [(5, .int (nI 0)), (0, .ref (ad 0)), (1, .int (nI 0)), (2, .int (nI ((mwS (mesN (sf sv) (sg sv) (sc sv) (sv 6) (sv 1) (sv 0) (clo (sf sv) (sg sv) (sv 5) (sv 1) (sv 2)) aw) fa (z 8) (sv 2) (sv 4) v).1))), (3, .int (oN ((mwS (mesN (sf sv) (sg sv) (sc sv) (sv 6) (sv 1) (sv 0) (clo (sf sv) (sg sv) (sv 5) (sv 1) (sv 2)) aw) fa (z 8) (sv 2) (sv 4) v).2))), (4, .int (nI v))]) hx hb dX8_which_79 hl (by decide) rfl (fun ls hl => ?_)
            refine lv_iconst (v := (nI 0)) hx hb dX8_which_81 (by decide) ?_
            refine lv_istore (lv' := [(6, .int (nI 0)), (5, .int (nI 0)), (0, .ref (ad 0)), (1, .int (nI 0)), (2, .int (nI ((mwS (mesN (sf sv) (sg sv) (sc sv) (sv 6) (sv 1) (sv 0) (clo (sf sv) (sg sv) (sv 5) (sv 1) (sv 2)) aw) fa (z 8) (sv 2) (sv 4) v).1))), (3, .int (oN ((mwS (mesN (sf sv) (sg sv) (sc sv) (sv 6) (sv 1) (sv 0) (clo (sf sv) (sg sv) (sv 5) (sv 1) (sv 2)) aw) fa (z 8) (sv 2) (sv 4) v).2))), (4, .int (nI v))]) hx hb dX8_which_82 hl (by decide) rfl (fun ls hl => ?_)
            have lp84 : ∀ (n84 : Nat) (k : Nat) (y : Nat), (z 8 - k) < n84 → (k ≤ z 8) → (y ≤ 1) → (y = 1 ↔ ((v ≠ sv 2 ∧ (sv 4).testBit v = false) ∧ fuB (mesN (sf sv) (sg sv) (sc sv) (sv 6) (sv 1) (sv 0) (clo (sf sv) (sg sv) (sv 5) (sv 1) (sv 2)) aw) fa v k = true)) → ∀ (H : Heap) (locs : List Loc), va_P G.1 vwCl (mow G ad z fo sv d pa ke ik fa te (mesN (sf sv) (sg sv) (sc sv) (sv 6) (sv 1) (sv 0) (clo (sf sv) (sg sv) (sv 5) (sv 1) (sv 2)) aw)) H → va_D A (mow G ad z fo sv d pa ke ik fa te (mesN (sf sv) (sg sv) (sc sv) (sv 6) (sv 1) (sv 0) (clo (sf sv) (sg sv) (sv 5) (sv 1) (sv 2)) aw)) → va_S A s.heap H locs → ∀ (ls : Array Slot), lv_has ls 7 [(0, .ref (ad 0)), (1, .int (nI 0)), (2, .int (nI ((mwS (mesN (sf sv) (sg sv) (sc sv) (sv 6) (sv 1) (sv 0) (clo (sf sv) (sg sv) (sv 5) (sv 1) (sv 2)) aw) fa (z 8) (sv 2) (sv 4) v).1))), (3, .int (oN ((mwS (mesN (sf sv) (sg sv) (sc sv) (sv 6) (sv 1) (sv 0) (clo (sf sv) (sg sv) (sv 5) (sv 1) (sv 2)) aw) fa (z 8) (sv 2) (sv 4) v).2))), (4, .int (nI v)), (5, .int (nI y)), (6, .int (nI k))] → WI p l e (rmN 2 47) s m [.ref (ad 0), .int (nI 0)] below meth c H locs G A (fun (r9 : Int32) (_ : Unit) => r9 = (nI ((mwS (mesN (sf sv) (sg sv) (sc sv) (sv 6) (sv 1) (sv 0) (clo (sf sv) (sg sv) (sv 5) (sv 1) (sv 2)) aw) fa (z 8) (sv 2) (sv 4) (sv 0)).1))) (fun (_ : Unit) => mow G ad z fo sv d pa ke ik fa te (mesN (sf sv) (sg sv) (sc sv) (sv 6) (sv 1) (sv 0) (clo (sf sv) (sg sv) (sv 5) (sv 1) (sv 2)) aw)) (F0 m 84 ls []) := by
              intro n84
              induction n84 with
              | zero => intro k y h9; exact absurd h9 (Nat.not_lt_zero _)
              | succ n84 ih84 =>
                intro k y hm84  hk hy1 hyy H locs hP hD hS ls hl
                refine lv_iload hx hb dX8_which_84 (lv_at hl 6 rfl) ?_
                refine lv_aload_n hx hb dX8_which_86 rfl (lv_at hl 0 rfl) ?_
                refine va_get (D := G.1) (ci := 7) (v := .int (nI (z 8))) (C := RX8) (T := TX8) (N := 17) hx hb hts inA8 hown hX.1 hP 0 rfl rfl 8 (by decide) (hts _ kw_688) (fun _ h9 => h9) rfl dX8_which_87 ?_
                refine nv_ge (x := k) (y := z 8) (tgt := 140) hx hb dX8_which_90 (by decide) (by omega) (by omega) (fun c90 => ?_) (fun c90 => ?_)
                · have hfi : y = 1 ↔ fiB (mesN (sf sv) (sg sv) (sc sv) (sv 6) (sv 1) (sv 0) (clo (sf sv) (sg sv) (sv 5) (sv 1) (sv 2)) aw) fa (z 8) (sv 2) (sv 4) v = true := by have ek : k = z 8 := (by omega); rw [ek] at hyy; unfold fiB; rw [hyy]; simp [and_assoc]
                  refine lv_iload hx hb dX8_which_140 (lv_at hl 5 rfl) ?_
                  refine nv_zeq (x := y) (tgt := 154) hx hb dX8_which_142 (by decide) (by omega) (fun c142 => ?_) (fun c142 => ?_)
                  · refine lv_iload_n hx hb dX8_which_154 rfl (lv_at hl 3 rfl) ?_
                    refine lv_istore_n (lv' := [(3, .int (oN ((mwS (mesN (sf sv) (sg sv) (sc sv) (sv 6) (sv 1) (sv 0) (clo (sf sv) (sg sv) (sv 5) (sv 1) (sv 2)) aw) fa (z 8) (sv 2) (sv 4) v).2))), (0, .ref (ad 0)), (1, .int (nI 0)), (2, .int (nI ((mwS (mesN (sf sv) (sg sv) (sc sv) (sv 6) (sv 1) (sv 0) (clo (sf sv) (sg sv) (sv 5) (sv 1) (sv 2)) aw) fa (z 8) (sv 2) (sv 4) v).1))), (4, .int (nI v)), (5, .int (nI y)), (6, .int (nI k))]) hx hb dX8_which_155 rfl hl (by decide) rfl (fun ls hl => ?_)
                    refine lv_iload_n hx hb dX8_which_156 rfl (lv_at hl 3 rfl) ?_
                    refine lv_iload hx hb dX8_which_157 (lv_at hl 5 rfl) ?_
                    refine nv_zeq (x := y) (tgt := 166) hx hb dX8_which_159 (by decide) (by omega) (fun c159 => ?_) (fun c159 => ?_)
                    · refine lv_iconst (v := (nI 0)) hx hb dX8_which_166 (by decide) ?_
                      refine lv_iadd hx hb dX8_which_167 (ti (y := (nI (((mwS (mesN (sf sv) (sg sv) (sc sv) (sv 6) (sv 1) (sv 0) (clo (sf sv) (sg sv) (sv 5) (sv 1) (sv 2)) aw) fa (z 8) (sv 2) (sv 4) v).1) + 0))) (nI_add _ _) ?_)
                      refine lv_istore_n (lv' := [(2, .int (nI (((mwS (mesN (sf sv) (sg sv) (sc sv) (sv 6) (sv 1) (sv 0) (clo (sf sv) (sg sv) (sv 5) (sv 1) (sv 2)) aw) fa (z 8) (sv 2) (sv 4) v).1) + 0))), (3, .int (oN ((mwS (mesN (sf sv) (sg sv) (sc sv) (sv 6) (sv 1) (sv 0) (clo (sf sv) (sg sv) (sv 5) (sv 1) (sv 2)) aw) fa (z 8) (sv 2) (sv 4) v).2))), (0, .ref (ad 0)), (1, .int (nI 0)), (4, .int (nI v)), (5, .int (nI y)), (6, .int (nI k))]) hx hb dX8_which_168 rfl hl (by decide) rfl (fun ls hl => ?_)
                      refine lv_iinc (v := (nI (v + 1))) (lv' := [(4, .int (nI (v + 1))), (2, .int (nI (((mwS (mesN (sf sv) (sg sv) (sc sv) (sv 6) (sv 1) (sv 0) (clo (sf sv) (sg sv) (sv 5) (sv 1) (sv 2)) aw) fa (z 8) (sv 2) (sv 4) v).1) + 0))), (3, .int (oN ((mwS (mesN (sf sv) (sg sv) (sc sv) (sv 6) (sv 1) (sv 0) (clo (sf sv) (sg sv) (sv 5) (sv 1) (sv 2)) aw) fa (z 8) (sv 2) (sv 4) v).2))), (0, .ref (ad 0)), (1, .int (nI 0)), (5, .int (nI y)), (6, .int (nI k))]) hx hb dX8_which_169 hl (k := 4) rfl (qn_inc _) (by decide) rfl (fun ls hl => ?_)
                      refine lv_goto (tgt := 38) hx hb dX8_which_172 (by decide) ?_
                      exact ih38 (v + 1) (((mwS (mesN (sf sv) (sg sv) (sc sv) (sv 6) (sv 1) (sv 0) (clo (sf sv) (sg sv) (sv 5) (sv 1) (sv 2)) aw) fa (z 8) (sv 2) (sv 4) v).1) + 0) ((mwS (mesN (sf sv) (sg sv) (sc sv) (sv 6) (sv 1) (sv 0) (clo (sf sv) (sg sv) (sv 5) (sv 1) (sv 2)) aw) fa (z 8) (sv 2) (sv 4) v).2) (by omega) (by have e8 : ¬ fiB (mesN (sf sv) (sg sv) (sc sv) (sv 6) (sv 1) (sv 0) (clo (sf sv) (sg sv) (sv 5) (sv 1) (sv 2)) aw) fa (z 8) (sv 2) (sv 4) v = true := fun h => absurd (hfi.mpr h) (by omega); rw [mwS, if_neg e8] <;> rfl) (by have e8 : ¬ fiB (mesN (sf sv) (sg sv) (sc sv) (sv 6) (sv 1) (sv 0) (clo (sf sv) (sg sv) (sv 5) (sv 1) (sv 2)) aw) fa (z 8) (sv 2) (sv 4) v = true := fun h => absurd (hfi.mpr h) (by omega); rw [mwS, if_neg e8] <;> rfl) (by omega) _ _ hP hD hS ls (lv_sub hl [3, 4, 1, 2, 0] rfl)
                    · exact absurd c142 c159
                  · refine lv_iload_n hx hb dX8_which_145 rfl (lv_at hl 2 rfl) ?_
                    refine nv_zne (x := (mwS (mesN (sf sv) (sg sv) (sc sv) (sv 6) (sv 1) (sv 0) (clo (sf sv) (sg sv) (sv 5) (sv 1) (sv 2)) aw) fa (z 8) (sv 2) (sv 4) v).1) (tgt := 154) hx hb dX8_which_146 (by decide) (by have := mwS_le (mesN (sf sv) (sg sv) (sc sv) (sv 6) (sv 1) (sv 0) (clo (sf sv) (sg sv) (sv 5) (sv 1) (sv 2)) aw) fa (z 8) (sv 2) (sv 4) v; omega) (fun c146 => ?_) (fun c146 => ?_)
                    · refine lv_iload_n hx hb dX8_which_154 rfl (lv_at hl 3 rfl) ?_
                      refine lv_istore_n (lv' := [(3, .int (oN ((mwS (mesN (sf sv) (sg sv) (sc sv) (sv 6) (sv 1) (sv 0) (clo (sf sv) (sg sv) (sv 5) (sv 1) (sv 2)) aw) fa (z 8) (sv 2) (sv 4) v).2))), (0, .ref (ad 0)), (1, .int (nI 0)), (2, .int (nI ((mwS (mesN (sf sv) (sg sv) (sc sv) (sv 6) (sv 1) (sv 0) (clo (sf sv) (sg sv) (sv 5) (sv 1) (sv 2)) aw) fa (z 8) (sv 2) (sv 4) v).1))), (4, .int (nI v)), (5, .int (nI y)), (6, .int (nI k))]) hx hb dX8_which_155 rfl hl (by decide) rfl (fun ls hl => ?_)
                      refine lv_iload_n hx hb dX8_which_156 rfl (lv_at hl 3 rfl) ?_
                      refine lv_iload hx hb dX8_which_157 (lv_at hl 5 rfl) ?_
                      refine nv_zeq (x := y) (tgt := 166) hx hb dX8_which_159 (by decide) (by omega) (fun c159 => ?_) (fun c159 => ?_)
                      · exact absurd c159 c142
                      · refine lv_iconst (v := (nI 1)) hx hb dX8_which_162 (by decide) ?_
                        refine lv_goto (tgt := 167) hx hb dX8_which_163 (by decide) ?_
                        refine lv_iadd hx hb dX8_which_167 (ti (y := (nI (((mwS (mesN (sf sv) (sg sv) (sc sv) (sv 6) (sv 1) (sv 0) (clo (sf sv) (sg sv) (sv 5) (sv 1) (sv 2)) aw) fa (z 8) (sv 2) (sv 4) v).1) + 1))) (nI_add _ _) ?_)
                        refine lv_istore_n (lv' := [(2, .int (nI (((mwS (mesN (sf sv) (sg sv) (sc sv) (sv 6) (sv 1) (sv 0) (clo (sf sv) (sg sv) (sv 5) (sv 1) (sv 2)) aw) fa (z 8) (sv 2) (sv 4) v).1) + 1))), (3, .int (oN ((mwS (mesN (sf sv) (sg sv) (sc sv) (sv 6) (sv 1) (sv 0) (clo (sf sv) (sg sv) (sv 5) (sv 1) (sv 2)) aw) fa (z 8) (sv 2) (sv 4) v).2))), (0, .ref (ad 0)), (1, .int (nI 0)), (4, .int (nI v)), (5, .int (nI y)), (6, .int (nI k))]) hx hb dX8_which_168 rfl hl (by decide) rfl (fun ls hl => ?_)
                        refine lv_iinc (v := (nI (v + 1))) (lv' := [(4, .int (nI (v + 1))), (2, .int (nI (((mwS (mesN (sf sv) (sg sv) (sc sv) (sv 6) (sv 1) (sv 0) (clo (sf sv) (sg sv) (sv 5) (sv 1) (sv 2)) aw) fa (z 8) (sv 2) (sv 4) v).1) + 1))), (3, .int (oN ((mwS (mesN (sf sv) (sg sv) (sc sv) (sv 6) (sv 1) (sv 0) (clo (sf sv) (sg sv) (sv 5) (sv 1) (sv 2)) aw) fa (z 8) (sv 2) (sv 4) v).2))), (0, .ref (ad 0)), (1, .int (nI 0)), (5, .int (nI y)), (6, .int (nI k))]) hx hb dX8_which_169 hl (k := 4) rfl (qn_inc _) (by decide) rfl (fun ls hl => ?_)
                        refine lv_goto (tgt := 38) hx hb dX8_which_172 (by decide) ?_
                        exact ih38 (v + 1) (((mwS (mesN (sf sv) (sg sv) (sc sv) (sv 6) (sv 1) (sv 0) (clo (sf sv) (sg sv) (sv 5) (sv 1) (sv 2)) aw) fa (z 8) (sv 2) (sv 4) v).1) + 1) ((mwS (mesN (sf sv) (sg sv) (sc sv) (sv 6) (sv 1) (sv 0) (clo (sf sv) (sg sv) (sv 5) (sv 1) (sv 2)) aw) fa (z 8) (sv 2) (sv 4) v).2) (by omega) (by have e8 : fiB (mesN (sf sv) (sg sv) (sc sv) (sv 6) (sv 1) (sv 0) (clo (sf sv) (sg sv) (sv 5) (sv 1) (sv 2)) aw) fa (z 8) (sv 2) (sv 4) v = true := hfi.mp (by omega); rw [mwS, if_pos e8] <;> rfl) (by have e8 : fiB (mesN (sf sv) (sg sv) (sc sv) (sv 6) (sv 1) (sv 0) (clo (sf sv) (sg sv) (sv 5) (sv 1) (sv 2)) aw) fa (z 8) (sv 2) (sv 4) v = true := hfi.mp (by omega); rw [mwS, if_pos e8, if_neg c146] <;> rfl) (by omega) _ _ hP hD hS ls (lv_sub hl [3, 4, 1, 2, 0] rfl)
                    · refine lv_iload hx hb dX8_which_149 (lv_at hl 4 rfl) ?_
                      refine lv_goto (tgt := 155) hx hb dX8_which_151 (by decide) ?_
                      refine lv_istore_n (lv' := [(3, .int (nI v)), (0, .ref (ad 0)), (1, .int (nI 0)), (2, .int (nI ((mwS (mesN (sf sv) (sg sv) (sc sv) (sv 6) (sv 1) (sv 0) (clo (sf sv) (sg sv) (sv 5) (sv 1) (sv 2)) aw) fa (z 8) (sv 2) (sv 4) v).1))), (4, .int (nI v)), (5, .int (nI y)), (6, .int (nI k))]) hx hb dX8_which_155 rfl hl (by decide) rfl (fun ls hl => ?_)
                      refine lv_iload_n hx hb dX8_which_156 rfl (lv_at hl 3 rfl) ?_
                      refine lv_iload hx hb dX8_which_157 (lv_at hl 5 rfl) ?_
                      refine nv_zeq (x := y) (tgt := 166) hx hb dX8_which_159 (by decide) (by omega) (fun c159 => ?_) (fun c159 => ?_)
                      · exact absurd c159 c142
                      · refine lv_iconst (v := (nI 1)) hx hb dX8_which_162 (by decide) ?_
                        refine lv_goto (tgt := 167) hx hb dX8_which_163 (by decide) ?_
                        refine lv_iadd hx hb dX8_which_167 (ti (y := (nI (((mwS (mesN (sf sv) (sg sv) (sc sv) (sv 6) (sv 1) (sv 0) (clo (sf sv) (sg sv) (sv 5) (sv 1) (sv 2)) aw) fa (z 8) (sv 2) (sv 4) v).1) + 1))) (nI_add _ _) ?_)
                        refine lv_istore_n (lv' := [(2, .int (nI (((mwS (mesN (sf sv) (sg sv) (sc sv) (sv 6) (sv 1) (sv 0) (clo (sf sv) (sg sv) (sv 5) (sv 1) (sv 2)) aw) fa (z 8) (sv 2) (sv 4) v).1) + 1))), (3, .int (nI v)), (0, .ref (ad 0)), (1, .int (nI 0)), (4, .int (nI v)), (5, .int (nI y)), (6, .int (nI k))]) hx hb dX8_which_168 rfl hl (by decide) rfl (fun ls hl => ?_)
                        refine lv_iinc (v := (nI (v + 1))) (lv' := [(4, .int (nI (v + 1))), (2, .int (nI (((mwS (mesN (sf sv) (sg sv) (sc sv) (sv 6) (sv 1) (sv 0) (clo (sf sv) (sg sv) (sv 5) (sv 1) (sv 2)) aw) fa (z 8) (sv 2) (sv 4) v).1) + 1))), (3, .int (nI v)), (0, .ref (ad 0)), (1, .int (nI 0)), (5, .int (nI y)), (6, .int (nI k))]) hx hb dX8_which_169 hl (k := 4) rfl (qn_inc _) (by decide) rfl (fun ls hl => ?_)
                        refine lv_goto (tgt := 38) hx hb dX8_which_172 (by decide) ?_
                        exact ih38 (v + 1) (((mwS (mesN (sf sv) (sg sv) (sc sv) (sv 6) (sv 1) (sv 0) (clo (sf sv) (sg sv) (sv 5) (sv 1) (sv 2)) aw) fa (z 8) (sv 2) (sv 4) v).1) + 1) (some v) (by omega) (by have e8 : fiB (mesN (sf sv) (sg sv) (sc sv) (sv 6) (sv 1) (sv 0) (clo (sf sv) (sg sv) (sv 5) (sv 1) (sv 2)) aw) fa (z 8) (sv 2) (sv 4) v = true := hfi.mp (by omega); rw [mwS, if_pos e8] <;> rfl) (by have e8 : fiB (mesN (sf sv) (sg sv) (sc sv) (sv 6) (sv 1) (sv 0) (clo (sf sv) (sg sv) (sv 5) (sv 1) (sv 2)) aw) fa (z 8) (sv 2) (sv 4) v = true := hfi.mp (by omega); rw [mwS, if_pos e8, if_pos c146] <;> rfl) (by omega) _ _ hP hD hS ls (lv_sub hl [3, 4, 1, 2, 0] rfl)
                · refine lv_iload hx hb dX8_which_93 (lv_at hl 5 rfl) ?_
                  refine nv_zeq (x := y) (tgt := 140) hx hb dX8_which_95 (by decide) (by omega) (fun c95 => ?_) (fun c95 => ?_)
                  · have hfi : y = 1 ↔ fiB (mesN (sf sv) (sg sv) (sc sv) (sv 6) (sv 1) (sv 0) (clo (sf sv) (sg sv) (sv 5) (sv 1) (sv 2)) aw) fa (z 8) (sv 2) (sv 4) v = true := by have hn : ¬ ((v ≠ sv 2 ∧ (sv 4).testBit v = false) ∧ fuB (mesN (sf sv) (sg sv) (sc sv) (sv 6) (sv 1) (sv 0) (clo (sf sv) (sg sv) (sv 5) (sv 1) (sv 2)) aw) fa v k = true) := fun h => absurd (hyy.mpr h) (by omega); refine ⟨fun h => absurd h (by omega), fun h => ?_⟩; unfold fiB at h; simp only [Bool.and_eq_true, decide_eq_true_eq, Bool.not_eq_true'] at h; exfalso; cases hf : fuB (mesN (sf sv) (sg sv) (sc sv) (sv 6) (sv 1) (sv 0) (clo (sf sv) (sg sv) (sv 5) (sv 1) (sv 2)) aw) fa v k with | false => exact absurd (fuB_no hf (z 8) (by omega)) (by rw [h.2]; decide) | true => exact hn ⟨h.1, hf⟩
                    refine lv_iload hx hb dX8_which_140 (lv_at hl 5 rfl) ?_
                    refine nv_zeq (x := y) (tgt := 154) hx hb dX8_which_142 (by decide) (by omega) (fun c142 => ?_) (fun c142 => ?_)
                    · refine lv_iload_n hx hb dX8_which_154 rfl (lv_at hl 3 rfl) ?_
                      refine lv_istore_n (lv' := [(3, .int (oN ((mwS (mesN (sf sv) (sg sv) (sc sv) (sv 6) (sv 1) (sv 0) (clo (sf sv) (sg sv) (sv 5) (sv 1) (sv 2)) aw) fa (z 8) (sv 2) (sv 4) v).2))), (0, .ref (ad 0)), (1, .int (nI 0)), (2, .int (nI ((mwS (mesN (sf sv) (sg sv) (sc sv) (sv 6) (sv 1) (sv 0) (clo (sf sv) (sg sv) (sv 5) (sv 1) (sv 2)) aw) fa (z 8) (sv 2) (sv 4) v).1))), (4, .int (nI v)), (5, .int (nI y)), (6, .int (nI k))]) hx hb dX8_which_155 rfl hl (by decide) rfl (fun ls hl => ?_)
                      refine lv_iload_n hx hb dX8_which_156 rfl (lv_at hl 3 rfl) ?_
                      refine lv_iload hx hb dX8_which_157 (lv_at hl 5 rfl) ?_
                      refine nv_zeq (x := y) (tgt := 166) hx hb dX8_which_159 (by decide) (by omega) (fun c159 => ?_) (fun c159 => ?_)
                      · refine lv_iconst (v := (nI 0)) hx hb dX8_which_166 (by decide) ?_
                        refine lv_iadd hx hb dX8_which_167 (ti (y := (nI (((mwS (mesN (sf sv) (sg sv) (sc sv) (sv 6) (sv 1) (sv 0) (clo (sf sv) (sg sv) (sv 5) (sv 1) (sv 2)) aw) fa (z 8) (sv 2) (sv 4) v).1) + 0))) (nI_add _ _) ?_)
                        refine lv_istore_n (lv' := [(2, .int (nI (((mwS (mesN (sf sv) (sg sv) (sc sv) (sv 6) (sv 1) (sv 0) (clo (sf sv) (sg sv) (sv 5) (sv 1) (sv 2)) aw) fa (z 8) (sv 2) (sv 4) v).1) + 0))), (3, .int (oN ((mwS (mesN (sf sv) (sg sv) (sc sv) (sv 6) (sv 1) (sv 0) (clo (sf sv) (sg sv) (sv 5) (sv 1) (sv 2)) aw) fa (z 8) (sv 2) (sv 4) v).2))), (0, .ref (ad 0)), (1, .int (nI 0)), (4, .int (nI v)), (5, .int (nI y)), (6, .int (nI k))]) hx hb dX8_which_168 rfl hl (by decide) rfl (fun ls hl => ?_)
                        refine lv_iinc (v := (nI (v + 1))) (lv' := [(4, .int (nI (v + 1))), (2, .int (nI (((mwS (mesN (sf sv) (sg sv) (sc sv) (sv 6) (sv 1) (sv 0) (clo (sf sv) (sg sv) (sv 5) (sv 1) (sv 2)) aw) fa (z 8) (sv 2) (sv 4) v).1) + 0))), (3, .int (oN ((mwS (mesN (sf sv) (sg sv) (sc sv) (sv 6) (sv 1) (sv 0) (clo (sf sv) (sg sv) (sv 5) (sv 1) (sv 2)) aw) fa (z 8) (sv 2) (sv 4) v).2))), (0, .ref (ad 0)), (1, .int (nI 0)), (5, .int (nI y)), (6, .int (nI k))]) hx hb dX8_which_169 hl (k := 4) rfl (qn_inc _) (by decide) rfl (fun ls hl => ?_)
                        refine lv_goto (tgt := 38) hx hb dX8_which_172 (by decide) ?_
                        exact ih38 (v + 1) (((mwS (mesN (sf sv) (sg sv) (sc sv) (sv 6) (sv 1) (sv 0) (clo (sf sv) (sg sv) (sv 5) (sv 1) (sv 2)) aw) fa (z 8) (sv 2) (sv 4) v).1) + 0) ((mwS (mesN (sf sv) (sg sv) (sc sv) (sv 6) (sv 1) (sv 0) (clo (sf sv) (sg sv) (sv 5) (sv 1) (sv 2)) aw) fa (z 8) (sv 2) (sv 4) v).2) (by omega) (by have e8 : ¬ fiB (mesN (sf sv) (sg sv) (sc sv) (sv 6) (sv 1) (sv 0) (clo (sf sv) (sg sv) (sv 5) (sv 1) (sv 2)) aw) fa (z 8) (sv 2) (sv 4) v = true := fun h => absurd (hfi.mpr h) (by omega); rw [mwS, if_neg e8] <;> rfl) (by have e8 : ¬ fiB (mesN (sf sv) (sg sv) (sc sv) (sv 6) (sv 1) (sv 0) (clo (sf sv) (sg sv) (sv 5) (sv 1) (sv 2)) aw) fa (z 8) (sv 2) (sv 4) v = true := fun h => absurd (hfi.mpr h) (by omega); rw [mwS, if_neg e8] <;> rfl) (by omega) _ _ hP hD hS ls (lv_sub hl [3, 4, 1, 2, 0] rfl)
                      · exact absurd c142 c159
                    · refine lv_iload_n hx hb dX8_which_145 rfl (lv_at hl 2 rfl) ?_
                      refine nv_zne (x := (mwS (mesN (sf sv) (sg sv) (sc sv) (sv 6) (sv 1) (sv 0) (clo (sf sv) (sg sv) (sv 5) (sv 1) (sv 2)) aw) fa (z 8) (sv 2) (sv 4) v).1) (tgt := 154) hx hb dX8_which_146 (by decide) (by have := mwS_le (mesN (sf sv) (sg sv) (sc sv) (sv 6) (sv 1) (sv 0) (clo (sf sv) (sg sv) (sv 5) (sv 1) (sv 2)) aw) fa (z 8) (sv 2) (sv 4) v; omega) (fun c146 => ?_) (fun c146 => ?_)
                      · refine lv_iload_n hx hb dX8_which_154 rfl (lv_at hl 3 rfl) ?_
                        refine lv_istore_n (lv' := [(3, .int (oN ((mwS (mesN (sf sv) (sg sv) (sc sv) (sv 6) (sv 1) (sv 0) (clo (sf sv) (sg sv) (sv 5) (sv 1) (sv 2)) aw) fa (z 8) (sv 2) (sv 4) v).2))), (0, .ref (ad 0)), (1, .int (nI 0)), (2, .int (nI ((mwS (mesN (sf sv) (sg sv) (sc sv) (sv 6) (sv 1) (sv 0) (clo (sf sv) (sg sv) (sv 5) (sv 1) (sv 2)) aw) fa (z 8) (sv 2) (sv 4) v).1))), (4, .int (nI v)), (5, .int (nI y)), (6, .int (nI k))]) hx hb dX8_which_155 rfl hl (by decide) rfl (fun ls hl => ?_)
                        refine lv_iload_n hx hb dX8_which_156 rfl (lv_at hl 3 rfl) ?_
                        refine lv_iload hx hb dX8_which_157 (lv_at hl 5 rfl) ?_
                        refine nv_zeq (x := y) (tgt := 166) hx hb dX8_which_159 (by decide) (by omega) (fun c159 => ?_) (fun c159 => ?_)
                        · exact absurd c159 c142
                        · refine lv_iconst (v := (nI 1)) hx hb dX8_which_162 (by decide) ?_
                          refine lv_goto (tgt := 167) hx hb dX8_which_163 (by decide) ?_
                          refine lv_iadd hx hb dX8_which_167 (ti (y := (nI (((mwS (mesN (sf sv) (sg sv) (sc sv) (sv 6) (sv 1) (sv 0) (clo (sf sv) (sg sv) (sv 5) (sv 1) (sv 2)) aw) fa (z 8) (sv 2) (sv 4) v).1) + 1))) (nI_add _ _) ?_)
                          refine lv_istore_n (lv' := [(2, .int (nI (((mwS (mesN (sf sv) (sg sv) (sc sv) (sv 6) (sv 1) (sv 0) (clo (sf sv) (sg sv) (sv 5) (sv 1) (sv 2)) aw) fa (z 8) (sv 2) (sv 4) v).1) + 1))), (3, .int (oN ((mwS (mesN (sf sv) (sg sv) (sc sv) (sv 6) (sv 1) (sv 0) (clo (sf sv) (sg sv) (sv 5) (sv 1) (sv 2)) aw) fa (z 8) (sv 2) (sv 4) v).2))), (0, .ref (ad 0)), (1, .int (nI 0)), (4, .int (nI v)), (5, .int (nI y)), (6, .int (nI k))]) hx hb dX8_which_168 rfl hl (by decide) rfl (fun ls hl => ?_)
                          refine lv_iinc (v := (nI (v + 1))) (lv' := [(4, .int (nI (v + 1))), (2, .int (nI (((mwS (mesN (sf sv) (sg sv) (sc sv) (sv 6) (sv 1) (sv 0) (clo (sf sv) (sg sv) (sv 5) (sv 1) (sv 2)) aw) fa (z 8) (sv 2) (sv 4) v).1) + 1))), (3, .int (oN ((mwS (mesN (sf sv) (sg sv) (sc sv) (sv 6) (sv 1) (sv 0) (clo (sf sv) (sg sv) (sv 5) (sv 1) (sv 2)) aw) fa (z 8) (sv 2) (sv 4) v).2))), (0, .ref (ad 0)), (1, .int (nI 0)), (5, .int (nI y)), (6, .int (nI k))]) hx hb dX8_which_169 hl (k := 4) rfl (qn_inc _) (by decide) rfl (fun ls hl => ?_)
                          refine lv_goto (tgt := 38) hx hb dX8_which_172 (by decide) ?_
                          exact ih38 (v + 1) (((mwS (mesN (sf sv) (sg sv) (sc sv) (sv 6) (sv 1) (sv 0) (clo (sf sv) (sg sv) (sv 5) (sv 1) (sv 2)) aw) fa (z 8) (sv 2) (sv 4) v).1) + 1) ((mwS (mesN (sf sv) (sg sv) (sc sv) (sv 6) (sv 1) (sv 0) (clo (sf sv) (sg sv) (sv 5) (sv 1) (sv 2)) aw) fa (z 8) (sv 2) (sv 4) v).2) (by omega) (by have e8 : fiB (mesN (sf sv) (sg sv) (sc sv) (sv 6) (sv 1) (sv 0) (clo (sf sv) (sg sv) (sv 5) (sv 1) (sv 2)) aw) fa (z 8) (sv 2) (sv 4) v = true := hfi.mp (by omega); rw [mwS, if_pos e8] <;> rfl) (by have e8 : fiB (mesN (sf sv) (sg sv) (sc sv) (sv 6) (sv 1) (sv 0) (clo (sf sv) (sg sv) (sv 5) (sv 1) (sv 2)) aw) fa (z 8) (sv 2) (sv 4) v = true := hfi.mp (by omega); rw [mwS, if_pos e8, if_neg c146] <;> rfl) (by omega) _ _ hP hD hS ls (lv_sub hl [3, 4, 1, 2, 0] rfl)
                      · refine lv_iload hx hb dX8_which_149 (lv_at hl 4 rfl) ?_
                        refine lv_goto (tgt := 155) hx hb dX8_which_151 (by decide) ?_
                        refine lv_istore_n (lv' := [(3, .int (nI v)), (0, .ref (ad 0)), (1, .int (nI 0)), (2, .int (nI ((mwS (mesN (sf sv) (sg sv) (sc sv) (sv 6) (sv 1) (sv 0) (clo (sf sv) (sg sv) (sv 5) (sv 1) (sv 2)) aw) fa (z 8) (sv 2) (sv 4) v).1))), (4, .int (nI v)), (5, .int (nI y)), (6, .int (nI k))]) hx hb dX8_which_155 rfl hl (by decide) rfl (fun ls hl => ?_)
                        refine lv_iload_n hx hb dX8_which_156 rfl (lv_at hl 3 rfl) ?_
                        refine lv_iload hx hb dX8_which_157 (lv_at hl 5 rfl) ?_
                        refine nv_zeq (x := y) (tgt := 166) hx hb dX8_which_159 (by decide) (by omega) (fun c159 => ?_) (fun c159 => ?_)
                        · exact absurd c159 c142
                        · refine lv_iconst (v := (nI 1)) hx hb dX8_which_162 (by decide) ?_
                          refine lv_goto (tgt := 167) hx hb dX8_which_163 (by decide) ?_
                          refine lv_iadd hx hb dX8_which_167 (ti (y := (nI (((mwS (mesN (sf sv) (sg sv) (sc sv) (sv 6) (sv 1) (sv 0) (clo (sf sv) (sg sv) (sv 5) (sv 1) (sv 2)) aw) fa (z 8) (sv 2) (sv 4) v).1) + 1))) (nI_add _ _) ?_)
                          refine lv_istore_n (lv' := [(2, .int (nI (((mwS (mesN (sf sv) (sg sv) (sc sv) (sv 6) (sv 1) (sv 0) (clo (sf sv) (sg sv) (sv 5) (sv 1) (sv 2)) aw) fa (z 8) (sv 2) (sv 4) v).1) + 1))), (3, .int (nI v)), (0, .ref (ad 0)), (1, .int (nI 0)), (4, .int (nI v)), (5, .int (nI y)), (6, .int (nI k))]) hx hb dX8_which_168 rfl hl (by decide) rfl (fun ls hl => ?_)
                          refine lv_iinc (v := (nI (v + 1))) (lv' := [(4, .int (nI (v + 1))), (2, .int (nI (((mwS (mesN (sf sv) (sg sv) (sc sv) (sv 6) (sv 1) (sv 0) (clo (sf sv) (sg sv) (sv 5) (sv 1) (sv 2)) aw) fa (z 8) (sv 2) (sv 4) v).1) + 1))), (3, .int (nI v)), (0, .ref (ad 0)), (1, .int (nI 0)), (5, .int (nI y)), (6, .int (nI k))]) hx hb dX8_which_169 hl (k := 4) rfl (qn_inc _) (by decide) rfl (fun ls hl => ?_)
                          refine lv_goto (tgt := 38) hx hb dX8_which_172 (by decide) ?_
                          exact ih38 (v + 1) (((mwS (mesN (sf sv) (sg sv) (sc sv) (sv 6) (sv 1) (sv 0) (clo (sf sv) (sg sv) (sv 5) (sv 1) (sv 2)) aw) fa (z 8) (sv 2) (sv 4) v).1) + 1) (some v) (by omega) (by have e8 : fiB (mesN (sf sv) (sg sv) (sc sv) (sv 6) (sv 1) (sv 0) (clo (sf sv) (sg sv) (sv 5) (sv 1) (sv 2)) aw) fa (z 8) (sv 2) (sv 4) v = true := hfi.mp (by omega); rw [mwS, if_pos e8] <;> rfl) (by have e8 : fiB (mesN (sf sv) (sg sv) (sc sv) (sv 6) (sv 1) (sv 0) (clo (sf sv) (sg sv) (sv 5) (sv 1) (sv 2)) aw) fa (z 8) (sv 2) (sv 4) v = true := hfi.mp (by omega); rw [mwS, if_pos e8, if_pos c146] <;> rfl) (by omega) _ _ hP hD hS ls (lv_sub hl [3, 4, 1, 2, 0] rfl)
                  · refine lv_aload_n hx hb dX8_which_98 rfl (lv_at hl 0 rfl) ?_
                    refine lv_iload hx hb dX8_which_99 (lv_at hl 4 rfl) ?_
                    refine lv_aload_n hx hb dX8_which_101 rfl (lv_at hl 0 rfl) ?_
                    refine va_get (D := G.1) (ci := 7) (v := .ref (ad 6)) (C := RX8) (T := TX8) (N := 17) hx hb hts inA8 hown hX.1 hP 0 rfl rfl 7 (by decide) (hts _ kw_687) (fun _ h9 => h9) rfl dX8_which_102 ?_
                    refine lv_iconst (v := (nI 2)) hx hb dX8_which_105 (by decide) ?_
                    refine lv_iload hx hb dX8_which_106 (lv_at hl 6 rfl) ?_
                    refine lv_imul hx hb dX8_which_108 (ti (y := (nI (2 * k))) (pk_mul _ _) ?_)
                    refine nv_aldI (f := fa) (k := 2 * k) hx hb hX hP 6 rfl (by omega) (by decide) dX8_which_109 ?_
                    refine ca_Vi (ci := 7) (q := (RX8, TX8, 17)) (rest := []) (wr := ([] : va_W)) F hX (mX8_away l G ad z fo sv d pa ke ik fa te (mesN (sf sv) (sg sv) (sc sv) (sv 6) (sv 1) (sv 0) (clo (sf sv) (sg sv) (sv 5) (sv 1) (sv 2)) aw) v (fa (2 * k)) hml9 (by omega)) (cA_V hts kw_901 kw_8 kw_898 kw_900 kp_46 hdX8_away ⟨Nat.le_of_ble_eq_true rfl, Nat.le_of_ble_eq_true rfl⟩) rfl rfl rfl hl.1 rfl (Nat.le_of_ble_eq_true rfl) dX8_which_110 ⟨Nat.le_of_ble_eq_true rfl, Nat.le_of_ble_eq_true rfl⟩ hP hD hS hA (pm_nil _) (fun r110 u110 H locs hp110 hP hD hS => ?_)
                    have hP : va_P G.1 vwCl (mow G ad z fo sv d pa ke ik fa te (mesN (sf sv) (sg sv) (sc sv) (sv 6) (sv 1) (sv 0) (clo (sf sv) (sg sv) (sv 5) (sv 1) (sv 2)) aw)) H := wp_pm (pm_nil _).symm hP
                    have hD : va_D A (mow G ad z fo sv d pa ke ik fa te (mesN (sf sv) (sg sv) (sc sv) (sv 6) (sv 1) (sv 0) (clo (sf sv) (sg sv) (sv 5) (sv 1) (sv 2)) aw)) := wd_pm (pm_nil _).symm hD
                    subst hp110
                    refine lv_aload_n hx hb dX8_which_113 rfl (lv_at hl 0 rfl) ?_
                    refine va_get (D := G.1) (ci := 7) (v := .ref (ad 6)) (C := RX8) (T := TX8) (N := 17) hx hb hts inA8 hown hX.1 hP 0 rfl rfl 7 (by decide) (hts _ kw_687) (fun _ h9 => h9) rfl dX8_which_114 ?_
                    refine lv_iconst (v := (nI 2)) hx hb dX8_which_117 (by decide) ?_
                    refine lv_iload hx hb dX8_which_118 (lv_at hl 6 rfl) ?_
                    refine lv_imul hx hb dX8_which_120 (ti (y := (nI (2 * k))) (pk_mul _ _) ?_)
                    refine lv_iconst (v := (nI 1)) hx hb dX8_which_121 (by decide) ?_
                    refine lv_iadd hx hb dX8_which_122 (ti (y := (nI ((2 * k) + 1))) (nI_add _ _) ?_)
                    refine nv_aldI (f := fa) (k := (2 * k) + 1) hx hb hX hP 6 rfl (by omega) (by decide) dX8_which_123 ?_
                    refine lv_icmp_ne (x := (oN (mawI (mesN (sf sv) (sg sv) (sc sv) (sv 6) (sv 1) (sv 0) (clo (sf sv) (sg sv) (sv 5) (sv 1) (sv 2)) aw) v (fa (2 * k))))) (y := (fa ((2 * k) + 1))) (tgt := 131) hx hb dX8_which_124 (by decide) (fun c124 => ?_) (fun c124 => ?_)
                    · refine lv_iconst (v := (nI 0)) hx hb dX8_which_131 (by decide) ?_
                      refine lv_istore (lv' := [(5, .int (nI 0)), (0, .ref (ad 0)), (1, .int (nI 0)), (2, .int (nI ((mwS (mesN (sf sv) (sg sv) (sc sv) (sv 6) (sv 1) (sv 0) (clo (sf sv) (sg sv) (sv 5) (sv 1) (sv 2)) aw) fa (z 8) (sv 2) (sv 4) v).1))), (3, .int (oN ((mwS (mesN (sf sv) (sg sv) (sc sv) (sv 6) (sv 1) (sv 0) (clo (sf sv) (sg sv) (sv 5) (sv 1) (sv 2)) aw) fa (z 8) (sv 2) (sv 4) v).2))), (4, .int (nI v)), (6, .int (nI k))]) hx hb dX8_which_132 hl (by decide) rfl (fun ls hl => ?_)
                      refine lv_iinc (v := (nI (k + 1))) (lv' := [(6, .int (nI (k + 1))), (5, .int (nI 0)), (0, .ref (ad 0)), (1, .int (nI 0)), (2, .int (nI ((mwS (mesN (sf sv) (sg sv) (sc sv) (sv 6) (sv 1) (sv 0) (clo (sf sv) (sg sv) (sv 5) (sv 1) (sv 2)) aw) fa (z 8) (sv 2) (sv 4) v).1))), (3, .int (oN ((mwS (mesN (sf sv) (sg sv) (sc sv) (sv 6) (sv 1) (sv 0) (clo (sf sv) (sg sv) (sv 5) (sv 1) (sv 2)) aw) fa (z 8) (sv 2) (sv 4) v).2))), (4, .int (nI v))]) hx hb dX8_which_134 hl (k := 6) rfl (qn_inc _) (by decide) rfl (fun ls hl => ?_)
                      refine lv_goto (tgt := 84) hx hb dX8_which_137 (by decide) ?_
                      exact ih84 (k + 1) 0 (by omega) (by omega) (by omega) ⟨fun h => absurd h (by decide), fun h => by rw [fuB, decide_eq_false c124, Bool.and_false] at h; exact absurd h.2 (by decide)⟩ _ _ hP hD hS ls (lv_sub hl [2, 3, 4, 5, 6, 1, 0] rfl)
                    · refine lv_iconst (v := (nI 1)) hx hb dX8_which_127 (by decide) ?_
                      refine lv_goto (tgt := 132) hx hb dX8_which_128 (by decide) ?_
                      refine lv_istore (lv' := [(5, .int (nI 1)), (0, .ref (ad 0)), (1, .int (nI 0)), (2, .int (nI ((mwS (mesN (sf sv) (sg sv) (sc sv) (sv 6) (sv 1) (sv 0) (clo (sf sv) (sg sv) (sv 5) (sv 1) (sv 2)) aw) fa (z 8) (sv 2) (sv 4) v).1))), (3, .int (oN ((mwS (mesN (sf sv) (sg sv) (sc sv) (sv 6) (sv 1) (sv 0) (clo (sf sv) (sg sv) (sv 5) (sv 1) (sv 2)) aw) fa (z 8) (sv 2) (sv 4) v).2))), (4, .int (nI v)), (6, .int (nI k))]) hx hb dX8_which_132 hl (by decide) rfl (fun ls hl => ?_)
                      refine lv_iinc (v := (nI (k + 1))) (lv' := [(6, .int (nI (k + 1))), (5, .int (nI 1)), (0, .ref (ad 0)), (1, .int (nI 0)), (2, .int (nI ((mwS (mesN (sf sv) (sg sv) (sc sv) (sv 6) (sv 1) (sv 0) (clo (sf sv) (sg sv) (sv 5) (sv 1) (sv 2)) aw) fa (z 8) (sv 2) (sv 4) v).1))), (3, .int (oN ((mwS (mesN (sf sv) (sg sv) (sc sv) (sv 6) (sv 1) (sv 0) (clo (sf sv) (sg sv) (sv 5) (sv 1) (sv 2)) aw) fa (z 8) (sv 2) (sv 4) v).2))), (4, .int (nI v))]) hx hb dX8_which_134 hl (k := 6) rfl (qn_inc _) (by decide) rfl (fun ls hl => ?_)
                      refine lv_goto (tgt := 84) hx hb dX8_which_137 (by decide) ?_
                      exact ih84 (k + 1) 1 (by omega) (by omega) (by omega) ⟨fun _ => by rw [fuB, decide_eq_true c124, Bool.and_true]; exact hyy.mp (by omega), fun _ => rfl⟩ _ _ hP hD hS ls (lv_sub hl [2, 3, 4, 5, 6, 1, 0] rfl)
            exact lp84 _ 0 0 (Nat.lt_succ_self _) (Nat.zero_le _) (by omega) ⟨fun h => absurd h (by decide), fun h => absurd c57 h.1.1⟩ _ _ hP hD hS ls (lv_sub hl [2, 3, 4, 5, 6, 1, 0] rfl)
          · refine lv_aload_n hx hb dX8_which_60 rfl (lv_at hl 0 rfl) ?_
            refine va_get (D := G.1) (ci := 7) (v := .ref (ad 1)) (C := RX8) (T := TX8) (N := 17) hx hb hts inA8 hown hX.1 hP 0 rfl rfl 1 (by decide) (hts _ kw_681) (fun _ h9 => h9) rfl dX8_which_61 ?_
            refine lv_iconst (v := (nI 4)) hx hb dX8_which_64 (by decide) ?_
            refine nv_ald (f := sv) (k := 4) hx hb hX hP 1 rfl (by omega) (by decide) dX8_which_65 ?_
            refine lv_iload hx hb dX8_which_66 (lv_at hl 4 rfl) ?_
            refine ca_Si (rest := []) (wr := mow G ad z fo sv d pa ke ik fa te (mesN (sf sv) (sg sv) (sc sv) (sv 6) (sv 1) (sv 0) (clo (sf sv) (sg sv) (sv 5) (sv 1) (sv 2)) aw)) F hX (mX8_has l G (sv 4) v (by omega) (by omega)) (cA_S hts kw_801 kw_8 kw_799 kw_800 hdX8_has ⟨Nat.le_of_ble_eq_true rfl, Nat.le_of_ble_eq_true rfl⟩) rfl hl.1 rfl (Nat.le_of_ble_eq_true rfl) dX8_which_68 ⟨Nat.le_of_ble_eq_true rfl, Nat.le_of_ble_eq_true rfl⟩ hP hD hS hA (List.Perm.refl _) (fun r68 u68 H locs hp68 hP hD hS => ?_)
            have hP : va_P G.1 vwCl (mow G ad z fo sv d pa ke ik fa te (mesN (sf sv) (sg sv) (sc sv) (sv 6) (sv 1) (sv 0) (clo (sf sv) (sg sv) (sv 5) (sv 1) (sv 2)) aw)) H := hP
            have hD : va_D A (mow G ad z fo sv d pa ke ik fa te (mesN (sf sv) (sg sv) (sc sv) (sv 6) (sv 1) (sv 0) (clo (sf sv) (sg sv) (sv 5) (sv 1) (sv 2)) aw)) := hD
            subst hp68
            refine bv_ne (b := (sv 4).testBit v) (tgt := 78) hx hb dX8_which_71 (by decide) (fun c71 => ?_) (fun c71 => ?_)
            · refine lv_iconst (v := (nI 0)) hx hb dX8_which_78 (by decide) ?_
              refine lv_istore (lv' := [(5, .int (nI 0)), (0, .ref (ad 0)), (1, .int (nI 0)), (2, .int (nI ((mwS (mesN (sf sv) (sg sv) (sc sv) (sv 6) (sv 1) (sv 0) (clo (sf sv) (sg sv) (sv 5) (sv 1) (sv 2)) aw) fa (z 8) (sv 2) (sv 4) v).1))), (3, .int (oN ((mwS (mesN (sf sv) (sg sv) (sc sv) (sv 6) (sv 1) (sv 0) (clo (sf sv) (sg sv) (sv 5) (sv 1) (sv 2)) aw) fa (z 8) (sv 2) (sv 4) v).2))), (4, .int (nI v))]) hx hb dX8_which_79 hl (by decide) rfl (fun ls hl => ?_)
              refine lv_iconst (v := (nI 0)) hx hb dX8_which_81 (by decide) ?_
              refine lv_istore (lv' := [(6, .int (nI 0)), (5, .int (nI 0)), (0, .ref (ad 0)), (1, .int (nI 0)), (2, .int (nI ((mwS (mesN (sf sv) (sg sv) (sc sv) (sv 6) (sv 1) (sv 0) (clo (sf sv) (sg sv) (sv 5) (sv 1) (sv 2)) aw) fa (z 8) (sv 2) (sv 4) v).1))), (3, .int (oN ((mwS (mesN (sf sv) (sg sv) (sc sv) (sv 6) (sv 1) (sv 0) (clo (sf sv) (sg sv) (sv 5) (sv 1) (sv 2)) aw) fa (z 8) (sv 2) (sv 4) v).2))), (4, .int (nI v))]) hx hb dX8_which_82 hl (by decide) rfl (fun ls hl => ?_)
              have lp84 : ∀ (n84 : Nat) (k : Nat) (y : Nat), (z 8 - k) < n84 → (k ≤ z 8) → (y ≤ 1) → (y = 1 ↔ ((v ≠ sv 2 ∧ (sv 4).testBit v = false) ∧ fuB (mesN (sf sv) (sg sv) (sc sv) (sv 6) (sv 1) (sv 0) (clo (sf sv) (sg sv) (sv 5) (sv 1) (sv 2)) aw) fa v k = true)) → ∀ (H : Heap) (locs : List Loc), va_P G.1 vwCl (mow G ad z fo sv d pa ke ik fa te (mesN (sf sv) (sg sv) (sc sv) (sv 6) (sv 1) (sv 0) (clo (sf sv) (sg sv) (sv 5) (sv 1) (sv 2)) aw)) H → va_D A (mow G ad z fo sv d pa ke ik fa te (mesN (sf sv) (sg sv) (sc sv) (sv 6) (sv 1) (sv 0) (clo (sf sv) (sg sv) (sv 5) (sv 1) (sv 2)) aw)) → va_S A s.heap H locs → ∀ (ls : Array Slot), lv_has ls 7 [(0, .ref (ad 0)), (1, .int (nI 0)), (2, .int (nI ((mwS (mesN (sf sv) (sg sv) (sc sv) (sv 6) (sv 1) (sv 0) (clo (sf sv) (sg sv) (sv 5) (sv 1) (sv 2)) aw) fa (z 8) (sv 2) (sv 4) v).1))), (3, .int (oN ((mwS (mesN (sf sv) (sg sv) (sc sv) (sv 6) (sv 1) (sv 0) (clo (sf sv) (sg sv) (sv 5) (sv 1) (sv 2)) aw) fa (z 8) (sv 2) (sv 4) v).2))), (4, .int (nI v)), (5, .int (nI y)), (6, .int (nI k))] → WI p l e (rmN 2 47) s m [.ref (ad 0), .int (nI 0)] below meth c H locs G A (fun (r9 : Int32) (_ : Unit) => r9 = (nI ((mwS (mesN (sf sv) (sg sv) (sc sv) (sv 6) (sv 1) (sv 0) (clo (sf sv) (sg sv) (sv 5) (sv 1) (sv 2)) aw) fa (z 8) (sv 2) (sv 4) (sv 0)).1))) (fun (_ : Unit) => mow G ad z fo sv d pa ke ik fa te (mesN (sf sv) (sg sv) (sc sv) (sv 6) (sv 1) (sv 0) (clo (sf sv) (sg sv) (sv 5) (sv 1) (sv 2)) aw)) (F0 m 84 ls []) := by
                intro n84
                induction n84 with
                | zero => intro k y h9; exact absurd h9 (Nat.not_lt_zero _)
                | succ n84 ih84 =>
                  intro k y hm84  hk hy1 hyy H locs hP hD hS ls hl
                  refine lv_iload hx hb dX8_which_84 (lv_at hl 6 rfl) ?_
                  refine lv_aload_n hx hb dX8_which_86 rfl (lv_at hl 0 rfl) ?_
                  refine va_get (D := G.1) (ci := 7) (v := .int (nI (z 8))) (C := RX8) (T := TX8) (N := 17) hx hb hts inA8 hown hX.1 hP 0 rfl rfl 8 (by decide) (hts _ kw_688) (fun _ h9 => h9) rfl dX8_which_87 ?_
                  refine nv_ge (x := k) (y := z 8) (tgt := 140) hx hb dX8_which_90 (by decide) (by omega) (by omega) (fun c90 => ?_) (fun c90 => ?_)
                  · have hfi : y = 1 ↔ fiB (mesN (sf sv) (sg sv) (sc sv) (sv 6) (sv 1) (sv 0) (clo (sf sv) (sg sv) (sv 5) (sv 1) (sv 2)) aw) fa (z 8) (sv 2) (sv 4) v = true := by have ek : k = z 8 := (by omega); rw [ek] at hyy; unfold fiB; rw [hyy]; simp [and_assoc]
                    refine lv_iload hx hb dX8_which_140 (lv_at hl 5 rfl) ?_
                    refine nv_zeq (x := y) (tgt := 154) hx hb dX8_which_142 (by decide) (by omega) (fun c142 => ?_) (fun c142 => ?_)
                    · refine lv_iload_n hx hb dX8_which_154 rfl (lv_at hl 3 rfl) ?_
                      refine lv_istore_n (lv' := [(3, .int (oN ((mwS (mesN (sf sv) (sg sv) (sc sv) (sv 6) (sv 1) (sv 0) (clo (sf sv) (sg sv) (sv 5) (sv 1) (sv 2)) aw) fa (z 8) (sv 2) (sv 4) v).2))), (0, .ref (ad 0)), (1, .int (nI 0)), (2, .int (nI ((mwS (mesN (sf sv) (sg sv) (sc sv) (sv 6) (sv 1) (sv 0) (clo (sf sv) (sg sv) (sv 5) (sv 1) (sv 2)) aw) fa (z 8) (sv 2) (sv 4) v).1))), (4, .int (nI v)), (5, .int (nI y)), (6, .int (nI k))]) hx hb dX8_which_155 rfl hl (by decide) rfl (fun ls hl => ?_)
                      refine lv_iload_n hx hb dX8_which_156 rfl (lv_at hl 3 rfl) ?_
                      refine lv_iload hx hb dX8_which_157 (lv_at hl 5 rfl) ?_
                      refine nv_zeq (x := y) (tgt := 166) hx hb dX8_which_159 (by decide) (by omega) (fun c159 => ?_) (fun c159 => ?_)
                      · refine lv_iconst (v := (nI 0)) hx hb dX8_which_166 (by decide) ?_
                        refine lv_iadd hx hb dX8_which_167 (ti (y := (nI (((mwS (mesN (sf sv) (sg sv) (sc sv) (sv 6) (sv 1) (sv 0) (clo (sf sv) (sg sv) (sv 5) (sv 1) (sv 2)) aw) fa (z 8) (sv 2) (sv 4) v).1) + 0))) (nI_add _ _) ?_)
                        refine lv_istore_n (lv' := [(2, .int (nI (((mwS (mesN (sf sv) (sg sv) (sc sv) (sv 6) (sv 1) (sv 0) (clo (sf sv) (sg sv) (sv 5) (sv 1) (sv 2)) aw) fa (z 8) (sv 2) (sv 4) v).1) + 0))), (3, .int (oN ((mwS (mesN (sf sv) (sg sv) (sc sv) (sv 6) (sv 1) (sv 0) (clo (sf sv) (sg sv) (sv 5) (sv 1) (sv 2)) aw) fa (z 8) (sv 2) (sv 4) v).2))), (0, .ref (ad 0)), (1, .int (nI 0)), (4, .int (nI v)), (5, .int (nI y)), (6, .int (nI k))]) hx hb dX8_which_168 rfl hl (by decide) rfl (fun ls hl => ?_)
                        refine lv_iinc (v := (nI (v + 1))) (lv' := [(4, .int (nI (v + 1))), (2, .int (nI (((mwS (mesN (sf sv) (sg sv) (sc sv) (sv 6) (sv 1) (sv 0) (clo (sf sv) (sg sv) (sv 5) (sv 1) (sv 2)) aw) fa (z 8) (sv 2) (sv 4) v).1) + 0))), (3, .int (oN ((mwS (mesN (sf sv) (sg sv) (sc sv) (sv 6) (sv 1) (sv 0) (clo (sf sv) (sg sv) (sv 5) (sv 1) (sv 2)) aw) fa (z 8) (sv 2) (sv 4) v).2))), (0, .ref (ad 0)), (1, .int (nI 0)), (5, .int (nI y)), (6, .int (nI k))]) hx hb dX8_which_169 hl (k := 4) rfl (qn_inc _) (by decide) rfl (fun ls hl => ?_)
                        refine lv_goto (tgt := 38) hx hb dX8_which_172 (by decide) ?_
                        exact ih38 (v + 1) (((mwS (mesN (sf sv) (sg sv) (sc sv) (sv 6) (sv 1) (sv 0) (clo (sf sv) (sg sv) (sv 5) (sv 1) (sv 2)) aw) fa (z 8) (sv 2) (sv 4) v).1) + 0) ((mwS (mesN (sf sv) (sg sv) (sc sv) (sv 6) (sv 1) (sv 0) (clo (sf sv) (sg sv) (sv 5) (sv 1) (sv 2)) aw) fa (z 8) (sv 2) (sv 4) v).2) (by omega) (by have e8 : ¬ fiB (mesN (sf sv) (sg sv) (sc sv) (sv 6) (sv 1) (sv 0) (clo (sf sv) (sg sv) (sv 5) (sv 1) (sv 2)) aw) fa (z 8) (sv 2) (sv 4) v = true := fun h => absurd (hfi.mpr h) (by omega); rw [mwS, if_neg e8] <;> rfl) (by have e8 : ¬ fiB (mesN (sf sv) (sg sv) (sc sv) (sv 6) (sv 1) (sv 0) (clo (sf sv) (sg sv) (sv 5) (sv 1) (sv 2)) aw) fa (z 8) (sv 2) (sv 4) v = true := fun h => absurd (hfi.mpr h) (by omega); rw [mwS, if_neg e8] <;> rfl) (by omega) _ _ hP hD hS ls (lv_sub hl [3, 4, 1, 2, 0] rfl)
                      · exact absurd c142 c159
                    · refine lv_iload_n hx hb dX8_which_145 rfl (lv_at hl 2 rfl) ?_
                      refine nv_zne (x := (mwS (mesN (sf sv) (sg sv) (sc sv) (sv 6) (sv 1) (sv 0) (clo (sf sv) (sg sv) (sv 5) (sv 1) (sv 2)) aw) fa (z 8) (sv 2) (sv 4) v).1) (tgt := 154) hx hb dX8_which_146 (by decide) (by have := mwS_le (mesN (sf sv) (sg sv) (sc sv) (sv 6) (sv 1) (sv 0) (clo (sf sv) (sg sv) (sv 5) (sv 1) (sv 2)) aw) fa (z 8) (sv 2) (sv 4) v; omega) (fun c146 => ?_) (fun c146 => ?_)
                      · refine lv_iload_n hx hb dX8_which_154 rfl (lv_at hl 3 rfl) ?_
                        refine lv_istore_n (lv' := [(3, .int (oN ((mwS (mesN (sf sv) (sg sv) (sc sv) (sv 6) (sv 1) (sv 0) (clo (sf sv) (sg sv) (sv 5) (sv 1) (sv 2)) aw) fa (z 8) (sv 2) (sv 4) v).2))), (0, .ref (ad 0)), (1, .int (nI 0)), (2, .int (nI ((mwS (mesN (sf sv) (sg sv) (sc sv) (sv 6) (sv 1) (sv 0) (clo (sf sv) (sg sv) (sv 5) (sv 1) (sv 2)) aw) fa (z 8) (sv 2) (sv 4) v).1))), (4, .int (nI v)), (5, .int (nI y)), (6, .int (nI k))]) hx hb dX8_which_155 rfl hl (by decide) rfl (fun ls hl => ?_)
                        refine lv_iload_n hx hb dX8_which_156 rfl (lv_at hl 3 rfl) ?_
                        refine lv_iload hx hb dX8_which_157 (lv_at hl 5 rfl) ?_
                        refine nv_zeq (x := y) (tgt := 166) hx hb dX8_which_159 (by decide) (by omega) (fun c159 => ?_) (fun c159 => ?_)
                        · exact absurd c159 c142
                        · refine lv_iconst (v := (nI 1)) hx hb dX8_which_162 (by decide) ?_
                          refine lv_goto (tgt := 167) hx hb dX8_which_163 (by decide) ?_
                          refine lv_iadd hx hb dX8_which_167 (ti (y := (nI (((mwS (mesN (sf sv) (sg sv) (sc sv) (sv 6) (sv 1) (sv 0) (clo (sf sv) (sg sv) (sv 5) (sv 1) (sv 2)) aw) fa (z 8) (sv 2) (sv 4) v).1) + 1))) (nI_add _ _) ?_)
                          refine lv_istore_n (lv' := [(2, .int (nI (((mwS (mesN (sf sv) (sg sv) (sc sv) (sv 6) (sv 1) (sv 0) (clo (sf sv) (sg sv) (sv 5) (sv 1) (sv 2)) aw) fa (z 8) (sv 2) (sv 4) v).1) + 1))), (3, .int (oN ((mwS (mesN (sf sv) (sg sv) (sc sv) (sv 6) (sv 1) (sv 0) (clo (sf sv) (sg sv) (sv 5) (sv 1) (sv 2)) aw) fa (z 8) (sv 2) (sv 4) v).2))), (0, .ref (ad 0)), (1, .int (nI 0)), (4, .int (nI v)), (5, .int (nI y)), (6, .int (nI k))]) hx hb dX8_which_168 rfl hl (by decide) rfl (fun ls hl => ?_)
                          refine lv_iinc (v := (nI (v + 1))) (lv' := [(4, .int (nI (v + 1))), (2, .int (nI (((mwS (mesN (sf sv) (sg sv) (sc sv) (sv 6) (sv 1) (sv 0) (clo (sf sv) (sg sv) (sv 5) (sv 1) (sv 2)) aw) fa (z 8) (sv 2) (sv 4) v).1) + 1))), (3, .int (oN ((mwS (mesN (sf sv) (sg sv) (sc sv) (sv 6) (sv 1) (sv 0) (clo (sf sv) (sg sv) (sv 5) (sv 1) (sv 2)) aw) fa (z 8) (sv 2) (sv 4) v).2))), (0, .ref (ad 0)), (1, .int (nI 0)), (5, .int (nI y)), (6, .int (nI k))]) hx hb dX8_which_169 hl (k := 4) rfl (qn_inc _) (by decide) rfl (fun ls hl => ?_)
                          refine lv_goto (tgt := 38) hx hb dX8_which_172 (by decide) ?_
                          exact ih38 (v + 1) (((mwS (mesN (sf sv) (sg sv) (sc sv) (sv 6) (sv 1) (sv 0) (clo (sf sv) (sg sv) (sv 5) (sv 1) (sv 2)) aw) fa (z 8) (sv 2) (sv 4) v).1) + 1) ((mwS (mesN (sf sv) (sg sv) (sc sv) (sv 6) (sv 1) (sv 0) (clo (sf sv) (sg sv) (sv 5) (sv 1) (sv 2)) aw) fa (z 8) (sv 2) (sv 4) v).2) (by omega) (by have e8 : fiB (mesN (sf sv) (sg sv) (sc sv) (sv 6) (sv 1) (sv 0) (clo (sf sv) (sg sv) (sv 5) (sv 1) (sv 2)) aw) fa (z 8) (sv 2) (sv 4) v = true := hfi.mp (by omega); rw [mwS, if_pos e8] <;> rfl) (by have e8 : fiB (mesN (sf sv) (sg sv) (sc sv) (sv 6) (sv 1) (sv 0) (clo (sf sv) (sg sv) (sv 5) (sv 1) (sv 2)) aw) fa (z 8) (sv 2) (sv 4) v = true := hfi.mp (by omega); rw [mwS, if_pos e8, if_neg c146] <;> rfl) (by omega) _ _ hP hD hS ls (lv_sub hl [3, 4, 1, 2, 0] rfl)
                      · refine lv_iload hx hb dX8_which_149 (lv_at hl 4 rfl) ?_
                        refine lv_goto (tgt := 155) hx hb dX8_which_151 (by decide) ?_
                        refine lv_istore_n (lv' := [(3, .int (nI v)), (0, .ref (ad 0)), (1, .int (nI 0)), (2, .int (nI ((mwS (mesN (sf sv) (sg sv) (sc sv) (sv 6) (sv 1) (sv 0) (clo (sf sv) (sg sv) (sv 5) (sv 1) (sv 2)) aw) fa (z 8) (sv 2) (sv 4) v).1))), (4, .int (nI v)), (5, .int (nI y)), (6, .int (nI k))]) hx hb dX8_which_155 rfl hl (by decide) rfl (fun ls hl => ?_)
                        refine lv_iload_n hx hb dX8_which_156 rfl (lv_at hl 3 rfl) ?_
                        refine lv_iload hx hb dX8_which_157 (lv_at hl 5 rfl) ?_
                        refine nv_zeq (x := y) (tgt := 166) hx hb dX8_which_159 (by decide) (by omega) (fun c159 => ?_) (fun c159 => ?_)
                        · exact absurd c159 c142
                        · refine lv_iconst (v := (nI 1)) hx hb dX8_which_162 (by decide) ?_
                          refine lv_goto (tgt := 167) hx hb dX8_which_163 (by decide) ?_
                          refine lv_iadd hx hb dX8_which_167 (ti (y := (nI (((mwS (mesN (sf sv) (sg sv) (sc sv) (sv 6) (sv 1) (sv 0) (clo (sf sv) (sg sv) (sv 5) (sv 1) (sv 2)) aw) fa (z 8) (sv 2) (sv 4) v).1) + 1))) (nI_add _ _) ?_)
                          refine lv_istore_n (lv' := [(2, .int (nI (((mwS (mesN (sf sv) (sg sv) (sc sv) (sv 6) (sv 1) (sv 0) (clo (sf sv) (sg sv) (sv 5) (sv 1) (sv 2)) aw) fa (z 8) (sv 2) (sv 4) v).1) + 1))), (3, .int (nI v)), (0, .ref (ad 0)), (1, .int (nI 0)), (4, .int (nI v)), (5, .int (nI y)), (6, .int (nI k))]) hx hb dX8_which_168 rfl hl (by decide) rfl (fun ls hl => ?_)
                          refine lv_iinc (v := (nI (v + 1))) (lv' := [(4, .int (nI (v + 1))), (2, .int (nI (((mwS (mesN (sf sv) (sg sv) (sc sv) (sv 6) (sv 1) (sv 0) (clo (sf sv) (sg sv) (sv 5) (sv 1) (sv 2)) aw) fa (z 8) (sv 2) (sv 4) v).1) + 1))), (3, .int (nI v)), (0, .ref (ad 0)), (1, .int (nI 0)), (5, .int (nI y)), (6, .int (nI k))]) hx hb dX8_which_169 hl (k := 4) rfl (qn_inc _) (by decide) rfl (fun ls hl => ?_)
                          refine lv_goto (tgt := 38) hx hb dX8_which_172 (by decide) ?_
                          exact ih38 (v + 1) (((mwS (mesN (sf sv) (sg sv) (sc sv) (sv 6) (sv 1) (sv 0) (clo (sf sv) (sg sv) (sv 5) (sv 1) (sv 2)) aw) fa (z 8) (sv 2) (sv 4) v).1) + 1) (some v) (by omega) (by have e8 : fiB (mesN (sf sv) (sg sv) (sc sv) (sv 6) (sv 1) (sv 0) (clo (sf sv) (sg sv) (sv 5) (sv 1) (sv 2)) aw) fa (z 8) (sv 2) (sv 4) v = true := hfi.mp (by omega); rw [mwS, if_pos e8] <;> rfl) (by have e8 : fiB (mesN (sf sv) (sg sv) (sc sv) (sv 6) (sv 1) (sv 0) (clo (sf sv) (sg sv) (sv 5) (sv 1) (sv 2)) aw) fa (z 8) (sv 2) (sv 4) v = true := hfi.mp (by omega); rw [mwS, if_pos e8, if_pos c146] <;> rfl) (by omega) _ _ hP hD hS ls (lv_sub hl [3, 4, 1, 2, 0] rfl)
                  · refine lv_iload hx hb dX8_which_93 (lv_at hl 5 rfl) ?_
                    refine nv_zeq (x := y) (tgt := 140) hx hb dX8_which_95 (by decide) (by omega) (fun c95 => ?_) (fun c95 => ?_)
                    · have hfi : y = 1 ↔ fiB (mesN (sf sv) (sg sv) (sc sv) (sv 6) (sv 1) (sv 0) (clo (sf sv) (sg sv) (sv 5) (sv 1) (sv 2)) aw) fa (z 8) (sv 2) (sv 4) v = true := by have hn : ¬ ((v ≠ sv 2 ∧ (sv 4).testBit v = false) ∧ fuB (mesN (sf sv) (sg sv) (sc sv) (sv 6) (sv 1) (sv 0) (clo (sf sv) (sg sv) (sv 5) (sv 1) (sv 2)) aw) fa v k = true) := fun h => absurd (hyy.mpr h) (by omega); refine ⟨fun h => absurd h (by omega), fun h => ?_⟩; unfold fiB at h; simp only [Bool.and_eq_true, decide_eq_true_eq, Bool.not_eq_true'] at h; exfalso; cases hf : fuB (mesN (sf sv) (sg sv) (sc sv) (sv 6) (sv 1) (sv 0) (clo (sf sv) (sg sv) (sv 5) (sv 1) (sv 2)) aw) fa v k with | false => exact absurd (fuB_no hf (z 8) (by omega)) (by rw [h.2]; decide) | true => exact hn ⟨h.1, hf⟩
                      refine lv_iload hx hb dX8_which_140 (lv_at hl 5 rfl) ?_
                      refine nv_zeq (x := y) (tgt := 154) hx hb dX8_which_142 (by decide) (by omega) (fun c142 => ?_) (fun c142 => ?_)
                      · refine lv_iload_n hx hb dX8_which_154 rfl (lv_at hl 3 rfl) ?_
                        refine lv_istore_n (lv' := [(3, .int (oN ((mwS (mesN (sf sv) (sg sv) (sc sv) (sv 6) (sv 1) (sv 0) (clo (sf sv) (sg sv) (sv 5) (sv 1) (sv 2)) aw) fa (z 8) (sv 2) (sv 4) v).2))), (0, .ref (ad 0)), (1, .int (nI 0)), (2, .int (nI ((mwS (mesN (sf sv) (sg sv) (sc sv) (sv 6) (sv 1) (sv 0) (clo (sf sv) (sg sv) (sv 5) (sv 1) (sv 2)) aw) fa (z 8) (sv 2) (sv 4) v).1))), (4, .int (nI v)), (5, .int (nI y)), (6, .int (nI k))]) hx hb dX8_which_155 rfl hl (by decide) rfl (fun ls hl => ?_)
                        refine lv_iload_n hx hb dX8_which_156 rfl (lv_at hl 3 rfl) ?_
                        refine lv_iload hx hb dX8_which_157 (lv_at hl 5 rfl) ?_
                        refine nv_zeq (x := y) (tgt := 166) hx hb dX8_which_159 (by decide) (by omega) (fun c159 => ?_) (fun c159 => ?_)
                        · refine lv_iconst (v := (nI 0)) hx hb dX8_which_166 (by decide) ?_
                          refine lv_iadd hx hb dX8_which_167 (ti (y := (nI (((mwS (mesN (sf sv) (sg sv) (sc sv) (sv 6) (sv 1) (sv 0) (clo (sf sv) (sg sv) (sv 5) (sv 1) (sv 2)) aw) fa (z 8) (sv 2) (sv 4) v).1) + 0))) (nI_add _ _) ?_)
                          refine lv_istore_n (lv' := [(2, .int (nI (((mwS (mesN (sf sv) (sg sv) (sc sv) (sv 6) (sv 1) (sv 0) (clo (sf sv) (sg sv) (sv 5) (sv 1) (sv 2)) aw) fa (z 8) (sv 2) (sv 4) v).1) + 0))), (3, .int (oN ((mwS (mesN (sf sv) (sg sv) (sc sv) (sv 6) (sv 1) (sv 0) (clo (sf sv) (sg sv) (sv 5) (sv 1) (sv 2)) aw) fa (z 8) (sv 2) (sv 4) v).2))), (0, .ref (ad 0)), (1, .int (nI 0)), (4, .int (nI v)), (5, .int (nI y)), (6, .int (nI k))]) hx hb dX8_which_168 rfl hl (by decide) rfl (fun ls hl => ?_)
                          refine lv_iinc (v := (nI (v + 1))) (lv' := [(4, .int (nI (v + 1))), (2, .int (nI (((mwS (mesN (sf sv) (sg sv) (sc sv) (sv 6) (sv 1) (sv 0) (clo (sf sv) (sg sv) (sv 5) (sv 1) (sv 2)) aw) fa (z 8) (sv 2) (sv 4) v).1) + 0))), (3, .int (oN ((mwS (mesN (sf sv) (sg sv) (sc sv) (sv 6) (sv 1) (sv 0) (clo (sf sv) (sg sv) (sv 5) (sv 1) (sv 2)) aw) fa (z 8) (sv 2) (sv 4) v).2))), (0, .ref (ad 0)), (1, .int (nI 0)), (5, .int (nI y)), (6, .int (nI k))]) hx hb dX8_which_169 hl (k := 4) rfl (qn_inc _) (by decide) rfl (fun ls hl => ?_)
                          refine lv_goto (tgt := 38) hx hb dX8_which_172 (by decide) ?_
                          exact ih38 (v + 1) (((mwS (mesN (sf sv) (sg sv) (sc sv) (sv 6) (sv 1) (sv 0) (clo (sf sv) (sg sv) (sv 5) (sv 1) (sv 2)) aw) fa (z 8) (sv 2) (sv 4) v).1) + 0) ((mwS (mesN (sf sv) (sg sv) (sc sv) (sv 6) (sv 1) (sv 0) (clo (sf sv) (sg sv) (sv 5) (sv 1) (sv 2)) aw) fa (z 8) (sv 2) (sv 4) v).2) (by omega) (by have e8 : ¬ fiB (mesN (sf sv) (sg sv) (sc sv) (sv 6) (sv 1) (sv 0) (clo (sf sv) (sg sv) (sv 5) (sv 1) (sv 2)) aw) fa (z 8) (sv 2) (sv 4) v = true := fun h => absurd (hfi.mpr h) (by omega); rw [mwS, if_neg e8] <;> rfl) (by have e8 : ¬ fiB (mesN (sf sv) (sg sv) (sc sv) (sv 6) (sv 1) (sv 0) (clo (sf sv) (sg sv) (sv 5) (sv 1) (sv 2)) aw) fa (z 8) (sv 2) (sv 4) v = true := fun h => absurd (hfi.mpr h) (by omega); rw [mwS, if_neg e8] <;> rfl) (by omega) _ _ hP hD hS ls (lv_sub hl [3, 4, 1, 2, 0] rfl)
                        · exact absurd c142 c159
                      · refine lv_iload_n hx hb dX8_which_145 rfl (lv_at hl 2 rfl) ?_
                        refine nv_zne (x := (mwS (mesN (sf sv) (sg sv) (sc sv) (sv 6) (sv 1) (sv 0) (clo (sf sv) (sg sv) (sv 5) (sv 1) (sv 2)) aw) fa (z 8) (sv 2) (sv 4) v).1) (tgt := 154) hx hb dX8_which_146 (by decide) (by have := mwS_le (mesN (sf sv) (sg sv) (sc sv) (sv 6) (sv 1) (sv 0) (clo (sf sv) (sg sv) (sv 5) (sv 1) (sv 2)) aw) fa (z 8) (sv 2) (sv 4) v; omega) (fun c146 => ?_) (fun c146 => ?_)
                        · refine lv_iload_n hx hb dX8_which_154 rfl (lv_at hl 3 rfl) ?_
                          refine lv_istore_n (lv' := [(3, .int (oN ((mwS (mesN (sf sv) (sg sv) (sc sv) (sv 6) (sv 1) (sv 0) (clo (sf sv) (sg sv) (sv 5) (sv 1) (sv 2)) aw) fa (z 8) (sv 2) (sv 4) v).2))), (0, .ref (ad 0)), (1, .int (nI 0)), (2, .int (nI ((mwS (mesN (sf sv) (sg sv) (sc sv) (sv 6) (sv 1) (sv 0) (clo (sf sv) (sg sv) (sv 5) (sv 1) (sv 2)) aw) fa (z 8) (sv 2) (sv 4) v).1))), (4, .int (nI v)), (5, .int (nI y)), (6, .int (nI k))]) hx hb dX8_which_155 rfl hl (by decide) rfl (fun ls hl => ?_)
                          refine lv_iload_n hx hb dX8_which_156 rfl (lv_at hl 3 rfl) ?_
                          refine lv_iload hx hb dX8_which_157 (lv_at hl 5 rfl) ?_
                          refine nv_zeq (x := y) (tgt := 166) hx hb dX8_which_159 (by decide) (by omega) (fun c159 => ?_) (fun c159 => ?_)
                          · exact absurd c159 c142
                          · refine lv_iconst (v := (nI 1)) hx hb dX8_which_162 (by decide) ?_
                            refine lv_goto (tgt := 167) hx hb dX8_which_163 (by decide) ?_
                            refine lv_iadd hx hb dX8_which_167 (ti (y := (nI (((mwS (mesN (sf sv) (sg sv) (sc sv) (sv 6) (sv 1) (sv 0) (clo (sf sv) (sg sv) (sv 5) (sv 1) (sv 2)) aw) fa (z 8) (sv 2) (sv 4) v).1) + 1))) (nI_add _ _) ?_)
                            refine lv_istore_n (lv' := [(2, .int (nI (((mwS (mesN (sf sv) (sg sv) (sc sv) (sv 6) (sv 1) (sv 0) (clo (sf sv) (sg sv) (sv 5) (sv 1) (sv 2)) aw) fa (z 8) (sv 2) (sv 4) v).1) + 1))), (3, .int (oN ((mwS (mesN (sf sv) (sg sv) (sc sv) (sv 6) (sv 1) (sv 0) (clo (sf sv) (sg sv) (sv 5) (sv 1) (sv 2)) aw) fa (z 8) (sv 2) (sv 4) v).2))), (0, .ref (ad 0)), (1, .int (nI 0)), (4, .int (nI v)), (5, .int (nI y)), (6, .int (nI k))]) hx hb dX8_which_168 rfl hl (by decide) rfl (fun ls hl => ?_)
                            refine lv_iinc (v := (nI (v + 1))) (lv' := [(4, .int (nI (v + 1))), (2, .int (nI (((mwS (mesN (sf sv) (sg sv) (sc sv) (sv 6) (sv 1) (sv 0) (clo (sf sv) (sg sv) (sv 5) (sv 1) (sv 2)) aw) fa (z 8) (sv 2) (sv 4) v).1) + 1))), (3, .int (oN ((mwS (mesN (sf sv) (sg sv) (sc sv) (sv 6) (sv 1) (sv 0) (clo (sf sv) (sg sv) (sv 5) (sv 1) (sv 2)) aw) fa (z 8) (sv 2) (sv 4) v).2))), (0, .ref (ad 0)), (1, .int (nI 0)), (5, .int (nI y)), (6, .int (nI k))]) hx hb dX8_which_169 hl (k := 4) rfl (qn_inc _) (by decide) rfl (fun ls hl => ?_)
                            refine lv_goto (tgt := 38) hx hb dX8_which_172 (by decide) ?_
                            exact ih38 (v + 1) (((mwS (mesN (sf sv) (sg sv) (sc sv) (sv 6) (sv 1) (sv 0) (clo (sf sv) (sg sv) (sv 5) (sv 1) (sv 2)) aw) fa (z 8) (sv 2) (sv 4) v).1) + 1) ((mwS (mesN (sf sv) (sg sv) (sc sv) (sv 6) (sv 1) (sv 0) (clo (sf sv) (sg sv) (sv 5) (sv 1) (sv 2)) aw) fa (z 8) (sv 2) (sv 4) v).2) (by omega) (by have e8 : fiB (mesN (sf sv) (sg sv) (sc sv) (sv 6) (sv 1) (sv 0) (clo (sf sv) (sg sv) (sv 5) (sv 1) (sv 2)) aw) fa (z 8) (sv 2) (sv 4) v = true := hfi.mp (by omega); rw [mwS, if_pos e8] <;> rfl) (by have e8 : fiB (mesN (sf sv) (sg sv) (sc sv) (sv 6) (sv 1) (sv 0) (clo (sf sv) (sg sv) (sv 5) (sv 1) (sv 2)) aw) fa (z 8) (sv 2) (sv 4) v = true := hfi.mp (by omega); rw [mwS, if_pos e8, if_neg c146] <;> rfl) (by omega) _ _ hP hD hS ls (lv_sub hl [3, 4, 1, 2, 0] rfl)
                        · refine lv_iload hx hb dX8_which_149 (lv_at hl 4 rfl) ?_
                          refine lv_goto (tgt := 155) hx hb dX8_which_151 (by decide) ?_
                          refine lv_istore_n (lv' := [(3, .int (nI v)), (0, .ref (ad 0)), (1, .int (nI 0)), (2, .int (nI ((mwS (mesN (sf sv) (sg sv) (sc sv) (sv 6) (sv 1) (sv 0) (clo (sf sv) (sg sv) (sv 5) (sv 1) (sv 2)) aw) fa (z 8) (sv 2) (sv 4) v).1))), (4, .int (nI v)), (5, .int (nI y)), (6, .int (nI k))]) hx hb dX8_which_155 rfl hl (by decide) rfl (fun ls hl => ?_)
                          refine lv_iload_n hx hb dX8_which_156 rfl (lv_at hl 3 rfl) ?_
                          refine lv_iload hx hb dX8_which_157 (lv_at hl 5 rfl) ?_
                          refine nv_zeq (x := y) (tgt := 166) hx hb dX8_which_159 (by decide) (by omega) (fun c159 => ?_) (fun c159 => ?_)
                          · exact absurd c159 c142
                          · refine lv_iconst (v := (nI 1)) hx hb dX8_which_162 (by decide) ?_
                            refine lv_goto (tgt := 167) hx hb dX8_which_163 (by decide) ?_
                            refine lv_iadd hx hb dX8_which_167 (ti (y := (nI (((mwS (mesN (sf sv) (sg sv) (sc sv) (sv 6) (sv 1) (sv 0) (clo (sf sv) (sg sv) (sv 5) (sv 1) (sv 2)) aw) fa (z 8) (sv 2) (sv 4) v).1) + 1))) (nI_add _ _) ?_)
                            refine lv_istore_n (lv' := [(2, .int (nI (((mwS (mesN (sf sv) (sg sv) (sc sv) (sv 6) (sv 1) (sv 0) (clo (sf sv) (sg sv) (sv 5) (sv 1) (sv 2)) aw) fa (z 8) (sv 2) (sv 4) v).1) + 1))), (3, .int (nI v)), (0, .ref (ad 0)), (1, .int (nI 0)), (4, .int (nI v)), (5, .int (nI y)), (6, .int (nI k))]) hx hb dX8_which_168 rfl hl (by decide) rfl (fun ls hl => ?_)
                            refine lv_iinc (v := (nI (v + 1))) (lv' := [(4, .int (nI (v + 1))), (2, .int (nI (((mwS (mesN (sf sv) (sg sv) (sc sv) (sv 6) (sv 1) (sv 0) (clo (sf sv) (sg sv) (sv 5) (sv 1) (sv 2)) aw) fa (z 8) (sv 2) (sv 4) v).1) + 1))), (3, .int (nI v)), (0, .ref (ad 0)), (1, .int (nI 0)), (5, .int (nI y)), (6, .int (nI k))]) hx hb dX8_which_169 hl (k := 4) rfl (qn_inc _) (by decide) rfl (fun ls hl => ?_)
                            refine lv_goto (tgt := 38) hx hb dX8_which_172 (by decide) ?_
                            exact ih38 (v + 1) (((mwS (mesN (sf sv) (sg sv) (sc sv) (sv 6) (sv 1) (sv 0) (clo (sf sv) (sg sv) (sv 5) (sv 1) (sv 2)) aw) fa (z 8) (sv 2) (sv 4) v).1) + 1) (some v) (by omega) (by have e8 : fiB (mesN (sf sv) (sg sv) (sc sv) (sv 6) (sv 1) (sv 0) (clo (sf sv) (sg sv) (sv 5) (sv 1) (sv 2)) aw) fa (z 8) (sv 2) (sv 4) v = true := hfi.mp (by omega); rw [mwS, if_pos e8] <;> rfl) (by have e8 : fiB (mesN (sf sv) (sg sv) (sc sv) (sv 6) (sv 1) (sv 0) (clo (sf sv) (sg sv) (sv 5) (sv 1) (sv 2)) aw) fa (z 8) (sv 2) (sv 4) v = true := hfi.mp (by omega); rw [mwS, if_pos e8, if_pos c146] <;> rfl) (by omega) _ _ hP hD hS ls (lv_sub hl [3, 4, 1, 2, 0] rfl)
                    · refine lv_aload_n hx hb dX8_which_98 rfl (lv_at hl 0 rfl) ?_
                      refine lv_iload hx hb dX8_which_99 (lv_at hl 4 rfl) ?_
                      refine lv_aload_n hx hb dX8_which_101 rfl (lv_at hl 0 rfl) ?_
                      refine va_get (D := G.1) (ci := 7) (v := .ref (ad 6)) (C := RX8) (T := TX8) (N := 17) hx hb hts inA8 hown hX.1 hP 0 rfl rfl 7 (by decide) (hts _ kw_687) (fun _ h9 => h9) rfl dX8_which_102 ?_
                      refine lv_iconst (v := (nI 2)) hx hb dX8_which_105 (by decide) ?_
                      refine lv_iload hx hb dX8_which_106 (lv_at hl 6 rfl) ?_
                      refine lv_imul hx hb dX8_which_108 (ti (y := (nI (2 * k))) (pk_mul _ _) ?_)
                      refine nv_aldI (f := fa) (k := 2 * k) hx hb hX hP 6 rfl (by omega) (by decide) dX8_which_109 ?_
                      refine ca_Vi (ci := 7) (q := (RX8, TX8, 17)) (rest := []) (wr := ([] : va_W)) F hX (mX8_away l G ad z fo sv d pa ke ik fa te (mesN (sf sv) (sg sv) (sc sv) (sv 6) (sv 1) (sv 0) (clo (sf sv) (sg sv) (sv 5) (sv 1) (sv 2)) aw) v (fa (2 * k)) hml9 (by omega)) (cA_V hts kw_901 kw_8 kw_898 kw_900 kp_46 hdX8_away ⟨Nat.le_of_ble_eq_true rfl, Nat.le_of_ble_eq_true rfl⟩) rfl rfl rfl hl.1 rfl (Nat.le_of_ble_eq_true rfl) dX8_which_110 ⟨Nat.le_of_ble_eq_true rfl, Nat.le_of_ble_eq_true rfl⟩ hP hD hS hA (pm_nil _) (fun r110 u110 H locs hp110 hP hD hS => ?_)
                      have hP : va_P G.1 vwCl (mow G ad z fo sv d pa ke ik fa te (mesN (sf sv) (sg sv) (sc sv) (sv 6) (sv 1) (sv 0) (clo (sf sv) (sg sv) (sv 5) (sv 1) (sv 2)) aw)) H := wp_pm (pm_nil _).symm hP
                      have hD : va_D A (mow G ad z fo sv d pa ke ik fa te (mesN (sf sv) (sg sv) (sc sv) (sv 6) (sv 1) (sv 0) (clo (sf sv) (sg sv) (sv 5) (sv 1) (sv 2)) aw)) := wd_pm (pm_nil _).symm hD
                      subst hp110
                      refine lv_aload_n hx hb dX8_which_113 rfl (lv_at hl 0 rfl) ?_
                      refine va_get (D := G.1) (ci := 7) (v := .ref (ad 6)) (C := RX8) (T := TX8) (N := 17) hx hb hts inA8 hown hX.1 hP 0 rfl rfl 7 (by decide) (hts _ kw_687) (fun _ h9 => h9) rfl dX8_which_114 ?_
                      refine lv_iconst (v := (nI 2)) hx hb dX8_which_117 (by decide) ?_
                      refine lv_iload hx hb dX8_which_118 (lv_at hl 6 rfl) ?_
                      refine lv_imul hx hb dX8_which_120 (ti (y := (nI (2 * k))) (pk_mul _ _) ?_)
                      refine lv_iconst (v := (nI 1)) hx hb dX8_which_121 (by decide) ?_
                      refine lv_iadd hx hb dX8_which_122 (ti (y := (nI ((2 * k) + 1))) (nI_add _ _) ?_)
                      refine nv_aldI (f := fa) (k := (2 * k) + 1) hx hb hX hP 6 rfl (by omega) (by decide) dX8_which_123 ?_
                      refine lv_icmp_ne (x := (oN (mawI (mesN (sf sv) (sg sv) (sc sv) (sv 6) (sv 1) (sv 0) (clo (sf sv) (sg sv) (sv 5) (sv 1) (sv 2)) aw) v (fa (2 * k))))) (y := (fa ((2 * k) + 1))) (tgt := 131) hx hb dX8_which_124 (by decide) (fun c124 => ?_) (fun c124 => ?_)
                      · refine lv_iconst (v := (nI 0)) hx hb dX8_which_131 (by decide) ?_
                        refine lv_istore (lv' := [(5, .int (nI 0)), (0, .ref (ad 0)), (1, .int (nI 0)), (2, .int (nI ((mwS (mesN (sf sv) (sg sv) (sc sv) (sv 6) (sv 1) (sv 0) (clo (sf sv) (sg sv) (sv 5) (sv 1) (sv 2)) aw) fa (z 8) (sv 2) (sv 4) v).1))), (3, .int (oN ((mwS (mesN (sf sv) (sg sv) (sc sv) (sv 6) (sv 1) (sv 0) (clo (sf sv) (sg sv) (sv 5) (sv 1) (sv 2)) aw) fa (z 8) (sv 2) (sv 4) v).2))), (4, .int (nI v)), (6, .int (nI k))]) hx hb dX8_which_132 hl (by decide) rfl (fun ls hl => ?_)
                        refine lv_iinc (v := (nI (k + 1))) (lv' := [(6, .int (nI (k + 1))), (5, .int (nI 0)), (0, .ref (ad 0)), (1, .int (nI 0)), (2, .int (nI ((mwS (mesN (sf sv) (sg sv) (sc sv) (sv 6) (sv 1) (sv 0) (clo (sf sv) (sg sv) (sv 5) (sv 1) (sv 2)) aw) fa (z 8) (sv 2) (sv 4) v).1))), (3, .int (oN ((mwS (mesN (sf sv) (sg sv) (sc sv) (sv 6) (sv 1) (sv 0) (clo (sf sv) (sg sv) (sv 5) (sv 1) (sv 2)) aw) fa (z 8) (sv 2) (sv 4) v).2))), (4, .int (nI v))]) hx hb dX8_which_134 hl (k := 6) rfl (qn_inc _) (by decide) rfl (fun ls hl => ?_)
                        refine lv_goto (tgt := 84) hx hb dX8_which_137 (by decide) ?_
                        exact ih84 (k + 1) 0 (by omega) (by omega) (by omega) ⟨fun h => absurd h (by decide), fun h => by rw [fuB, decide_eq_false c124, Bool.and_false] at h; exact absurd h.2 (by decide)⟩ _ _ hP hD hS ls (lv_sub hl [2, 3, 4, 5, 6, 1, 0] rfl)
                      · refine lv_iconst (v := (nI 1)) hx hb dX8_which_127 (by decide) ?_
                        refine lv_goto (tgt := 132) hx hb dX8_which_128 (by decide) ?_
                        refine lv_istore (lv' := [(5, .int (nI 1)), (0, .ref (ad 0)), (1, .int (nI 0)), (2, .int (nI ((mwS (mesN (sf sv) (sg sv) (sc sv) (sv 6) (sv 1) (sv 0) (clo (sf sv) (sg sv) (sv 5) (sv 1) (sv 2)) aw) fa (z 8) (sv 2) (sv 4) v).1))), (3, .int (oN ((mwS (mesN (sf sv) (sg sv) (sc sv) (sv 6) (sv 1) (sv 0) (clo (sf sv) (sg sv) (sv 5) (sv 1) (sv 2)) aw) fa (z 8) (sv 2) (sv 4) v).2))), (4, .int (nI v)), (6, .int (nI k))]) hx hb dX8_which_132 hl (by decide) rfl (fun ls hl => ?_)
                        refine lv_iinc (v := (nI (k + 1))) (lv' := [(6, .int (nI (k + 1))), (5, .int (nI 1)), (0, .ref (ad 0)), (1, .int (nI 0)), (2, .int (nI ((mwS (mesN (sf sv) (sg sv) (sc sv) (sv 6) (sv 1) (sv 0) (clo (sf sv) (sg sv) (sv 5) (sv 1) (sv 2)) aw) fa (z 8) (sv 2) (sv 4) v).1))), (3, .int (oN ((mwS (mesN (sf sv) (sg sv) (sc sv) (sv 6) (sv 1) (sv 0) (clo (sf sv) (sg sv) (sv 5) (sv 1) (sv 2)) aw) fa (z 8) (sv 2) (sv 4) v).2))), (4, .int (nI v))]) hx hb dX8_which_134 hl (k := 6) rfl (qn_inc _) (by decide) rfl (fun ls hl => ?_)
                        refine lv_goto (tgt := 84) hx hb dX8_which_137 (by decide) ?_
                        exact ih84 (k + 1) 1 (by omega) (by omega) (by omega) ⟨fun _ => by rw [fuB, decide_eq_true c124, Bool.and_true]; exact hyy.mp (by omega), fun _ => rfl⟩ _ _ hP hD hS ls (lv_sub hl [2, 3, 4, 5, 6, 1, 0] rfl)
              exact lp84 _ 0 0 (Nat.lt_succ_self _) (Nat.zero_le _) (by omega) ⟨fun h => absurd h (by decide), fun h => absurd (c71.symm.trans h.1.2) (by decide)⟩ _ _ hP hD hS ls (lv_sub hl [2, 3, 4, 5, 6, 1, 0] rfl)
            · refine lv_iconst (v := (nI 1)) hx hb dX8_which_74 (by decide) ?_
              refine lv_goto (tgt := 79) hx hb dX8_which_75 (by decide) ?_
              refine lv_istore (lv' := [(5, .int (nI 1)), (0, .ref (ad 0)), (1, .int (nI 0)), (2, .int (nI ((mwS (mesN (sf sv) (sg sv) (sc sv) (sv 6) (sv 1) (sv 0) (clo (sf sv) (sg sv) (sv 5) (sv 1) (sv 2)) aw) fa (z 8) (sv 2) (sv 4) v).1))), (3, .int (oN ((mwS (mesN (sf sv) (sg sv) (sc sv) (sv 6) (sv 1) (sv 0) (clo (sf sv) (sg sv) (sv 5) (sv 1) (sv 2)) aw) fa (z 8) (sv 2) (sv 4) v).2))), (4, .int (nI v))]) hx hb dX8_which_79 hl (by decide) rfl (fun ls hl => ?_)
              refine lv_iconst (v := (nI 0)) hx hb dX8_which_81 (by decide) ?_
              refine lv_istore (lv' := [(6, .int (nI 0)), (5, .int (nI 1)), (0, .ref (ad 0)), (1, .int (nI 0)), (2, .int (nI ((mwS (mesN (sf sv) (sg sv) (sc sv) (sv 6) (sv 1) (sv 0) (clo (sf sv) (sg sv) (sv 5) (sv 1) (sv 2)) aw) fa (z 8) (sv 2) (sv 4) v).1))), (3, .int (oN ((mwS (mesN (sf sv) (sg sv) (sc sv) (sv 6) (sv 1) (sv 0) (clo (sf sv) (sg sv) (sv 5) (sv 1) (sv 2)) aw) fa (z 8) (sv 2) (sv 4) v).2))), (4, .int (nI v))]) hx hb dX8_which_82 hl (by decide) rfl (fun ls hl => ?_)
              have lp84 : ∀ (n84 : Nat) (k : Nat) (y : Nat), (z 8 - k) < n84 → (k ≤ z 8) → (y ≤ 1) → (y = 1 ↔ ((v ≠ sv 2 ∧ (sv 4).testBit v = false) ∧ fuB (mesN (sf sv) (sg sv) (sc sv) (sv 6) (sv 1) (sv 0) (clo (sf sv) (sg sv) (sv 5) (sv 1) (sv 2)) aw) fa v k = true)) → ∀ (H : Heap) (locs : List Loc), va_P G.1 vwCl (mow G ad z fo sv d pa ke ik fa te (mesN (sf sv) (sg sv) (sc sv) (sv 6) (sv 1) (sv 0) (clo (sf sv) (sg sv) (sv 5) (sv 1) (sv 2)) aw)) H → va_D A (mow G ad z fo sv d pa ke ik fa te (mesN (sf sv) (sg sv) (sc sv) (sv 6) (sv 1) (sv 0) (clo (sf sv) (sg sv) (sv 5) (sv 1) (sv 2)) aw)) → va_S A s.heap H locs → ∀ (ls : Array Slot), lv_has ls 7 [(0, .ref (ad 0)), (1, .int (nI 0)), (2, .int (nI ((mwS (mesN (sf sv) (sg sv) (sc sv) (sv 6) (sv 1) (sv 0) (clo (sf sv) (sg sv) (sv 5) (sv 1) (sv 2)) aw) fa (z 8) (sv 2) (sv 4) v).1))), (3, .int (oN ((mwS (mesN (sf sv) (sg sv) (sc sv) (sv 6) (sv 1) (sv 0) (clo (sf sv) (sg sv) (sv 5) (sv 1) (sv 2)) aw) fa (z 8) (sv 2) (sv 4) v).2))), (4, .int (nI v)), (5, .int (nI y)), (6, .int (nI k))] → WI p l e (rmN 2 47) s m [.ref (ad 0), .int (nI 0)] below meth c H locs G A (fun (r9 : Int32) (_ : Unit) => r9 = (nI ((mwS (mesN (sf sv) (sg sv) (sc sv) (sv 6) (sv 1) (sv 0) (clo (sf sv) (sg sv) (sv 5) (sv 1) (sv 2)) aw) fa (z 8) (sv 2) (sv 4) (sv 0)).1))) (fun (_ : Unit) => mow G ad z fo sv d pa ke ik fa te (mesN (sf sv) (sg sv) (sc sv) (sv 6) (sv 1) (sv 0) (clo (sf sv) (sg sv) (sv 5) (sv 1) (sv 2)) aw)) (F0 m 84 ls []) := by
                intro n84
                induction n84 with
                | zero => intro k y h9; exact absurd h9 (Nat.not_lt_zero _)
                | succ n84 ih84 =>
                  intro k y hm84  hk hy1 hyy H locs hP hD hS ls hl
                  refine lv_iload hx hb dX8_which_84 (lv_at hl 6 rfl) ?_
                  refine lv_aload_n hx hb dX8_which_86 rfl (lv_at hl 0 rfl) ?_
                  refine va_get (D := G.1) (ci := 7) (v := .int (nI (z 8))) (C := RX8) (T := TX8) (N := 17) hx hb hts inA8 hown hX.1 hP 0 rfl rfl 8 (by decide) (hts _ kw_688) (fun _ h9 => h9) rfl dX8_which_87 ?_
                  refine nv_ge (x := k) (y := z 8) (tgt := 140) hx hb dX8_which_90 (by decide) (by omega) (by omega) (fun c90 => ?_) (fun c90 => ?_)
                  · have hfi : y = 1 ↔ fiB (mesN (sf sv) (sg sv) (sc sv) (sv 6) (sv 1) (sv 0) (clo (sf sv) (sg sv) (sv 5) (sv 1) (sv 2)) aw) fa (z 8) (sv 2) (sv 4) v = true := by have ek : k = z 8 := (by omega); rw [ek] at hyy; unfold fiB; rw [hyy]; simp [and_assoc]
                    refine lv_iload hx hb dX8_which_140 (lv_at hl 5 rfl) ?_
                    refine nv_zeq (x := y) (tgt := 154) hx hb dX8_which_142 (by decide) (by omega) (fun c142 => ?_) (fun c142 => ?_)
                    · refine lv_iload_n hx hb dX8_which_154 rfl (lv_at hl 3 rfl) ?_
                      refine lv_istore_n (lv' := [(3, .int (oN ((mwS (mesN (sf sv) (sg sv) (sc sv) (sv 6) (sv 1) (sv 0) (clo (sf sv) (sg sv) (sv 5) (sv 1) (sv 2)) aw) fa (z 8) (sv 2) (sv 4) v).2))), (0, .ref (ad 0)), (1, .int (nI 0)), (2, .int (nI ((mwS (mesN (sf sv) (sg sv) (sc sv) (sv 6) (sv 1) (sv 0) (clo (sf sv) (sg sv) (sv 5) (sv 1) (sv 2)) aw) fa (z 8) (sv 2) (sv 4) v).1))), (4, .int (nI v)), (5, .int (nI y)), (6, .int (nI k))]) hx hb dX8_which_155 rfl hl (by decide) rfl (fun ls hl => ?_)
                      refine lv_iload_n hx hb dX8_which_156 rfl (lv_at hl 3 rfl) ?_
                      refine lv_iload hx hb dX8_which_157 (lv_at hl 5 rfl) ?_
                      refine nv_zeq (x := y) (tgt := 166) hx hb dX8_which_159 (by decide) (by omega) (fun c159 => ?_) (fun c159 => ?_)
                      · refine lv_iconst (v := (nI 0)) hx hb dX8_which_166 (by decide) ?_
                        refine lv_iadd hx hb dX8_which_167 (ti (y := (nI (((mwS (mesN (sf sv) (sg sv) (sc sv) (sv 6) (sv 1) (sv 0) (clo (sf sv) (sg sv) (sv 5) (sv 1) (sv 2)) aw) fa (z 8) (sv 2) (sv 4) v).1) + 0))) (nI_add _ _) ?_)
                        refine lv_istore_n (lv' := [(2, .int (nI (((mwS (mesN (sf sv) (sg sv) (sc sv) (sv 6) (sv 1) (sv 0) (clo (sf sv) (sg sv) (sv 5) (sv 1) (sv 2)) aw) fa (z 8) (sv 2) (sv 4) v).1) + 0))), (3, .int (oN ((mwS (mesN (sf sv) (sg sv) (sc sv) (sv 6) (sv 1) (sv 0) (clo (sf sv) (sg sv) (sv 5) (sv 1) (sv 2)) aw) fa (z 8) (sv 2) (sv 4) v).2))), (0, .ref (ad 0)), (1, .int (nI 0)), (4, .int (nI v)), (5, .int (nI y)), (6, .int (nI k))]) hx hb dX8_which_168 rfl hl (by decide) rfl (fun ls hl => ?_)
                        refine lv_iinc (v := (nI (v + 1))) (lv' := [(4, .int (nI (v + 1))), (2, .int (nI (((mwS (mesN (sf sv) (sg sv) (sc sv) (sv 6) (sv 1) (sv 0) (clo (sf sv) (sg sv) (sv 5) (sv 1) (sv 2)) aw) fa (z 8) (sv 2) (sv 4) v).1) + 0))), (3, .int (oN ((mwS (mesN (sf sv) (sg sv) (sc sv) (sv 6) (sv 1) (sv 0) (clo (sf sv) (sg sv) (sv 5) (sv 1) (sv 2)) aw) fa (z 8) (sv 2) (sv 4) v).2))), (0, .ref (ad 0)), (1, .int (nI 0)), (5, .int (nI y)), (6, .int (nI k))]) hx hb dX8_which_169 hl (k := 4) rfl (qn_inc _) (by decide) rfl (fun ls hl => ?_)
                        refine lv_goto (tgt := 38) hx hb dX8_which_172 (by decide) ?_
                        exact ih38 (v + 1) (((mwS (mesN (sf sv) (sg sv) (sc sv) (sv 6) (sv 1) (sv 0) (clo (sf sv) (sg sv) (sv 5) (sv 1) (sv 2)) aw) fa (z 8) (sv 2) (sv 4) v).1) + 0) ((mwS (mesN (sf sv) (sg sv) (sc sv) (sv 6) (sv 1) (sv 0) (clo (sf sv) (sg sv) (sv 5) (sv 1) (sv 2)) aw) fa (z 8) (sv 2) (sv 4) v).2) (by omega) (by have e8 : ¬ fiB (mesN (sf sv) (sg sv) (sc sv) (sv 6) (sv 1) (sv 0) (clo (sf sv) (sg sv) (sv 5) (sv 1) (sv 2)) aw) fa (z 8) (sv 2) (sv 4) v = true := fun h => absurd (hfi.mpr h) (by omega); rw [mwS, if_neg e8] <;> rfl) (by have e8 : ¬ fiB (mesN (sf sv) (sg sv) (sc sv) (sv 6) (sv 1) (sv 0) (clo (sf sv) (sg sv) (sv 5) (sv 1) (sv 2)) aw) fa (z 8) (sv 2) (sv 4) v = true := fun h => absurd (hfi.mpr h) (by omega); rw [mwS, if_neg e8] <;> rfl) (by omega) _ _ hP hD hS ls (lv_sub hl [3, 4, 1, 2, 0] rfl)
                      · exact absurd c142 c159
                    · refine lv_iload_n hx hb dX8_which_145 rfl (lv_at hl 2 rfl) ?_
                      refine nv_zne (x := (mwS (mesN (sf sv) (sg sv) (sc sv) (sv 6) (sv 1) (sv 0) (clo (sf sv) (sg sv) (sv 5) (sv 1) (sv 2)) aw) fa (z 8) (sv 2) (sv 4) v).1) (tgt := 154) hx hb dX8_which_146 (by decide) (by have := mwS_le (mesN (sf sv) (sg sv) (sc sv) (sv 6) (sv 1) (sv 0) (clo (sf sv) (sg sv) (sv 5) (sv 1) (sv 2)) aw) fa (z 8) (sv 2) (sv 4) v; omega) (fun c146 => ?_) (fun c146 => ?_)
                      · refine lv_iload_n hx hb dX8_which_154 rfl (lv_at hl 3 rfl) ?_
                        refine lv_istore_n (lv' := [(3, .int (oN ((mwS (mesN (sf sv) (sg sv) (sc sv) (sv 6) (sv 1) (sv 0) (clo (sf sv) (sg sv) (sv 5) (sv 1) (sv 2)) aw) fa (z 8) (sv 2) (sv 4) v).2))), (0, .ref (ad 0)), (1, .int (nI 0)), (2, .int (nI ((mwS (mesN (sf sv) (sg sv) (sc sv) (sv 6) (sv 1) (sv 0) (clo (sf sv) (sg sv) (sv 5) (sv 1) (sv 2)) aw) fa (z 8) (sv 2) (sv 4) v).1))), (4, .int (nI v)), (5, .int (nI y)), (6, .int (nI k))]) hx hb dX8_which_155 rfl hl (by decide) rfl (fun ls hl => ?_)
                        refine lv_iload_n hx hb dX8_which_156 rfl (lv_at hl 3 rfl) ?_
                        refine lv_iload hx hb dX8_which_157 (lv_at hl 5 rfl) ?_
                        refine nv_zeq (x := y) (tgt := 166) hx hb dX8_which_159 (by decide) (by omega) (fun c159 => ?_) (fun c159 => ?_)
                        · exact absurd c159 c142
                        · refine lv_iconst (v := (nI 1)) hx hb dX8_which_162 (by decide) ?_
                          refine lv_goto (tgt := 167) hx hb dX8_which_163 (by decide) ?_
                          refine lv_iadd hx hb dX8_which_167 (ti (y := (nI (((mwS (mesN (sf sv) (sg sv) (sc sv) (sv 6) (sv 1) (sv 0) (clo (sf sv) (sg sv) (sv 5) (sv 1) (sv 2)) aw) fa (z 8) (sv 2) (sv 4) v).1) + 1))) (nI_add _ _) ?_)
                          refine lv_istore_n (lv' := [(2, .int (nI (((mwS (mesN (sf sv) (sg sv) (sc sv) (sv 6) (sv 1) (sv 0) (clo (sf sv) (sg sv) (sv 5) (sv 1) (sv 2)) aw) fa (z 8) (sv 2) (sv 4) v).1) + 1))), (3, .int (oN ((mwS (mesN (sf sv) (sg sv) (sc sv) (sv 6) (sv 1) (sv 0) (clo (sf sv) (sg sv) (sv 5) (sv 1) (sv 2)) aw) fa (z 8) (sv 2) (sv 4) v).2))), (0, .ref (ad 0)), (1, .int (nI 0)), (4, .int (nI v)), (5, .int (nI y)), (6, .int (nI k))]) hx hb dX8_which_168 rfl hl (by decide) rfl (fun ls hl => ?_)
                          refine lv_iinc (v := (nI (v + 1))) (lv' := [(4, .int (nI (v + 1))), (2, .int (nI (((mwS (mesN (sf sv) (sg sv) (sc sv) (sv 6) (sv 1) (sv 0) (clo (sf sv) (sg sv) (sv 5) (sv 1) (sv 2)) aw) fa (z 8) (sv 2) (sv 4) v).1) + 1))), (3, .int (oN ((mwS (mesN (sf sv) (sg sv) (sc sv) (sv 6) (sv 1) (sv 0) (clo (sf sv) (sg sv) (sv 5) (sv 1) (sv 2)) aw) fa (z 8) (sv 2) (sv 4) v).2))), (0, .ref (ad 0)), (1, .int (nI 0)), (5, .int (nI y)), (6, .int (nI k))]) hx hb dX8_which_169 hl (k := 4) rfl (qn_inc _) (by decide) rfl (fun ls hl => ?_)
                          refine lv_goto (tgt := 38) hx hb dX8_which_172 (by decide) ?_
                          exact ih38 (v + 1) (((mwS (mesN (sf sv) (sg sv) (sc sv) (sv 6) (sv 1) (sv 0) (clo (sf sv) (sg sv) (sv 5) (sv 1) (sv 2)) aw) fa (z 8) (sv 2) (sv 4) v).1) + 1) ((mwS (mesN (sf sv) (sg sv) (sc sv) (sv 6) (sv 1) (sv 0) (clo (sf sv) (sg sv) (sv 5) (sv 1) (sv 2)) aw) fa (z 8) (sv 2) (sv 4) v).2) (by omega) (by have e8 : fiB (mesN (sf sv) (sg sv) (sc sv) (sv 6) (sv 1) (sv 0) (clo (sf sv) (sg sv) (sv 5) (sv 1) (sv 2)) aw) fa (z 8) (sv 2) (sv 4) v = true := hfi.mp (by omega); rw [mwS, if_pos e8] <;> rfl) (by have e8 : fiB (mesN (sf sv) (sg sv) (sc sv) (sv 6) (sv 1) (sv 0) (clo (sf sv) (sg sv) (sv 5) (sv 1) (sv 2)) aw) fa (z 8) (sv 2) (sv 4) v = true := hfi.mp (by omega); rw [mwS, if_pos e8, if_neg c146] <;> rfl) (by omega) _ _ hP hD hS ls (lv_sub hl [3, 4, 1, 2, 0] rfl)
                      · refine lv_iload hx hb dX8_which_149 (lv_at hl 4 rfl) ?_
                        refine lv_goto (tgt := 155) hx hb dX8_which_151 (by decide) ?_
                        refine lv_istore_n (lv' := [(3, .int (nI v)), (0, .ref (ad 0)), (1, .int (nI 0)), (2, .int (nI ((mwS (mesN (sf sv) (sg sv) (sc sv) (sv 6) (sv 1) (sv 0) (clo (sf sv) (sg sv) (sv 5) (sv 1) (sv 2)) aw) fa (z 8) (sv 2) (sv 4) v).1))), (4, .int (nI v)), (5, .int (nI y)), (6, .int (nI k))]) hx hb dX8_which_155 rfl hl (by decide) rfl (fun ls hl => ?_)
                        refine lv_iload_n hx hb dX8_which_156 rfl (lv_at hl 3 rfl) ?_
                        refine lv_iload hx hb dX8_which_157 (lv_at hl 5 rfl) ?_
                        refine nv_zeq (x := y) (tgt := 166) hx hb dX8_which_159 (by decide) (by omega) (fun c159 => ?_) (fun c159 => ?_)
                        · exact absurd c159 c142
                        · refine lv_iconst (v := (nI 1)) hx hb dX8_which_162 (by decide) ?_
                          refine lv_goto (tgt := 167) hx hb dX8_which_163 (by decide) ?_
                          refine lv_iadd hx hb dX8_which_167 (ti (y := (nI (((mwS (mesN (sf sv) (sg sv) (sc sv) (sv 6) (sv 1) (sv 0) (clo (sf sv) (sg sv) (sv 5) (sv 1) (sv 2)) aw) fa (z 8) (sv 2) (sv 4) v).1) + 1))) (nI_add _ _) ?_)
                          refine lv_istore_n (lv' := [(2, .int (nI (((mwS (mesN (sf sv) (sg sv) (sc sv) (sv 6) (sv 1) (sv 0) (clo (sf sv) (sg sv) (sv 5) (sv 1) (sv 2)) aw) fa (z 8) (sv 2) (sv 4) v).1) + 1))), (3, .int (nI v)), (0, .ref (ad 0)), (1, .int (nI 0)), (4, .int (nI v)), (5, .int (nI y)), (6, .int (nI k))]) hx hb dX8_which_168 rfl hl (by decide) rfl (fun ls hl => ?_)
                          refine lv_iinc (v := (nI (v + 1))) (lv' := [(4, .int (nI (v + 1))), (2, .int (nI (((mwS (mesN (sf sv) (sg sv) (sc sv) (sv 6) (sv 1) (sv 0) (clo (sf sv) (sg sv) (sv 5) (sv 1) (sv 2)) aw) fa (z 8) (sv 2) (sv 4) v).1) + 1))), (3, .int (nI v)), (0, .ref (ad 0)), (1, .int (nI 0)), (5, .int (nI y)), (6, .int (nI k))]) hx hb dX8_which_169 hl (k := 4) rfl (qn_inc _) (by decide) rfl (fun ls hl => ?_)
                          refine lv_goto (tgt := 38) hx hb dX8_which_172 (by decide) ?_
                          exact ih38 (v + 1) (((mwS (mesN (sf sv) (sg sv) (sc sv) (sv 6) (sv 1) (sv 0) (clo (sf sv) (sg sv) (sv 5) (sv 1) (sv 2)) aw) fa (z 8) (sv 2) (sv 4) v).1) + 1) (some v) (by omega) (by have e8 : fiB (mesN (sf sv) (sg sv) (sc sv) (sv 6) (sv 1) (sv 0) (clo (sf sv) (sg sv) (sv 5) (sv 1) (sv 2)) aw) fa (z 8) (sv 2) (sv 4) v = true := hfi.mp (by omega); rw [mwS, if_pos e8] <;> rfl) (by have e8 : fiB (mesN (sf sv) (sg sv) (sc sv) (sv 6) (sv 1) (sv 0) (clo (sf sv) (sg sv) (sv 5) (sv 1) (sv 2)) aw) fa (z 8) (sv 2) (sv 4) v = true := hfi.mp (by omega); rw [mwS, if_pos e8, if_pos c146] <;> rfl) (by omega) _ _ hP hD hS ls (lv_sub hl [3, 4, 1, 2, 0] rfl)
                  · refine lv_iload hx hb dX8_which_93 (lv_at hl 5 rfl) ?_
                    refine nv_zeq (x := y) (tgt := 140) hx hb dX8_which_95 (by decide) (by omega) (fun c95 => ?_) (fun c95 => ?_)
                    · have hfi : y = 1 ↔ fiB (mesN (sf sv) (sg sv) (sc sv) (sv 6) (sv 1) (sv 0) (clo (sf sv) (sg sv) (sv 5) (sv 1) (sv 2)) aw) fa (z 8) (sv 2) (sv 4) v = true := by have hn : ¬ ((v ≠ sv 2 ∧ (sv 4).testBit v = false) ∧ fuB (mesN (sf sv) (sg sv) (sc sv) (sv 6) (sv 1) (sv 0) (clo (sf sv) (sg sv) (sv 5) (sv 1) (sv 2)) aw) fa v k = true) := fun h => absurd (hyy.mpr h) (by omega); refine ⟨fun h => absurd h (by omega), fun h => ?_⟩; unfold fiB at h; simp only [Bool.and_eq_true, decide_eq_true_eq, Bool.not_eq_true'] at h; exfalso; cases hf : fuB (mesN (sf sv) (sg sv) (sc sv) (sv 6) (sv 1) (sv 0) (clo (sf sv) (sg sv) (sv 5) (sv 1) (sv 2)) aw) fa v k with | false => exact absurd (fuB_no hf (z 8) (by omega)) (by rw [h.2]; decide) | true => exact hn ⟨h.1, hf⟩
                      refine lv_iload hx hb dX8_which_140 (lv_at hl 5 rfl) ?_
                      refine nv_zeq (x := y) (tgt := 154) hx hb dX8_which_142 (by decide) (by omega) (fun c142 => ?_) (fun c142 => ?_)
                      · refine lv_iload_n hx hb dX8_which_154 rfl (lv_at hl 3 rfl) ?_
                        refine lv_istore_n (lv' := [(3, .int (oN ((mwS (mesN (sf sv) (sg sv) (sc sv) (sv 6) (sv 1) (sv 0) (clo (sf sv) (sg sv) (sv 5) (sv 1) (sv 2)) aw) fa (z 8) (sv 2) (sv 4) v).2))), (0, .ref (ad 0)), (1, .int (nI 0)), (2, .int (nI ((mwS (mesN (sf sv) (sg sv) (sc sv) (sv 6) (sv 1) (sv 0) (clo (sf sv) (sg sv) (sv 5) (sv 1) (sv 2)) aw) fa (z 8) (sv 2) (sv 4) v).1))), (4, .int (nI v)), (5, .int (nI y)), (6, .int (nI k))]) hx hb dX8_which_155 rfl hl (by decide) rfl (fun ls hl => ?_)
                        refine lv_iload_n hx hb dX8_which_156 rfl (lv_at hl 3 rfl) ?_
                        refine lv_iload hx hb dX8_which_157 (lv_at hl 5 rfl) ?_
                        refine nv_zeq (x := y) (tgt := 166) hx hb dX8_which_159 (by decide) (by omega) (fun c159 => ?_) (fun c159 => ?_)
                        · refine lv_iconst (v := (nI 0)) hx hb dX8_which_166 (by decide) ?_
                          refine lv_iadd hx hb dX8_which_167 (ti (y := (nI (((mwS (mesN (sf sv) (sg sv) (sc sv) (sv 6) (sv 1) (sv 0) (clo (sf sv) (sg sv) (sv 5) (sv 1) (sv 2)) aw) fa (z 8) (sv 2) (sv 4) v).1) + 0))) (nI_add _ _) ?_)
                          refine lv_istore_n (lv' := [(2, .int (nI (((mwS (mesN (sf sv) (sg sv) (sc sv) (sv 6) (sv 1) (sv 0) (clo (sf sv) (sg sv) (sv 5) (sv 1) (sv 2)) aw) fa (z 8) (sv 2) (sv 4) v).1) + 0))), (3, .int (oN ((mwS (mesN (sf sv) (sg sv) (sc sv) (sv 6) (sv 1) (sv 0) (clo (sf sv) (sg sv) (sv 5) (sv 1) (sv 2)) aw) fa (z 8) (sv 2) (sv 4) v).2))), (0, .ref (ad 0)), (1, .int (nI 0)), (4, .int (nI v)), (5, .int (nI y)), (6, .int (nI k))]) hx hb dX8_which_168 rfl hl (by decide) rfl (fun ls hl => ?_)
                          refine lv_iinc (v := (nI (v + 1))) (lv' := [(4, .int (nI (v + 1))), (2, .int (nI (((mwS (mesN (sf sv) (sg sv) (sc sv) (sv 6) (sv 1) (sv 0) (clo (sf sv) (sg sv) (sv 5) (sv 1) (sv 2)) aw) fa (z 8) (sv 2) (sv 4) v).1) + 0))), (3, .int (oN ((mwS (mesN (sf sv) (sg sv) (sc sv) (sv 6) (sv 1) (sv 0) (clo (sf sv) (sg sv) (sv 5) (sv 1) (sv 2)) aw) fa (z 8) (sv 2) (sv 4) v).2))), (0, .ref (ad 0)), (1, .int (nI 0)), (5, .int (nI y)), (6, .int (nI k))]) hx hb dX8_which_169 hl (k := 4) rfl (qn_inc _) (by decide) rfl (fun ls hl => ?_)
                          refine lv_goto (tgt := 38) hx hb dX8_which_172 (by decide) ?_
                          exact ih38 (v + 1) (((mwS (mesN (sf sv) (sg sv) (sc sv) (sv 6) (sv 1) (sv 0) (clo (sf sv) (sg sv) (sv 5) (sv 1) (sv 2)) aw) fa (z 8) (sv 2) (sv 4) v).1) + 0) ((mwS (mesN (sf sv) (sg sv) (sc sv) (sv 6) (sv 1) (sv 0) (clo (sf sv) (sg sv) (sv 5) (sv 1) (sv 2)) aw) fa (z 8) (sv 2) (sv 4) v).2) (by omega) (by have e8 : ¬ fiB (mesN (sf sv) (sg sv) (sc sv) (sv 6) (sv 1) (sv 0) (clo (sf sv) (sg sv) (sv 5) (sv 1) (sv 2)) aw) fa (z 8) (sv 2) (sv 4) v = true := fun h => absurd (hfi.mpr h) (by omega); rw [mwS, if_neg e8] <;> rfl) (by have e8 : ¬ fiB (mesN (sf sv) (sg sv) (sc sv) (sv 6) (sv 1) (sv 0) (clo (sf sv) (sg sv) (sv 5) (sv 1) (sv 2)) aw) fa (z 8) (sv 2) (sv 4) v = true := fun h => absurd (hfi.mpr h) (by omega); rw [mwS, if_neg e8] <;> rfl) (by omega) _ _ hP hD hS ls (lv_sub hl [3, 4, 1, 2, 0] rfl)
                        · exact absurd c142 c159
                      · refine lv_iload_n hx hb dX8_which_145 rfl (lv_at hl 2 rfl) ?_
                        refine nv_zne (x := (mwS (mesN (sf sv) (sg sv) (sc sv) (sv 6) (sv 1) (sv 0) (clo (sf sv) (sg sv) (sv 5) (sv 1) (sv 2)) aw) fa (z 8) (sv 2) (sv 4) v).1) (tgt := 154) hx hb dX8_which_146 (by decide) (by have := mwS_le (mesN (sf sv) (sg sv) (sc sv) (sv 6) (sv 1) (sv 0) (clo (sf sv) (sg sv) (sv 5) (sv 1) (sv 2)) aw) fa (z 8) (sv 2) (sv 4) v; omega) (fun c146 => ?_) (fun c146 => ?_)
                        · refine lv_iload_n hx hb dX8_which_154 rfl (lv_at hl 3 rfl) ?_
                          refine lv_istore_n (lv' := [(3, .int (oN ((mwS (mesN (sf sv) (sg sv) (sc sv) (sv 6) (sv 1) (sv 0) (clo (sf sv) (sg sv) (sv 5) (sv 1) (sv 2)) aw) fa (z 8) (sv 2) (sv 4) v).2))), (0, .ref (ad 0)), (1, .int (nI 0)), (2, .int (nI ((mwS (mesN (sf sv) (sg sv) (sc sv) (sv 6) (sv 1) (sv 0) (clo (sf sv) (sg sv) (sv 5) (sv 1) (sv 2)) aw) fa (z 8) (sv 2) (sv 4) v).1))), (4, .int (nI v)), (5, .int (nI y)), (6, .int (nI k))]) hx hb dX8_which_155 rfl hl (by decide) rfl (fun ls hl => ?_)
                          refine lv_iload_n hx hb dX8_which_156 rfl (lv_at hl 3 rfl) ?_
                          refine lv_iload hx hb dX8_which_157 (lv_at hl 5 rfl) ?_
                          refine nv_zeq (x := y) (tgt := 166) hx hb dX8_which_159 (by decide) (by omega) (fun c159 => ?_) (fun c159 => ?_)
                          · exact absurd c159 c142
                          · refine lv_iconst (v := (nI 1)) hx hb dX8_which_162 (by decide) ?_
                            refine lv_goto (tgt := 167) hx hb dX8_which_163 (by decide) ?_
                            refine lv_iadd hx hb dX8_which_167 (ti (y := (nI (((mwS (mesN (sf sv) (sg sv) (sc sv) (sv 6) (sv 1) (sv 0) (clo (sf sv) (sg sv) (sv 5) (sv 1) (sv 2)) aw) fa (z 8) (sv 2) (sv 4) v).1) + 1))) (nI_add _ _) ?_)
                            refine lv_istore_n (lv' := [(2, .int (nI (((mwS (mesN (sf sv) (sg sv) (sc sv) (sv 6) (sv 1) (sv 0) (clo (sf sv) (sg sv) (sv 5) (sv 1) (sv 2)) aw) fa (z 8) (sv 2) (sv 4) v).1) + 1))), (3, .int (oN ((mwS (mesN (sf sv) (sg sv) (sc sv) (sv 6) (sv 1) (sv 0) (clo (sf sv) (sg sv) (sv 5) (sv 1) (sv 2)) aw) fa (z 8) (sv 2) (sv 4) v).2))), (0, .ref (ad 0)), (1, .int (nI 0)), (4, .int (nI v)), (5, .int (nI y)), (6, .int (nI k))]) hx hb dX8_which_168 rfl hl (by decide) rfl (fun ls hl => ?_)
                            refine lv_iinc (v := (nI (v + 1))) (lv' := [(4, .int (nI (v + 1))), (2, .int (nI (((mwS (mesN (sf sv) (sg sv) (sc sv) (sv 6) (sv 1) (sv 0) (clo (sf sv) (sg sv) (sv 5) (sv 1) (sv 2)) aw) fa (z 8) (sv 2) (sv 4) v).1) + 1))), (3, .int (oN ((mwS (mesN (sf sv) (sg sv) (sc sv) (sv 6) (sv 1) (sv 0) (clo (sf sv) (sg sv) (sv 5) (sv 1) (sv 2)) aw) fa (z 8) (sv 2) (sv 4) v).2))), (0, .ref (ad 0)), (1, .int (nI 0)), (5, .int (nI y)), (6, .int (nI k))]) hx hb dX8_which_169 hl (k := 4) rfl (qn_inc _) (by decide) rfl (fun ls hl => ?_)
                            refine lv_goto (tgt := 38) hx hb dX8_which_172 (by decide) ?_
                            exact ih38 (v + 1) (((mwS (mesN (sf sv) (sg sv) (sc sv) (sv 6) (sv 1) (sv 0) (clo (sf sv) (sg sv) (sv 5) (sv 1) (sv 2)) aw) fa (z 8) (sv 2) (sv 4) v).1) + 1) ((mwS (mesN (sf sv) (sg sv) (sc sv) (sv 6) (sv 1) (sv 0) (clo (sf sv) (sg sv) (sv 5) (sv 1) (sv 2)) aw) fa (z 8) (sv 2) (sv 4) v).2) (by omega) (by have e8 : fiB (mesN (sf sv) (sg sv) (sc sv) (sv 6) (sv 1) (sv 0) (clo (sf sv) (sg sv) (sv 5) (sv 1) (sv 2)) aw) fa (z 8) (sv 2) (sv 4) v = true := hfi.mp (by omega); rw [mwS, if_pos e8] <;> rfl) (by have e8 : fiB (mesN (sf sv) (sg sv) (sc sv) (sv 6) (sv 1) (sv 0) (clo (sf sv) (sg sv) (sv 5) (sv 1) (sv 2)) aw) fa (z 8) (sv 2) (sv 4) v = true := hfi.mp (by omega); rw [mwS, if_pos e8, if_neg c146] <;> rfl) (by omega) _ _ hP hD hS ls (lv_sub hl [3, 4, 1, 2, 0] rfl)
                        · refine lv_iload hx hb dX8_which_149 (lv_at hl 4 rfl) ?_
                          refine lv_goto (tgt := 155) hx hb dX8_which_151 (by decide) ?_
                          refine lv_istore_n (lv' := [(3, .int (nI v)), (0, .ref (ad 0)), (1, .int (nI 0)), (2, .int (nI ((mwS (mesN (sf sv) (sg sv) (sc sv) (sv 6) (sv 1) (sv 0) (clo (sf sv) (sg sv) (sv 5) (sv 1) (sv 2)) aw) fa (z 8) (sv 2) (sv 4) v).1))), (4, .int (nI v)), (5, .int (nI y)), (6, .int (nI k))]) hx hb dX8_which_155 rfl hl (by decide) rfl (fun ls hl => ?_)
                          refine lv_iload_n hx hb dX8_which_156 rfl (lv_at hl 3 rfl) ?_
                          refine lv_iload hx hb dX8_which_157 (lv_at hl 5 rfl) ?_
                          refine nv_zeq (x := y) (tgt := 166) hx hb dX8_which_159 (by decide) (by omega) (fun c159 => ?_) (fun c159 => ?_)
                          · exact absurd c159 c142
                          · refine lv_iconst (v := (nI 1)) hx hb dX8_which_162 (by decide) ?_
                            refine lv_goto (tgt := 167) hx hb dX8_which_163 (by decide) ?_
                            refine lv_iadd hx hb dX8_which_167 (ti (y := (nI (((mwS (mesN (sf sv) (sg sv) (sc sv) (sv 6) (sv 1) (sv 0) (clo (sf sv) (sg sv) (sv 5) (sv 1) (sv 2)) aw) fa (z 8) (sv 2) (sv 4) v).1) + 1))) (nI_add _ _) ?_)
                            refine lv_istore_n (lv' := [(2, .int (nI (((mwS (mesN (sf sv) (sg sv) (sc sv) (sv 6) (sv 1) (sv 0) (clo (sf sv) (sg sv) (sv 5) (sv 1) (sv 2)) aw) fa (z 8) (sv 2) (sv 4) v).1) + 1))), (3, .int (nI v)), (0, .ref (ad 0)), (1, .int (nI 0)), (4, .int (nI v)), (5, .int (nI y)), (6, .int (nI k))]) hx hb dX8_which_168 rfl hl (by decide) rfl (fun ls hl => ?_)
                            refine lv_iinc (v := (nI (v + 1))) (lv' := [(4, .int (nI (v + 1))), (2, .int (nI (((mwS (mesN (sf sv) (sg sv) (sc sv) (sv 6) (sv 1) (sv 0) (clo (sf sv) (sg sv) (sv 5) (sv 1) (sv 2)) aw) fa (z 8) (sv 2) (sv 4) v).1) + 1))), (3, .int (nI v)), (0, .ref (ad 0)), (1, .int (nI 0)), (5, .int (nI y)), (6, .int (nI k))]) hx hb dX8_which_169 hl (k := 4) rfl (qn_inc _) (by decide) rfl (fun ls hl => ?_)
                            refine lv_goto (tgt := 38) hx hb dX8_which_172 (by decide) ?_
                            exact ih38 (v + 1) (((mwS (mesN (sf sv) (sg sv) (sc sv) (sv 6) (sv 1) (sv 0) (clo (sf sv) (sg sv) (sv 5) (sv 1) (sv 2)) aw) fa (z 8) (sv 2) (sv 4) v).1) + 1) (some v) (by omega) (by have e8 : fiB (mesN (sf sv) (sg sv) (sc sv) (sv 6) (sv 1) (sv 0) (clo (sf sv) (sg sv) (sv 5) (sv 1) (sv 2)) aw) fa (z 8) (sv 2) (sv 4) v = true := hfi.mp (by omega); rw [mwS, if_pos e8] <;> rfl) (by have e8 : fiB (mesN (sf sv) (sg sv) (sc sv) (sv 6) (sv 1) (sv 0) (clo (sf sv) (sg sv) (sv 5) (sv 1) (sv 2)) aw) fa (z 8) (sv 2) (sv 4) v = true := hfi.mp (by omega); rw [mwS, if_pos e8, if_pos c146] <;> rfl) (by omega) _ _ hP hD hS ls (lv_sub hl [3, 4, 1, 2, 0] rfl)
                    · refine lv_aload_n hx hb dX8_which_98 rfl (lv_at hl 0 rfl) ?_
                      refine lv_iload hx hb dX8_which_99 (lv_at hl 4 rfl) ?_
                      refine lv_aload_n hx hb dX8_which_101 rfl (lv_at hl 0 rfl) ?_
                      refine va_get (D := G.1) (ci := 7) (v := .ref (ad 6)) (C := RX8) (T := TX8) (N := 17) hx hb hts inA8 hown hX.1 hP 0 rfl rfl 7 (by decide) (hts _ kw_687) (fun _ h9 => h9) rfl dX8_which_102 ?_
                      refine lv_iconst (v := (nI 2)) hx hb dX8_which_105 (by decide) ?_
                      refine lv_iload hx hb dX8_which_106 (lv_at hl 6 rfl) ?_
                      refine lv_imul hx hb dX8_which_108 (ti (y := (nI (2 * k))) (pk_mul _ _) ?_)
                      refine nv_aldI (f := fa) (k := 2 * k) hx hb hX hP 6 rfl (by omega) (by decide) dX8_which_109 ?_
                      refine ca_Vi (ci := 7) (q := (RX8, TX8, 17)) (rest := []) (wr := ([] : va_W)) F hX (mX8_away l G ad z fo sv d pa ke ik fa te (mesN (sf sv) (sg sv) (sc sv) (sv 6) (sv 1) (sv 0) (clo (sf sv) (sg sv) (sv 5) (sv 1) (sv 2)) aw) v (fa (2 * k)) hml9 (by omega)) (cA_V hts kw_901 kw_8 kw_898 kw_900 kp_46 hdX8_away ⟨Nat.le_of_ble_eq_true rfl, Nat.le_of_ble_eq_true rfl⟩) rfl rfl rfl hl.1 rfl (Nat.le_of_ble_eq_true rfl) dX8_which_110 ⟨Nat.le_of_ble_eq_true rfl, Nat.le_of_ble_eq_true rfl⟩ hP hD hS hA (pm_nil _) (fun r110 u110 H locs hp110 hP hD hS => ?_)
                      have hP : va_P G.1 vwCl (mow G ad z fo sv d pa ke ik fa te (mesN (sf sv) (sg sv) (sc sv) (sv 6) (sv 1) (sv 0) (clo (sf sv) (sg sv) (sv 5) (sv 1) (sv 2)) aw)) H := wp_pm (pm_nil _).symm hP
                      have hD : va_D A (mow G ad z fo sv d pa ke ik fa te (mesN (sf sv) (sg sv) (sc sv) (sv 6) (sv 1) (sv 0) (clo (sf sv) (sg sv) (sv 5) (sv 1) (sv 2)) aw)) := wd_pm (pm_nil _).symm hD
                      subst hp110
                      refine lv_aload_n hx hb dX8_which_113 rfl (lv_at hl 0 rfl) ?_
                      refine va_get (D := G.1) (ci := 7) (v := .ref (ad 6)) (C := RX8) (T := TX8) (N := 17) hx hb hts inA8 hown hX.1 hP 0 rfl rfl 7 (by decide) (hts _ kw_687) (fun _ h9 => h9) rfl dX8_which_114 ?_
                      refine lv_iconst (v := (nI 2)) hx hb dX8_which_117 (by decide) ?_
                      refine lv_iload hx hb dX8_which_118 (lv_at hl 6 rfl) ?_
                      refine lv_imul hx hb dX8_which_120 (ti (y := (nI (2 * k))) (pk_mul _ _) ?_)
                      refine lv_iconst (v := (nI 1)) hx hb dX8_which_121 (by decide) ?_
                      refine lv_iadd hx hb dX8_which_122 (ti (y := (nI ((2 * k) + 1))) (nI_add _ _) ?_)
                      refine nv_aldI (f := fa) (k := (2 * k) + 1) hx hb hX hP 6 rfl (by omega) (by decide) dX8_which_123 ?_
                      refine lv_icmp_ne (x := (oN (mawI (mesN (sf sv) (sg sv) (sc sv) (sv 6) (sv 1) (sv 0) (clo (sf sv) (sg sv) (sv 5) (sv 1) (sv 2)) aw) v (fa (2 * k))))) (y := (fa ((2 * k) + 1))) (tgt := 131) hx hb dX8_which_124 (by decide) (fun c124 => ?_) (fun c124 => ?_)
                      · refine lv_iconst (v := (nI 0)) hx hb dX8_which_131 (by decide) ?_
                        refine lv_istore (lv' := [(5, .int (nI 0)), (0, .ref (ad 0)), (1, .int (nI 0)), (2, .int (nI ((mwS (mesN (sf sv) (sg sv) (sc sv) (sv 6) (sv 1) (sv 0) (clo (sf sv) (sg sv) (sv 5) (sv 1) (sv 2)) aw) fa (z 8) (sv 2) (sv 4) v).1))), (3, .int (oN ((mwS (mesN (sf sv) (sg sv) (sc sv) (sv 6) (sv 1) (sv 0) (clo (sf sv) (sg sv) (sv 5) (sv 1) (sv 2)) aw) fa (z 8) (sv 2) (sv 4) v).2))), (4, .int (nI v)), (6, .int (nI k))]) hx hb dX8_which_132 hl (by decide) rfl (fun ls hl => ?_)
                        refine lv_iinc (v := (nI (k + 1))) (lv' := [(6, .int (nI (k + 1))), (5, .int (nI 0)), (0, .ref (ad 0)), (1, .int (nI 0)), (2, .int (nI ((mwS (mesN (sf sv) (sg sv) (sc sv) (sv 6) (sv 1) (sv 0) (clo (sf sv) (sg sv) (sv 5) (sv 1) (sv 2)) aw) fa (z 8) (sv 2) (sv 4) v).1))), (3, .int (oN ((mwS (mesN (sf sv) (sg sv) (sc sv) (sv 6) (sv 1) (sv 0) (clo (sf sv) (sg sv) (sv 5) (sv 1) (sv 2)) aw) fa (z 8) (sv 2) (sv 4) v).2))), (4, .int (nI v))]) hx hb dX8_which_134 hl (k := 6) rfl (qn_inc _) (by decide) rfl (fun ls hl => ?_)
                        refine lv_goto (tgt := 84) hx hb dX8_which_137 (by decide) ?_
                        exact ih84 (k + 1) 0 (by omega) (by omega) (by omega) ⟨fun h => absurd h (by decide), fun h => by rw [fuB, decide_eq_false c124, Bool.and_false] at h; exact absurd h.2 (by decide)⟩ _ _ hP hD hS ls (lv_sub hl [2, 3, 4, 5, 6, 1, 0] rfl)
                      · refine lv_iconst (v := (nI 1)) hx hb dX8_which_127 (by decide) ?_
                        refine lv_goto (tgt := 132) hx hb dX8_which_128 (by decide) ?_
                        refine lv_istore (lv' := [(5, .int (nI 1)), (0, .ref (ad 0)), (1, .int (nI 0)), (2, .int (nI ((mwS (mesN (sf sv) (sg sv) (sc sv) (sv 6) (sv 1) (sv 0) (clo (sf sv) (sg sv) (sv 5) (sv 1) (sv 2)) aw) fa (z 8) (sv 2) (sv 4) v).1))), (3, .int (oN ((mwS (mesN (sf sv) (sg sv) (sc sv) (sv 6) (sv 1) (sv 0) (clo (sf sv) (sg sv) (sv 5) (sv 1) (sv 2)) aw) fa (z 8) (sv 2) (sv 4) v).2))), (4, .int (nI v)), (6, .int (nI k))]) hx hb dX8_which_132 hl (by decide) rfl (fun ls hl => ?_)
                        refine lv_iinc (v := (nI (k + 1))) (lv' := [(6, .int (nI (k + 1))), (5, .int (nI 1)), (0, .ref (ad 0)), (1, .int (nI 0)), (2, .int (nI ((mwS (mesN (sf sv) (sg sv) (sc sv) (sv 6) (sv 1) (sv 0) (clo (sf sv) (sg sv) (sv 5) (sv 1) (sv 2)) aw) fa (z 8) (sv 2) (sv 4) v).1))), (3, .int (oN ((mwS (mesN (sf sv) (sg sv) (sc sv) (sv 6) (sv 1) (sv 0) (clo (sf sv) (sg sv) (sv 5) (sv 1) (sv 2)) aw) fa (z 8) (sv 2) (sv 4) v).2))), (4, .int (nI v))]) hx hb dX8_which_134 hl (k := 6) rfl (qn_inc _) (by decide) rfl (fun ls hl => ?_)
                        refine lv_goto (tgt := 84) hx hb dX8_which_137 (by decide) ?_
                        exact ih84 (k + 1) 1 (by omega) (by omega) (by omega) ⟨fun _ => by rw [fuB, decide_eq_true c124, Bool.and_true]; exact hyy.mp (by omega), fun _ => rfl⟩ _ _ hP hD hS ls (lv_sub hl [2, 3, 4, 5, 6, 1, 0] rfl)
              exact lp84 _ 0 1 (Nat.lt_succ_self _) (Nat.zero_le _) (by omega) ⟨fun _ => ⟨⟨c57, c71⟩, rfl⟩, fun _ => rfl⟩ _ _ hP hD hS ls (lv_sub hl [2, 3, 4, 5, 6, 1, 0] rfl)
    exact lp38 _ 0 0 none (Nat.lt_succ_self _) rfl rfl (Nat.zero_le _) _ _ hP hD hS ls (lv_sub hl [3, 4, 2, 1, 0] rfl)
  · exact absurd c11 (by decide)

set_option maxHeartbeats 4000000 in
set_option maxRecDepth 100000 in
theorem mX8_which_1 (l : Launch) (G : GG) (ad : Nat → Nat) (z : Nat → Nat) (fo : Option Nat) (sv : Nat → Nat) (d : Nat → Int32) (pa ke : Nat → Nat) (ik fa : Nat → Int32) (te aw : Nat → Nat)  (hB : SB sv) (ha : ∀ j, aw j ≤ 1000000) (hz : z 8 ≤ 6) : Mi l yX8_which cX8_which 7 (some .int) (rmN 2 47) G [.ref (ad 0), .int (nI 1)] (mow G ad z fo sv d pa ke ik fa te aw) (fun (r9 : Int32) (_ : Unit) => r9 = (oN ((mwS (mesN (sf sv) (sg sv) (sc sv) (sv 6) (sv 1) (sv 0) (clo (sf sv) (sg sv) (sv 5) (sv 1) (sv 2)) aw) fa (z 8) (sv 2) (sv 4) (sv 0)).2))) (fun (_ : Unit) => mow G ad z fo sv d pa ke ik fa te (mesN (sf sv) (sg sv) (sc sv) (sv 6) (sv 1) (sv 0) (clo (sf sv) (sg sv) (sv 5) (sv 1) (sv 2)) aw)) := by
  refine Mi.of (cc := cX8_which) (nL := 7) (by decide) (Nat.le_of_ble_eq_true rfl) ?_
  intro p e s m below meth c A ls F hr hlocks hnm hX hA hD hP hS hl
  have F : CallFix p m c cX8_which 7 s [.ref (ad 0), .int (nI 1)].toArray wA RX8 := F
  obtain ⟨hx, hb, hml, hown, hts⟩ := id F
  have hl : lv_has ls 7 [(0, .ref (ad 0)), (1, .int (nI 1))] := hl
  obtain ⟨⟨b0, b1, b2, b3, b4, b5, b6, b7, b8⟩, g1, g2, g3, g4⟩ := id hB
  have gf : ∀ j, sf sv j < 10 := fun j => g1 (16 + j) (by omega)
  have gg : ∀ j, sg sv j < 10 := fun j => g1 (28 + j) (by omega)
  have gc : ∀ j, sc sv j ≤ 9 := fun j => by have := g1 (40 + j) (by omega); unfold sc; omega
  have gf7 : ∀ j, j < 12 → sf sv j < 7 := g2
  have gg7 : ∀ j, j < 12 → sg sv j < 7 := g3
  have hcl : clo (sf sv) (sg sv) (sv 5) (sv 1) (sv 2) < 1024 := clo_lt gf gg (by omega)
  have hml9 : ∀ j, (mesN (sf sv) (sg sv) (sc sv) (sv 6) (sv 1) (sv 0) (clo (sf sv) (sg sv) (sv 5) (sv 1) (sv 2)) aw) j ≤ 1000000 := mesN_le ha
  refine lv_aload_n hx hb dX8_which_0 rfl (lv_at hl 0 rfl) ?_
  refine lv_iconst (v := (nI 0)) hx hb dX8_which_1 (by decide) ?_
  refine va_put (D := G.1) (ci := 7) (v := .int (nI 0)) (ty := .int) (C := RX8) (T := TX8) (N := 17) hx hb hts inA8 tyX8 tyX8_ok nmX8 hown hX.1 hP hD hS 0 rfl rfl 0 (by decide) (hts _ kw_680) (fun _ h9 => h9) rfl (by decide +kernel) rfl rfl (Nat.le_of_ble_eq_true rfl) dX8_which_2 (fun H locs hP hD hS => ?_)
  have hP : va_P G.1 vwCl (mow G ad z fo sv d pa ke ik fa te aw) H := hP
  have hD : va_D A (mow G ad z fo sv d pa ke ik fa te aw) := hD
  refine lv_iload_n hx hb dX8_which_5 rfl (lv_at hl 1 rfl) ?_
  refine lv_iconst (v := (nI 0)) hx hb dX8_which_6 (by decide) ?_
  refine lv_iconst (v := (nI 1)) hx hb dX8_which_7 (by decide) ?_
  refine ca_Si (rest := []) (wr := mow G ad z fo sv d pa ke ik fa te aw) F hX (mX8_in l G (nI 1) (nI 0) (nI 1)) (cA_S hts kw_738 kw_8 kw_736 kw_737 hdX8_in ⟨Nat.le_of_ble_eq_true rfl, Nat.le_of_ble_eq_true rfl⟩) rfl hl.1 rfl (Nat.le_of_ble_eq_true rfl) dX8_which_8 ⟨Nat.le_of_ble_eq_true rfl, Nat.le_of_ble_eq_true rfl⟩ hP hD hS hA (List.Perm.refl _) (fun r8 u8 H locs hp8 hP hD hS => ?_)
  have hP : va_P G.1 vwCl (mow G ad z fo sv d pa ke ik fa te aw) H := hP
  have hD : va_D A (mow G ad z fo sv d pa ke ik fa te aw) := hD
  subst hp8
  refine ti (y := (bI true)) (by decide) ?_
  refine bv_ne (b := true) (tgt := 16) hx hb dX8_which_11 (by decide) (fun c11 => ?_) (fun c11 => ?_)
  · refine lv_aload_n hx hb dX8_which_16 rfl (lv_at hl 0 rfl) ?_
    refine lv_aload_n hx hb dX8_which_17 rfl (lv_at hl 0 rfl) ?_
    refine lv_aload_n hx hb dX8_which_18 rfl (lv_at hl 0 rfl) ?_
    refine va_get (D := G.1) (ci := 7) (v := .ref (ad 1)) (C := RX8) (T := TX8) (N := 17) hx hb hts inA8 hown hX.1 hP 0 rfl rfl 1 (by decide) (hts _ kw_681) (fun _ h9 => h9) rfl dX8_which_19 ?_
    refine lv_iconst (v := (nI 5)) hx hb dX8_which_22 (by decide) ?_
    refine nv_ald (f := sv) (k := 5) hx hb hX hP 1 rfl (by omega) (by decide) dX8_which_23 ?_
    refine ca_Vi (ci := 7) (q := (RX8, TX8, 17)) (rest := [.ref (ad 0)]) (wr := ([] : va_W)) F hX (mX8_nodesOf l G ad z fo sv d pa ke ik fa te aw (sv 5) hB (by omega)) (cA_V hts kw_798 kw_8 kw_795 kw_797 kp_30 hdX8_nodesOf ⟨Nat.le_of_ble_eq_true rfl, Nat.le_of_ble_eq_true rfl⟩) rfl rfl rfl hl.1 rfl (Nat.le_of_ble_eq_true rfl) dX8_which_24 ⟨Nat.le_of_ble_eq_true rfl, Nat.le_of_ble_eq_true rfl⟩ hP hD hS hA (pm_nil _) (fun r24 u24 H locs hp24 hP hD hS => ?_)
    have hP : va_P G.1 vwCl (mow G ad z fo sv d pa ke ik fa te aw) H := wp_pm (pm_nil _).symm hP
    have hD : va_D A (mow G ad z fo sv d pa ke ik fa te aw) := wd_pm (pm_nil _).symm hD
    subst hp24
    refine ca_Vv (ci := 7) (q := (RX8, TX8, 17)) (rest := []) (wr := ([] : va_W)) F hX (mX8_measures l G ad z fo sv d pa ke ik fa te aw (clo (sf sv) (sg sv) (sv 5) (sv 1) (sv 2)) hB ha (by omega)) (cA_V hts kw_805 kw_8 kw_802 kw_804 kp_31 hdX8_measures ⟨Nat.le_of_ble_eq_true rfl, Nat.le_of_ble_eq_true rfl⟩) rfl rfl rfl hl.1 rfl (Nat.le_of_ble_eq_true rfl) dX8_which_27 ⟨Nat.le_of_ble_eq_true rfl, Nat.le_of_ble_eq_true rfl⟩ hP hD hS hA (pm_nil _) (fun u27 H locs hp27 hP hD hS => ?_)
    have hP : va_P G.1 vwCl (mow G ad z fo sv d pa ke ik fa te (mesN (sf sv) (sg sv) (sc sv) (sv 6) (sv 1) (sv 0) (clo (sf sv) (sg sv) (sv 5) (sv 1) (sv 2)) aw)) H := wp_pm (pm_nil _).symm hP
    have hD : va_D A (mow G ad z fo sv d pa ke ik fa te (mesN (sf sv) (sg sv) (sc sv) (sv 6) (sv 1) (sv 0) (clo (sf sv) (sg sv) (sv 5) (sv 1) (sv 2)) aw)) := wd_pm (pm_nil _).symm hD
    refine lv_iconst (v := (nI 0)) hx hb dX8_which_30 (by decide) ?_
    refine lv_istore_n (lv' := [(2, .int (nI 0)), (0, .ref (ad 0)), (1, .int (nI 1))]) hx hb dX8_which_31 rfl hl (by decide) rfl (fun ls hl => ?_)
    refine lv_bipush (v := (-9)) hx hb dX8_which_32 (by decide) ?_
    refine lv_istore_n (lv' := [(3, .int (-9)), (2, .int (nI 0)), (0, .ref (ad 0)), (1, .int (nI 1))]) hx hb dX8_which_34 rfl hl (by decide) rfl (fun ls hl => ?_)
    refine lv_iconst (v := (nI 0)) hx hb dX8_which_35 (by decide) ?_
    refine lv_istore (lv' := [(4, .int (nI 0)), (3, .int (-9)), (2, .int (nI 0)), (0, .ref (ad 0)), (1, .int (nI 1))]) hx hb dX8_which_36 hl (by decide) rfl (fun ls hl => ?_)
    have lp38 : ∀ (n38 : Nat) (v : Nat) (n : Nat) (o : Option Nat), (sv 0 - v) < n38 → n = (mwS (mesN (sf sv) (sg sv) (sc sv) (sv 6) (sv 1) (sv 0) (clo (sf sv) (sg sv) (sv 5) (sv 1) (sv 2)) aw) fa (z 8) (sv 2) (sv 4) v).1 → o = (mwS (mesN (sf sv) (sg sv) (sc sv) (sv 6) (sv 1) (sv 0) (clo (sf sv) (sg sv) (sv 5) (sv 1) (sv 2)) aw) fa (z 8) (sv 2) (sv 4) v).2 → (v ≤ sv 0) → ∀ (H : Heap) (locs : List Loc), va_P G.1 vwCl (mow G ad z fo sv d pa ke ik fa te (mesN (sf sv) (sg sv) (sc sv) (sv 6) (sv 1) (sv 0) (clo (sf sv) (sg sv) (sv 5) (sv 1) (sv 2)) aw)) H → va_D A (mow G ad z fo sv d pa ke ik fa te (mesN (sf sv) (sg sv) (sc sv) (sv 6) (sv 1) (sv 0) (clo (sf sv) (sg sv) (sv 5) (sv 1) (sv 2)) aw)) → va_S A s.heap H locs → ∀ (ls : Array Slot), lv_has ls 7 [(0, .ref (ad 0)), (1, .int (nI 1)), (2, .int (nI n)), (3, .int (oN o)), (4, .int (nI v))] → WI p l e (rmN 2 47) s m [.ref (ad 0), .int (nI 1)] below meth c H locs G A (fun (r9 : Int32) (_ : Unit) => r9 = (oN ((mwS (mesN (sf sv) (sg sv) (sc sv) (sv 6) (sv 1) (sv 0) (clo (sf sv) (sg sv) (sv 5) (sv 1) (sv 2)) aw) fa (z 8) (sv 2) (sv 4) (sv 0)).2))) (fun (_ : Unit) => mow G ad z fo sv d pa ke ik fa te (mesN (sf sv) (sg sv) (sc sv) (sv 6) (sv 1) (sv 0) (clo (sf sv) (sg sv) (sv 5) (sv 1) (sv 2)) aw)) (F0 m 38 ls []) := by
      intro n38
      induction n38 with
      | zero => intro v n o h9; exact absurd h9 (Nat.not_lt_zero _)
      | succ n38 ih38 =>
        intro v n o hm38 e_n e_o hv H locs hP hD hS ls hl
        subst e_n
        subst e_o
        refine lv_iload hx hb dX8_which_38 (lv_at hl 4 rfl) ?_
        refine lv_aload_n hx hb dX8_which_40 rfl (lv_at hl 0 rfl) ?_
        refine va_get (D := G.1) (ci := 7) (v := .ref (ad 1)) (C := RX8) (T := TX8) (N := 17) hx hb hts inA8 hown hX.1 hP 0 rfl rfl 1 (by decide) (hts _ kw_681) (fun _ h9 => h9) rfl dX8_which_41 ?_
        refine lv_iconst (v := (nI 0)) hx hb dX8_which_44 (by decide) ?_
        refine nv_ald (f := sv) (k := 0) hx hb hX hP 1 rfl (by omega) (by decide) dX8_which_45 ?_
        refine nv_ge (x := v) (y := sv 0) (tgt := 175) hx hb dX8_which_46 (by decide) (by omega) (by omega) (fun c46 => ?_) (fun c46 => ?_)
        · refine lv_iload_n hx hb dX8_which_175 rfl (lv_at hl 1 rfl) ?_
          refine nv_zne (x := 1) (tgt := 183) hx hb dX8_which_176 (by decide) (by decide) (fun _ => ?_) (fun h9 => absurd h9 (by decide))
          refine lv_iload_n hx hb dX8_which_183 rfl (lv_at hl 3 rfl) ?_
          exact re_i (v := (oN ((mwS (mesN (sf sv) (sg sv) (sc sv) (sv 6) (sv 1) (sv 0) (clo (sf sv) (sg sv) (sv 5) (sv 1) (sv 2)) aw) fa (z 8) (sv 2) (sv 4) v).2))) hx hb hr hlocks hS () hP hD (by have e9 : v = sv 0 := (by omega); rw [e9]) dX8_which_184
        · refine lv_iload hx hb dX8_which_49 (lv_at hl 4 rfl) ?_
          refine lv_aload_n hx hb dX8_which_51 rfl (lv_at hl 0 rfl) ?_
          refine va_get (D := G.1) (ci := 7) (v := .ref (ad 1)) (C := RX8) (T := TX8) (N := 17) hx hb hts inA8 hown hX.1 hP 0 rfl rfl 1 (by decide) (hts _ kw_681) (fun _ h9 => h9) rfl dX8_which_52 ?_
          refine lv_iconst (v := (nI 2)) hx hb dX8_which_55 (by decide) ?_
          refine nv_ald (f := sv) (k := 2) hx hb hX hP 1 rfl (by omega) (by decide) dX8_which_56 ?_
          refine nv_eq (x := v) (y := sv 2) (tgt := 78) hx hb dX8_which_57 (by decide) (by omega) (by omega) (fun c57 => ?_) (fun c57 => ?_)
          · refine lv_iconst (v := (nI 0)) hx hb dX8_which_78 (by decide) ?_
            refine lv_istore (lv' := [(5, .int (nI 0)), (0, .ref (ad 0)), (1, .int (nI 1)), (2, .int (nI ((mwS (mesN (sf sv) (sg sv) (sc sv) (sv 6) (sv 1) (sv 0) (clo (sf sv) (sg sv) (sv 5) (sv 1) (sv 2)) aw) fa (z 8) (sv 2) (sv 4) v).1))), (3, .int (oN ((mwS (mesN (sf sv) (sg sv) (sc sv) (sv 6) (sv 1) (sv 0) (clo (sf sv) (sg sv) (sv 5) (sv 1) (sv 2)) aw) fa (z 8) (sv 2) (sv 4) v).2))), (4, .int (nI v))]) hx hb dX8_which_79 hl (by decide) rfl (fun ls hl => ?_)
            refine lv_iconst (v := (nI 0)) hx hb dX8_which_81 (by decide) ?_
            refine lv_istore (lv' := [(6, .int (nI 0)), (5, .int (nI 0)), (0, .ref (ad 0)), (1, .int (nI 1)), (2, .int (nI ((mwS (mesN (sf sv) (sg sv) (sc sv) (sv 6) (sv 1) (sv 0) (clo (sf sv) (sg sv) (sv 5) (sv 1) (sv 2)) aw) fa (z 8) (sv 2) (sv 4) v).1))), (3, .int (oN ((mwS (mesN (sf sv) (sg sv) (sc sv) (sv 6) (sv 1) (sv 0) (clo (sf sv) (sg sv) (sv 5) (sv 1) (sv 2)) aw) fa (z 8) (sv 2) (sv 4) v).2))), (4, .int (nI v))]) hx hb dX8_which_82 hl (by decide) rfl (fun ls hl => ?_)
            have lp84 : ∀ (n84 : Nat) (k : Nat) (y : Nat), (z 8 - k) < n84 → (k ≤ z 8) → (y ≤ 1) → (y = 1 ↔ ((v ≠ sv 2 ∧ (sv 4).testBit v = false) ∧ fuB (mesN (sf sv) (sg sv) (sc sv) (sv 6) (sv 1) (sv 0) (clo (sf sv) (sg sv) (sv 5) (sv 1) (sv 2)) aw) fa v k = true)) → ∀ (H : Heap) (locs : List Loc), va_P G.1 vwCl (mow G ad z fo sv d pa ke ik fa te (mesN (sf sv) (sg sv) (sc sv) (sv 6) (sv 1) (sv 0) (clo (sf sv) (sg sv) (sv 5) (sv 1) (sv 2)) aw)) H → va_D A (mow G ad z fo sv d pa ke ik fa te (mesN (sf sv) (sg sv) (sc sv) (sv 6) (sv 1) (sv 0) (clo (sf sv) (sg sv) (sv 5) (sv 1) (sv 2)) aw)) → va_S A s.heap H locs → ∀ (ls : Array Slot), lv_has ls 7 [(0, .ref (ad 0)), (1, .int (nI 1)), (2, .int (nI ((mwS (mesN (sf sv) (sg sv) (sc sv) (sv 6) (sv 1) (sv 0) (clo (sf sv) (sg sv) (sv 5) (sv 1) (sv 2)) aw) fa (z 8) (sv 2) (sv 4) v).1))), (3, .int (oN ((mwS (mesN (sf sv) (sg sv) (sc sv) (sv 6) (sv 1) (sv 0) (clo (sf sv) (sg sv) (sv 5) (sv 1) (sv 2)) aw) fa (z 8) (sv 2) (sv 4) v).2))), (4, .int (nI v)), (5, .int (nI y)), (6, .int (nI k))] → WI p l e (rmN 2 47) s m [.ref (ad 0), .int (nI 1)] below meth c H locs G A (fun (r9 : Int32) (_ : Unit) => r9 = (oN ((mwS (mesN (sf sv) (sg sv) (sc sv) (sv 6) (sv 1) (sv 0) (clo (sf sv) (sg sv) (sv 5) (sv 1) (sv 2)) aw) fa (z 8) (sv 2) (sv 4) (sv 0)).2))) (fun (_ : Unit) => mow G ad z fo sv d pa ke ik fa te (mesN (sf sv) (sg sv) (sc sv) (sv 6) (sv 1) (sv 0) (clo (sf sv) (sg sv) (sv 5) (sv 1) (sv 2)) aw)) (F0 m 84 ls []) := by
              intro n84
              induction n84 with
              | zero => intro k y h9; exact absurd h9 (Nat.not_lt_zero _)
              | succ n84 ih84 =>
                intro k y hm84  hk hy1 hyy H locs hP hD hS ls hl
                refine lv_iload hx hb dX8_which_84 (lv_at hl 6 rfl) ?_
                refine lv_aload_n hx hb dX8_which_86 rfl (lv_at hl 0 rfl) ?_
                refine va_get (D := G.1) (ci := 7) (v := .int (nI (z 8))) (C := RX8) (T := TX8) (N := 17) hx hb hts inA8 hown hX.1 hP 0 rfl rfl 8 (by decide) (hts _ kw_688) (fun _ h9 => h9) rfl dX8_which_87 ?_
                refine nv_ge (x := k) (y := z 8) (tgt := 140) hx hb dX8_which_90 (by decide) (by omega) (by omega) (fun c90 => ?_) (fun c90 => ?_)
                · have hfi : y = 1 ↔ fiB (mesN (sf sv) (sg sv) (sc sv) (sv 6) (sv 1) (sv 0) (clo (sf sv) (sg sv) (sv 5) (sv 1) (sv 2)) aw) fa (z 8) (sv 2) (sv 4) v = true := by have ek : k = z 8 := (by omega); rw [ek] at hyy; unfold fiB; rw [hyy]; simp [and_assoc]
                  refine lv_iload hx hb dX8_which_140 (lv_at hl 5 rfl) ?_
                  refine nv_zeq (x := y) (tgt := 154) hx hb dX8_which_142 (by decide) (by omega) (fun c142 => ?_) (fun c142 => ?_)
                  · refine lv_iload_n hx hb dX8_which_154 rfl (lv_at hl 3 rfl) ?_
                    refine lv_istore_n (lv' := [(3, .int (oN ((mwS (mesN (sf sv) (sg sv) (sc sv) (sv 6) (sv 1) (sv 0) (clo (sf sv) (sg sv) (sv 5) (sv 1) (sv 2)) aw) fa (z 8) (sv 2) (sv 4) v).2))), (0, .ref (ad 0)), (1, .int (nI 1)), (2, .int (nI ((mwS (mesN (sf sv) (sg sv) (sc sv) (sv 6) (sv 1) (sv 0) (clo (sf sv) (sg sv) (sv 5) (sv 1) (sv 2)) aw) fa (z 8) (sv 2) (sv 4) v).1))), (4, .int (nI v)), (5, .int (nI y)), (6, .int (nI k))]) hx hb dX8_which_155 rfl hl (by decide) rfl (fun ls hl => ?_)
                    refine lv_iload_n hx hb dX8_which_156 rfl (lv_at hl 3 rfl) ?_
                    refine lv_iload hx hb dX8_which_157 (lv_at hl 5 rfl) ?_
                    refine nv_zeq (x := y) (tgt := 166) hx hb dX8_which_159 (by decide) (by omega) (fun c159 => ?_) (fun c159 => ?_)
                    · refine lv_iconst (v := (nI 0)) hx hb dX8_which_166 (by decide) ?_
                      refine lv_iadd hx hb dX8_which_167 (ti (y := (nI (((mwS (mesN (sf sv) (sg sv) (sc sv) (sv 6) (sv 1) (sv 0) (clo (sf sv) (sg sv) (sv 5) (sv 1) (sv 2)) aw) fa (z 8) (sv 2) (sv 4) v).1) + 0))) (nI_add _ _) ?_)
                      refine lv_istore_n (lv' := [(2, .int (nI (((mwS (mesN (sf sv) (sg sv) (sc sv) (sv 6) (sv 1) (sv 0) (clo (sf sv) (sg sv) (sv 5) (sv 1) (sv 2)) aw) fa (z 8) (sv 2) (sv 4) v).1) + 0))), (3, .int (oN ((mwS (mesN (sf sv) (sg sv) (sc sv) (sv 6) (sv 1) (sv 0) (clo (sf sv) (sg sv) (sv 5) (sv 1) (sv 2)) aw) fa (z 8) (sv 2) (sv 4) v).2))), (0, .ref (ad 0)), (1, .int (nI 1)), (4, .int (nI v)), (5, .int (nI y)), (6, .int (nI k))]) hx hb dX8_which_168 rfl hl (by decide) rfl (fun ls hl => ?_)
                      refine lv_iinc (v := (nI (v + 1))) (lv' := [(4, .int (nI (v + 1))), (2, .int (nI (((mwS (mesN (sf sv) (sg sv) (sc sv) (sv 6) (sv 1) (sv 0) (clo (sf sv) (sg sv) (sv 5) (sv 1) (sv 2)) aw) fa (z 8) (sv 2) (sv 4) v).1) + 0))), (3, .int (oN ((mwS (mesN (sf sv) (sg sv) (sc sv) (sv 6) (sv 1) (sv 0) (clo (sf sv) (sg sv) (sv 5) (sv 1) (sv 2)) aw) fa (z 8) (sv 2) (sv 4) v).2))), (0, .ref (ad 0)), (1, .int (nI 1)), (5, .int (nI y)), (6, .int (nI k))]) hx hb dX8_which_169 hl (k := 4) rfl (qn_inc _) (by decide) rfl (fun ls hl => ?_)
                      refine lv_goto (tgt := 38) hx hb dX8_which_172 (by decide) ?_
                      exact ih38 (v + 1) (((mwS (mesN (sf sv) (sg sv) (sc sv) (sv 6) (sv 1) (sv 0) (clo (sf sv) (sg sv) (sv 5) (sv 1) (sv 2)) aw) fa (z 8) (sv 2) (sv 4) v).1) + 0) ((mwS (mesN (sf sv) (sg sv) (sc sv) (sv 6) (sv 1) (sv 0) (clo (sf sv) (sg sv) (sv 5) (sv 1) (sv 2)) aw) fa (z 8) (sv 2) (sv 4) v).2) (by omega) (by have e8 : ¬ fiB (mesN (sf sv) (sg sv) (sc sv) (sv 6) (sv 1) (sv 0) (clo (sf sv) (sg sv) (sv 5) (sv 1) (sv 2)) aw) fa (z 8) (sv 2) (sv 4) v = true := fun h => absurd (hfi.mpr h) (by omega); rw [mwS, if_neg e8] <;> rfl) (by have e8 : ¬ fiB (mesN (sf sv) (sg sv) (sc sv) (sv 6) (sv 1) (sv 0) (clo (sf sv) (sg sv) (sv 5) (sv 1) (sv 2)) aw) fa (z 8) (sv 2) (sv 4) v = true := fun h => absurd (hfi.mpr h) (by omega); rw [mwS, if_neg e8] <;> rfl) (by omega) _ _ hP hD hS ls (lv_sub hl [3, 4, 1, 2, 0] rfl)
                    · exact absurd c142 c159
                  · refine lv_iload_n hx hb dX8_which_145 rfl (lv_at hl 2 rfl) ?_
                    refine nv_zne (x := (mwS (mesN (sf sv) (sg sv) (sc sv) (sv 6) (sv 1) (sv 0) (clo (sf sv) (sg sv) (sv 5) (sv 1) (sv 2)) aw) fa (z 8) (sv 2) (sv 4) v).1) (tgt := 154) hx hb dX8_which_146 (by decide) (by have := mwS_le (mesN (sf sv) (sg sv) (sc sv) (sv 6) (sv 1) (sv 0) (clo (sf sv) (sg sv) (sv 5) (sv 1) (sv 2)) aw) fa (z 8) (sv 2) (sv 4) v; omega) (fun c146 => ?_) (fun c146 => ?_)
                    · refine lv_iload_n hx hb dX8_which_154 rfl (lv_at hl 3 rfl) ?_
                      refine lv_istore_n (lv' := [(3, .int (oN ((mwS (mesN (sf sv) (sg sv) (sc sv) (sv 6) (sv 1) (sv 0) (clo (sf sv) (sg sv) (sv 5) (sv 1) (sv 2)) aw) fa (z 8) (sv 2) (sv 4) v).2))), (0, .ref (ad 0)), (1, .int (nI 1)), (2, .int (nI ((mwS (mesN (sf sv) (sg sv) (sc sv) (sv 6) (sv 1) (sv 0) (clo (sf sv) (sg sv) (sv 5) (sv 1) (sv 2)) aw) fa (z 8) (sv 2) (sv 4) v).1))), (4, .int (nI v)), (5, .int (nI y)), (6, .int (nI k))]) hx hb dX8_which_155 rfl hl (by decide) rfl (fun ls hl => ?_)
                      refine lv_iload_n hx hb dX8_which_156 rfl (lv_at hl 3 rfl) ?_
                      refine lv_iload hx hb dX8_which_157 (lv_at hl 5 rfl) ?_
                      refine nv_zeq (x := y) (tgt := 166) hx hb dX8_which_159 (by decide) (by omega) (fun c159 => ?_) (fun c159 => ?_)
                      · exact absurd c159 c142
                      · refine lv_iconst (v := (nI 1)) hx hb dX8_which_162 (by decide) ?_
                        refine lv_goto (tgt := 167) hx hb dX8_which_163 (by decide) ?_
                        refine lv_iadd hx hb dX8_which_167 (ti (y := (nI (((mwS (mesN (sf sv) (sg sv) (sc sv) (sv 6) (sv 1) (sv 0) (clo (sf sv) (sg sv) (sv 5) (sv 1) (sv 2)) aw) fa (z 8) (sv 2) (sv 4) v).1) + 1))) (nI_add _ _) ?_)
                        refine lv_istore_n (lv' := [(2, .int (nI (((mwS (mesN (sf sv) (sg sv) (sc sv) (sv 6) (sv 1) (sv 0) (clo (sf sv) (sg sv) (sv 5) (sv 1) (sv 2)) aw) fa (z 8) (sv 2) (sv 4) v).1) + 1))), (3, .int (oN ((mwS (mesN (sf sv) (sg sv) (sc sv) (sv 6) (sv 1) (sv 0) (clo (sf sv) (sg sv) (sv 5) (sv 1) (sv 2)) aw) fa (z 8) (sv 2) (sv 4) v).2))), (0, .ref (ad 0)), (1, .int (nI 1)), (4, .int (nI v)), (5, .int (nI y)), (6, .int (nI k))]) hx hb dX8_which_168 rfl hl (by decide) rfl (fun ls hl => ?_)
                        refine lv_iinc (v := (nI (v + 1))) (lv' := [(4, .int (nI (v + 1))), (2, .int (nI (((mwS (mesN (sf sv) (sg sv) (sc sv) (sv 6) (sv 1) (sv 0) (clo (sf sv) (sg sv) (sv 5) (sv 1) (sv 2)) aw) fa (z 8) (sv 2) (sv 4) v).1) + 1))), (3, .int (oN ((mwS (mesN (sf sv) (sg sv) (sc sv) (sv 6) (sv 1) (sv 0) (clo (sf sv) (sg sv) (sv 5) (sv 1) (sv 2)) aw) fa (z 8) (sv 2) (sv 4) v).2))), (0, .ref (ad 0)), (1, .int (nI 1)), (5, .int (nI y)), (6, .int (nI k))]) hx hb dX8_which_169 hl (k := 4) rfl (qn_inc _) (by decide) rfl (fun ls hl => ?_)
                        refine lv_goto (tgt := 38) hx hb dX8_which_172 (by decide) ?_
                        exact ih38 (v + 1) (((mwS (mesN (sf sv) (sg sv) (sc sv) (sv 6) (sv 1) (sv 0) (clo (sf sv) (sg sv) (sv 5) (sv 1) (sv 2)) aw) fa (z 8) (sv 2) (sv 4) v).1) + 1) ((mwS (mesN (sf sv) (sg sv) (sc sv) (sv 6) (sv 1) (sv 0) (clo (sf sv) (sg sv) (sv 5) (sv 1) (sv 2)) aw) fa (z 8) (sv 2) (sv 4) v).2) (by omega) (by have e8 : fiB (mesN (sf sv) (sg sv) (sc sv) (sv 6) (sv 1) (sv 0) (clo (sf sv) (sg sv) (sv 5) (sv 1) (sv 2)) aw) fa (z 8) (sv 2) (sv 4) v = true := hfi.mp (by omega); rw [mwS, if_pos e8] <;> rfl) (by have e8 : fiB (mesN (sf sv) (sg sv) (sc sv) (sv 6) (sv 1) (sv 0) (clo (sf sv) (sg sv) (sv 5) (sv 1) (sv 2)) aw) fa (z 8) (sv 2) (sv 4) v = true := hfi.mp (by omega); rw [mwS, if_pos e8, if_neg c146] <;> rfl) (by omega) _ _ hP hD hS ls (lv_sub hl [3, 4, 1, 2, 0] rfl)
                    · refine lv_iload hx hb dX8_which_149 (lv_at hl 4 rfl) ?_
                      refine lv_goto (tgt := 155) hx hb dX8_which_151 (by decide) ?_
                      refine lv_istore_n (lv' := [(3, .int (nI v)), (0, .ref (ad 0)), (1, .int (nI 1)), (2, .int (nI ((mwS (mesN (sf sv) (sg sv) (sc sv) (sv 6) (sv 1) (sv 0) (clo (sf sv) (sg sv) (sv 5) (sv 1) (sv 2)) aw) fa (z 8) (sv 2) (sv 4) v).1))), (4, .int (nI v)), (5, .int (nI y)), (6, .int (nI k))]) hx hb dX8_which_155 rfl hl (by decide) rfl (fun ls hl => ?_)
                      refine lv_iload_n hx hb dX8_which_156 rfl (lv_at hl 3 rfl) ?_
                      refine lv_iload hx hb dX8_which_157 (lv_at hl 5 rfl) ?_
                      refine nv_zeq (x := y) (tgt := 166) hx hb dX8_which_159 (by decide) (by omega) (fun c159 => ?_) (fun c159 => ?_)
                      · exact absurd c159 c142
                      · refine lv_iconst (v := (nI 1)) hx hb dX8_which_162 (by decide) ?_
                        refine lv_goto (tgt := 167) hx hb dX8_which_163 (by decide) ?_
                        refine lv_iadd hx hb dX8_which_167 (ti (y := (nI (((mwS (mesN (sf sv) (sg sv) (sc sv) (sv 6) (sv 1) (sv 0) (clo (sf sv) (sg sv) (sv 5) (sv 1) (sv 2)) aw) fa (z 8) (sv 2) (sv 4) v).1) + 1))) (nI_add _ _) ?_)
                        refine lv_istore_n (lv' := [(2, .int (nI (((mwS (mesN (sf sv) (sg sv) (sc sv) (sv 6) (sv 1) (sv 0) (clo (sf sv) (sg sv) (sv 5) (sv 1) (sv 2)) aw) fa (z 8) (sv 2) (sv 4) v).1) + 1))), (3, .int (nI v)), (0, .ref (ad 0)), (1, .int (nI 1)), (4, .int (nI v)), (5, .int (nI y)), (6, .int (nI k))]) hx hb dX8_which_168 rfl hl (by decide) rfl (fun ls hl => ?_)
                        refine lv_iinc (v := (nI (v + 1))) (lv' := [(4, .int (nI (v + 1))), (2, .int (nI (((mwS (mesN (sf sv) (sg sv) (sc sv) (sv 6) (sv 1) (sv 0) (clo (sf sv) (sg sv) (sv 5) (sv 1) (sv 2)) aw) fa (z 8) (sv 2) (sv 4) v).1) + 1))), (3, .int (nI v)), (0, .ref (ad 0)), (1, .int (nI 1)), (5, .int (nI y)), (6, .int (nI k))]) hx hb dX8_which_169 hl (k := 4) rfl (qn_inc _) (by decide) rfl (fun ls hl => ?_)
                        refine lv_goto (tgt := 38) hx hb dX8_which_172 (by decide) ?_
                        exact ih38 (v + 1) (((mwS (mesN (sf sv) (sg sv) (sc sv) (sv 6) (sv 1) (sv 0) (clo (sf sv) (sg sv) (sv 5) (sv 1) (sv 2)) aw) fa (z 8) (sv 2) (sv 4) v).1) + 1) (some v) (by omega) (by have e8 : fiB (mesN (sf sv) (sg sv) (sc sv) (sv 6) (sv 1) (sv 0) (clo (sf sv) (sg sv) (sv 5) (sv 1) (sv 2)) aw) fa (z 8) (sv 2) (sv 4) v = true := hfi.mp (by omega); rw [mwS, if_pos e8] <;> rfl) (by have e8 : fiB (mesN (sf sv) (sg sv) (sc sv) (sv 6) (sv 1) (sv 0) (clo (sf sv) (sg sv) (sv 5) (sv 1) (sv 2)) aw) fa (z 8) (sv 2) (sv 4) v = true := hfi.mp (by omega); rw [mwS, if_pos e8, if_pos c146] <;> rfl) (by omega) _ _ hP hD hS ls (lv_sub hl [3, 4, 1, 2, 0] rfl)
                · refine lv_iload hx hb dX8_which_93 (lv_at hl 5 rfl) ?_
                  refine nv_zeq (x := y) (tgt := 140) hx hb dX8_which_95 (by decide) (by omega) (fun c95 => ?_) (fun c95 => ?_)
                  · have hfi : y = 1 ↔ fiB (mesN (sf sv) (sg sv) (sc sv) (sv 6) (sv 1) (sv 0) (clo (sf sv) (sg sv) (sv 5) (sv 1) (sv 2)) aw) fa (z 8) (sv 2) (sv 4) v = true := by have hn : ¬ ((v ≠ sv 2 ∧ (sv 4).testBit v = false) ∧ fuB (mesN (sf sv) (sg sv) (sc sv) (sv 6) (sv 1) (sv 0) (clo (sf sv) (sg sv) (sv 5) (sv 1) (sv 2)) aw) fa v k = true) := fun h => absurd (hyy.mpr h) (by omega); refine ⟨fun h => absurd h (by omega), fun h => ?_⟩; unfold fiB at h; simp only [Bool.and_eq_true, decide_eq_true_eq, Bool.not_eq_true'] at h; exfalso; cases hf : fuB (mesN (sf sv) (sg sv) (sc sv) (sv 6) (sv 1) (sv 0) (clo (sf sv) (sg sv) (sv 5) (sv 1) (sv 2)) aw) fa v k with | false => exact absurd (fuB_no hf (z 8) (by omega)) (by rw [h.2]; decide) | true => exact hn ⟨h.1, hf⟩
                    refine lv_iload hx hb dX8_which_140 (lv_at hl 5 rfl) ?_
                    refine nv_zeq (x := y) (tgt := 154) hx hb dX8_which_142 (by decide) (by omega) (fun c142 => ?_) (fun c142 => ?_)
                    · refine lv_iload_n hx hb dX8_which_154 rfl (lv_at hl 3 rfl) ?_
                      refine lv_istore_n (lv' := [(3, .int (oN ((mwS (mesN (sf sv) (sg sv) (sc sv) (sv 6) (sv 1) (sv 0) (clo (sf sv) (sg sv) (sv 5) (sv 1) (sv 2)) aw) fa (z 8) (sv 2) (sv 4) v).2))), (0, .ref (ad 0)), (1, .int (nI 1)), (2, .int (nI ((mwS (mesN (sf sv) (sg sv) (sc sv) (sv 6) (sv 1) (sv 0) (clo (sf sv) (sg sv) (sv 5) (sv 1) (sv 2)) aw) fa (z 8) (sv 2) (sv 4) v).1))), (4, .int (nI v)), (5, .int (nI y)), (6, .int (nI k))]) hx hb dX8_which_155 rfl hl (by decide) rfl (fun ls hl => ?_)
                      refine lv_iload_n hx hb dX8_which_156 rfl (lv_at hl 3 rfl) ?_
                      refine lv_iload hx hb dX8_which_157 (lv_at hl 5 rfl) ?_
                      refine nv_zeq (x := y) (tgt := 166) hx hb dX8_which_159 (by decide) (by omega) (fun c159 => ?_) (fun c159 => ?_)
                      · refine lv_iconst (v := (nI 0)) hx hb dX8_which_166 (by decide) ?_
                        refine lv_iadd hx hb dX8_which_167 (ti (y := (nI (((mwS (mesN (sf sv) (sg sv) (sc sv) (sv 6) (sv 1) (sv 0) (clo (sf sv) (sg sv) (sv 5) (sv 1) (sv 2)) aw) fa (z 8) (sv 2) (sv 4) v).1) + 0))) (nI_add _ _) ?_)
                        refine lv_istore_n (lv' := [(2, .int (nI (((mwS (mesN (sf sv) (sg sv) (sc sv) (sv 6) (sv 1) (sv 0) (clo (sf sv) (sg sv) (sv 5) (sv 1) (sv 2)) aw) fa (z 8) (sv 2) (sv 4) v).1) + 0))), (3, .int (oN ((mwS (mesN (sf sv) (sg sv) (sc sv) (sv 6) (sv 1) (sv 0) (clo (sf sv) (sg sv) (sv 5) (sv 1) (sv 2)) aw) fa (z 8) (sv 2) (sv 4) v).2))), (0, .ref (ad 0)), (1, .int (nI 1)), (4, .int (nI v)), (5, .int (nI y)), (6, .int (nI k))]) hx hb dX8_which_168 rfl hl (by decide) rfl (fun ls hl => ?_)
                        refine lv_iinc (v := (nI (v + 1))) (lv' := [(4, .int (nI (v + 1))), (2, .int (nI (((mwS (mesN (sf sv) (sg sv) (sc sv) (sv 6) (sv 1) (sv 0) (clo (sf sv) (sg sv) (sv 5) (sv 1) (sv 2)) aw) fa (z 8) (sv 2) (sv 4) v).1) + 0))), (3, .int (oN ((mwS (mesN (sf sv) (sg sv) (sc sv) (sv 6) (sv 1) (sv 0) (clo (sf sv) (sg sv) (sv 5) (sv 1) (sv 2)) aw) fa (z 8) (sv 2) (sv 4) v).2))), (0, .ref (ad 0)), (1, .int (nI 1)), (5, .int (nI y)), (6, .int (nI k))]) hx hb dX8_which_169 hl (k := 4) rfl (qn_inc _) (by decide) rfl (fun ls hl => ?_)
                        refine lv_goto (tgt := 38) hx hb dX8_which_172 (by decide) ?_
                        exact ih38 (v + 1) (((mwS (mesN (sf sv) (sg sv) (sc sv) (sv 6) (sv 1) (sv 0) (clo (sf sv) (sg sv) (sv 5) (sv 1) (sv 2)) aw) fa (z 8) (sv 2) (sv 4) v).1) + 0) ((mwS (mesN (sf sv) (sg sv) (sc sv) (sv 6) (sv 1) (sv 0) (clo (sf sv) (sg sv) (sv 5) (sv 1) (sv 2)) aw) fa (z 8) (sv 2) (sv 4) v).2) (by omega) (by have e8 : ¬ fiB (mesN (sf sv) (sg sv) (sc sv) (sv 6) (sv 1) (sv 0) (clo (sf sv) (sg sv) (sv 5) (sv 1) (sv 2)) aw) fa (z 8) (sv 2) (sv 4) v = true := fun h => absurd (hfi.mpr h) (by omega); rw [mwS, if_neg e8] <;> rfl) (by have e8 : ¬ fiB (mesN (sf sv) (sg sv) (sc sv) (sv 6) (sv 1) (sv 0) (clo (sf sv) (sg sv) (sv 5) (sv 1) (sv 2)) aw) fa (z 8) (sv 2) (sv 4) v = true := fun h => absurd (hfi.mpr h) (by omega); rw [mwS, if_neg e8] <;> rfl) (by omega) _ _ hP hD hS ls (lv_sub hl [3, 4, 1, 2, 0] rfl)
                      · exact absurd c142 c159
                    · refine lv_iload_n hx hb dX8_which_145 rfl (lv_at hl 2 rfl) ?_
                      refine nv_zne (x := (mwS (mesN (sf sv) (sg sv) (sc sv) (sv 6) (sv 1) (sv 0) (clo (sf sv) (sg sv) (sv 5) (sv 1) (sv 2)) aw) fa (z 8) (sv 2) (sv 4) v).1) (tgt := 154) hx hb dX8_which_146 (by decide) (by have := mwS_le (mesN (sf sv) (sg sv) (sc sv) (sv 6) (sv 1) (sv 0) (clo (sf sv) (sg sv) (sv 5) (sv 1) (sv 2)) aw) fa (z 8) (sv 2) (sv 4) v; omega) (fun c146 => ?_) (fun c146 => ?_)
                      · refine lv_iload_n hx hb dX8_which_154 rfl (lv_at hl 3 rfl) ?_
                        refine lv_istore_n (lv' := [(3, .int (oN ((mwS (mesN (sf sv) (sg sv) (sc sv) (sv 6) (sv 1) (sv 0) (clo (sf sv) (sg sv) (sv 5) (sv 1) (sv 2)) aw) fa (z 8) (sv 2) (sv 4) v).2))), (0, .ref (ad 0)), (1, .int (nI 1)), (2, .int (nI ((mwS (mesN (sf sv) (sg sv) (sc sv) (sv 6) (sv 1) (sv 0) (clo (sf sv) (sg sv) (sv 5) (sv 1) (sv 2)) aw) fa (z 8) (sv 2) (sv 4) v).1))), (4, .int (nI v)), (5, .int (nI y)), (6, .int (nI k))]) hx hb dX8_which_155 rfl hl (by decide) rfl (fun ls hl => ?_)
                        refine lv_iload_n hx hb dX8_which_156 rfl (lv_at hl 3 rfl) ?_
                        refine lv_iload hx hb dX8_which_157 (lv_at hl 5 rfl) ?_
                        refine nv_zeq (x := y) (tgt := 166) hx hb dX8_which_159 (by decide) (by omega) (fun c159 => ?_) (fun c159 => ?_)
                        · exact absurd c159 c142
                        · refine lv_iconst (v := (nI 1)) hx hb dX8_which_162 (by decide) ?_
                          refine lv_goto (tgt := 167) hx hb dX8_which_163 (by decide) ?_
                          refine lv_iadd hx hb dX8_which_167 (ti (y := (nI (((mwS (mesN (sf sv) (sg sv) (sc sv) (sv 6) (sv 1) (sv 0) (clo (sf sv) (sg sv) (sv 5) (sv 1) (sv 2)) aw) fa (z 8) (sv 2) (sv 4) v).1) + 1))) (nI_add _ _) ?_)
                          refine lv_istore_n (lv' := [(2, .int (nI (((mwS (mesN (sf sv) (sg sv) (sc sv) (sv 6) (sv 1) (sv 0) (clo (sf sv) (sg sv) (sv 5) (sv 1) (sv 2)) aw) fa (z 8) (sv 2) (sv 4) v).1) + 1))), (3, .int (oN ((mwS (mesN (sf sv) (sg sv) (sc sv) (sv 6) (sv 1) (sv 0) (clo (sf sv) (sg sv) (sv 5) (sv 1) (sv 2)) aw) fa (z 8) (sv 2) (sv 4) v).2))), (0, .ref (ad 0)), (1, .int (nI 1)), (4, .int (nI v)), (5, .int (nI y)), (6, .int (nI k))]) hx hb dX8_which_168 rfl hl (by decide) rfl (fun ls hl => ?_)
                          refine lv_iinc (v := (nI (v + 1))) (lv' := [(4, .int (nI (v + 1))), (2, .int (nI (((mwS (mesN (sf sv) (sg sv) (sc sv) (sv 6) (sv 1) (sv 0) (clo (sf sv) (sg sv) (sv 5) (sv 1) (sv 2)) aw) fa (z 8) (sv 2) (sv 4) v).1) + 1))), (3, .int (oN ((mwS (mesN (sf sv) (sg sv) (sc sv) (sv 6) (sv 1) (sv 0) (clo (sf sv) (sg sv) (sv 5) (sv 1) (sv 2)) aw) fa (z 8) (sv 2) (sv 4) v).2))), (0, .ref (ad 0)), (1, .int (nI 1)), (5, .int (nI y)), (6, .int (nI k))]) hx hb dX8_which_169 hl (k := 4) rfl (qn_inc _) (by decide) rfl (fun ls hl => ?_)
                          refine lv_goto (tgt := 38) hx hb dX8_which_172 (by decide) ?_
                          exact ih38 (v + 1) (((mwS (mesN (sf sv) (sg sv) (sc sv) (sv 6) (sv 1) (sv 0) (clo (sf sv) (sg sv) (sv 5) (sv 1) (sv 2)) aw) fa (z 8) (sv 2) (sv 4) v).1) + 1) ((mwS (mesN (sf sv) (sg sv) (sc sv) (sv 6) (sv 1) (sv 0) (clo (sf sv) (sg sv) (sv 5) (sv 1) (sv 2)) aw) fa (z 8) (sv 2) (sv 4) v).2) (by omega) (by have e8 : fiB (mesN (sf sv) (sg sv) (sc sv) (sv 6) (sv 1) (sv 0) (clo (sf sv) (sg sv) (sv 5) (sv 1) (sv 2)) aw) fa (z 8) (sv 2) (sv 4) v = true := hfi.mp (by omega); rw [mwS, if_pos e8] <;> rfl) (by have e8 : fiB (mesN (sf sv) (sg sv) (sc sv) (sv 6) (sv 1) (sv 0) (clo (sf sv) (sg sv) (sv 5) (sv 1) (sv 2)) aw) fa (z 8) (sv 2) (sv 4) v = true := hfi.mp (by omega); rw [mwS, if_pos e8, if_neg c146] <;> rfl) (by omega) _ _ hP hD hS ls (lv_sub hl [3, 4, 1, 2, 0] rfl)
                      · refine lv_iload hx hb dX8_which_149 (lv_at hl 4 rfl) ?_
                        refine lv_goto (tgt := 155) hx hb dX8_which_151 (by decide) ?_
                        refine lv_istore_n (lv' := [(3, .int (nI v)), (0, .ref (ad 0)), (1, .int (nI 1)), (2, .int (nI ((mwS (mesN (sf sv) (sg sv) (sc sv) (sv 6) (sv 1) (sv 0) (clo (sf sv) (sg sv) (sv 5) (sv 1) (sv 2)) aw) fa (z 8) (sv 2) (sv 4) v).1))), (4, .int (nI v)), (5, .int (nI y)), (6, .int (nI k))]) hx hb dX8_which_155 rfl hl (by decide) rfl (fun ls hl => ?_)
                        refine lv_iload_n hx hb dX8_which_156 rfl (lv_at hl 3 rfl) ?_
                        refine lv_iload hx hb dX8_which_157 (lv_at hl 5 rfl) ?_
                        refine nv_zeq (x := y) (tgt := 166) hx hb dX8_which_159 (by decide) (by omega) (fun c159 => ?_) (fun c159 => ?_)
                        · exact absurd c159 c142
                        · refine lv_iconst (v := (nI 1)) hx hb dX8_which_162 (by decide) ?_
                          refine lv_goto (tgt := 167) hx hb dX8_which_163 (by decide) ?_
                          refine lv_iadd hx hb dX8_which_167 (ti (y := (nI (((mwS (mesN (sf sv) (sg sv) (sc sv) (sv 6) (sv 1) (sv 0) (clo (sf sv) (sg sv) (sv 5) (sv 1) (sv 2)) aw) fa (z 8) (sv 2) (sv 4) v).1) + 1))) (nI_add _ _) ?_)
                          refine lv_istore_n (lv' := [(2, .int (nI (((mwS (mesN (sf sv) (sg sv) (sc sv) (sv 6) (sv 1) (sv 0) (clo (sf sv) (sg sv) (sv 5) (sv 1) (sv 2)) aw) fa (z 8) (sv 2) (sv 4) v).1) + 1))), (3, .int (nI v)), (0, .ref (ad 0)), (1, .int (nI 1)), (4, .int (nI v)), (5, .int (nI y)), (6, .int (nI k))]) hx hb dX8_which_168 rfl hl (by decide) rfl (fun ls hl => ?_)
                          refine lv_iinc (v := (nI (v + 1))) (lv' := [(4, .int (nI (v + 1))), (2, .int (nI (((mwS (mesN (sf sv) (sg sv) (sc sv) (sv 6) (sv 1) (sv 0) (clo (sf sv) (sg sv) (sv 5) (sv 1) (sv 2)) aw) fa (z 8) (sv 2) (sv 4) v).1) + 1))), (3, .int (nI v)), (0, .ref (ad 0)), (1, .int (nI 1)), (5, .int (nI y)), (6, .int (nI k))]) hx hb dX8_which_169 hl (k := 4) rfl (qn_inc _) (by decide) rfl (fun ls hl => ?_)
                          refine lv_goto (tgt := 38) hx hb dX8_which_172 (by decide) ?_
                          exact ih38 (v + 1) (((mwS (mesN (sf sv) (sg sv) (sc sv) (sv 6) (sv 1) (sv 0) (clo (sf sv) (sg sv) (sv 5) (sv 1) (sv 2)) aw) fa (z 8) (sv 2) (sv 4) v).1) + 1) (some v) (by omega) (by have e8 : fiB (mesN (sf sv) (sg sv) (sc sv) (sv 6) (sv 1) (sv 0) (clo (sf sv) (sg sv) (sv 5) (sv 1) (sv 2)) aw) fa (z 8) (sv 2) (sv 4) v = true := hfi.mp (by omega); rw [mwS, if_pos e8] <;> rfl) (by have e8 : fiB (mesN (sf sv) (sg sv) (sc sv) (sv 6) (sv 1) (sv 0) (clo (sf sv) (sg sv) (sv 5) (sv 1) (sv 2)) aw) fa (z 8) (sv 2) (sv 4) v = true := hfi.mp (by omega); rw [mwS, if_pos e8, if_pos c146] <;> rfl) (by omega) _ _ hP hD hS ls (lv_sub hl [3, 4, 1, 2, 0] rfl)
                  · refine lv_aload_n hx hb dX8_which_98 rfl (lv_at hl 0 rfl) ?_
                    refine lv_iload hx hb dX8_which_99 (lv_at hl 4 rfl) ?_
                    refine lv_aload_n hx hb dX8_which_101 rfl (lv_at hl 0 rfl) ?_
                    refine va_get (D := G.1) (ci := 7) (v := .ref (ad 6)) (C := RX8) (T := TX8) (N := 17) hx hb hts inA8 hown hX.1 hP 0 rfl rfl 7 (by decide) (hts _ kw_687) (fun _ h9 => h9) rfl dX8_which_102 ?_
                    refine lv_iconst (v := (nI 2)) hx hb dX8_which_105 (by decide) ?_
                    refine lv_iload hx hb dX8_which_106 (lv_at hl 6 rfl) ?_
                    refine lv_imul hx hb dX8_which_108 (ti (y := (nI (2 * k))) (pk_mul _ _) ?_)
                    refine nv_aldI (f := fa) (k := 2 * k) hx hb hX hP 6 rfl (by omega) (by decide) dX8_which_109 ?_
                    refine ca_Vi (ci := 7) (q := (RX8, TX8, 17)) (rest := []) (wr := ([] : va_W)) F hX (mX8_away l G ad z fo sv d pa ke ik fa te (mesN (sf sv) (sg sv) (sc sv) (sv 6) (sv 1) (sv 0) (clo (sf sv) (sg sv) (sv 5) (sv 1) (sv 2)) aw) v (fa (2 * k)) hml9 (by omega)) (cA_V hts kw_901 kw_8 kw_898 kw_900 kp_46 hdX8_away ⟨Nat.le_of_ble_eq_true rfl, Nat.le_of_ble_eq_true rfl⟩) rfl rfl rfl hl.1 rfl (Nat.le_of_ble_eq_true rfl) dX8_which_110 ⟨Nat.le_of_ble_eq_true rfl, Nat.le_of_ble_eq_true rfl⟩ hP hD hS hA (pm_nil _) (fun r110 u110 H locs hp110 hP hD hS => ?_)
                    have hP : va_P G.1 vwCl (mow G ad z fo sv d pa ke ik fa te (mesN (sf sv) (sg sv) (sc sv) (sv 6) (sv 1) (sv 0) (clo (sf sv) (sg sv) (sv 5) (sv 1) (sv 2)) aw)) H := wp_pm (pm_nil _).symm hP
                    have hD : va_D A (mow G ad z fo sv d pa ke ik fa te (mesN (sf sv) (sg sv) (sc sv) (sv 6) (sv 1) (sv 0) (clo (sf sv) (sg sv) (sv 5) (sv 1) (sv 2)) aw)) := wd_pm (pm_nil _).symm hD
                    subst hp110
                    refine lv_aload_n hx hb dX8_which_113 rfl (lv_at hl 0 rfl) ?_
                    refine va_get (D := G.1) (ci := 7) (v := .ref (ad 6)) (C := RX8) (T := TX8) (N := 17) hx hb hts inA8 hown hX.1 hP 0 rfl rfl 7 (by decide) (hts _ kw_687) (fun _ h9 => h9) rfl dX8_which_114 ?_
                    refine lv_iconst (v := (nI 2)) hx hb dX8_which_117 (by decide) ?_
                    refine lv_iload hx hb dX8_which_118 (lv_at hl 6 rfl) ?_
                    refine lv_imul hx hb dX8_which_120 (ti (y := (nI (2 * k))) (pk_mul _ _) ?_)
                    refine lv_iconst (v := (nI 1)) hx hb dX8_which_121 (by decide) ?_
                    refine lv_iadd hx hb dX8_which_122 (ti (y := (nI ((2 * k) + 1))) (nI_add _ _) ?_)
                    refine nv_aldI (f := fa) (k := (2 * k) + 1) hx hb hX hP 6 rfl (by omega) (by decide) dX8_which_123 ?_
                    refine lv_icmp_ne (x := (oN (mawI (mesN (sf sv) (sg sv) (sc sv) (sv 6) (sv 1) (sv 0) (clo (sf sv) (sg sv) (sv 5) (sv 1) (sv 2)) aw) v (fa (2 * k))))) (y := (fa ((2 * k) + 1))) (tgt := 131) hx hb dX8_which_124 (by decide) (fun c124 => ?_) (fun c124 => ?_)
                    · refine lv_iconst (v := (nI 0)) hx hb dX8_which_131 (by decide) ?_
                      refine lv_istore (lv' := [(5, .int (nI 0)), (0, .ref (ad 0)), (1, .int (nI 1)), (2, .int (nI ((mwS (mesN (sf sv) (sg sv) (sc sv) (sv 6) (sv 1) (sv 0) (clo (sf sv) (sg sv) (sv 5) (sv 1) (sv 2)) aw) fa (z 8) (sv 2) (sv 4) v).1))), (3, .int (oN ((mwS (mesN (sf sv) (sg sv) (sc sv) (sv 6) (sv 1) (sv 0) (clo (sf sv) (sg sv) (sv 5) (sv 1) (sv 2)) aw) fa (z 8) (sv 2) (sv 4) v).2))), (4, .int (nI v)), (6, .int (nI k))]) hx hb dX8_which_132 hl (by decide) rfl (fun ls hl => ?_)
                      refine lv_iinc (v := (nI (k + 1))) (lv' := [(6, .int (nI (k + 1))), (5, .int (nI 0)), (0, .ref (ad 0)), (1, .int (nI 1)), (2, .int (nI ((mwS (mesN (sf sv) (sg sv) (sc sv) (sv 6) (sv 1) (sv 0) (clo (sf sv) (sg sv) (sv 5) (sv 1) (sv 2)) aw) fa (z 8) (sv 2) (sv 4) v).1))), (3, .int (oN ((mwS (mesN (sf sv) (sg sv) (sc sv) (sv 6) (sv 1) (sv 0) (clo (sf sv) (sg sv) (sv 5) (sv 1) (sv 2)) aw) fa (z 8) (sv 2) (sv 4) v).2))), (4, .int (nI v))]) hx hb dX8_which_134 hl (k := 6) rfl (qn_inc _) (by decide) rfl (fun ls hl => ?_)
                      refine lv_goto (tgt := 84) hx hb dX8_which_137 (by decide) ?_
                      exact ih84 (k + 1) 0 (by omega) (by omega) (by omega) ⟨fun h => absurd h (by decide), fun h => by rw [fuB, decide_eq_false c124, Bool.and_false] at h; exact absurd h.2 (by decide)⟩ _ _ hP hD hS ls (lv_sub hl [2, 3, 4, 5, 6, 1, 0] rfl)
                    · refine lv_iconst (v := (nI 1)) hx hb dX8_which_127 (by decide) ?_
                      refine lv_goto (tgt := 132) hx hb dX8_which_128 (by decide) ?_
                      refine lv_istore (lv' := [(5, .int (nI 1)), (0, .ref (ad 0)), (1, .int (nI 1)), (2, .int (nI ((mwS (mesN (sf sv) (sg sv) (sc sv) (sv 6) (sv 1) (sv 0) (clo (sf sv) (sg sv) (sv 5) (sv 1) (sv 2)) aw) fa (z 8) (sv 2) (sv 4) v).1))), (3, .int (oN ((mwS (mesN (sf sv) (sg sv) (sc sv) (sv 6) (sv 1) (sv 0) (clo (sf sv) (sg sv) (sv 5) (sv 1) (sv 2)) aw) fa (z 8) (sv 2) (sv 4) v).2))), (4, .int (nI v)), (6, .int (nI k))]) hx hb dX8_which_132 hl (by decide) rfl (fun ls hl => ?_)
                      refine lv_iinc (v := (nI (k + 1))) (lv' := [(6, .int (nI (k + 1))), (5, .int (nI 1)), (0, .ref (ad 0)), (1, .int (nI 1)), (2, .int (nI ((mwS (mesN (sf sv) (sg sv) (sc sv) (sv 6) (sv 1) (sv 0) (clo (sf sv) (sg sv) (sv 5) (sv 1) (sv 2)) aw) fa (z 8) (sv 2) (sv 4) v).1))), (3, .int (oN ((mwS (mesN (sf sv) (sg sv) (sc sv) (sv 6) (sv 1) (sv 0) (clo (sf sv) (sg sv) (sv 5) (sv 1) (sv 2)) aw) fa (z 8) (sv 2) (sv 4) v).2))), (4, .int (nI v))]) hx hb dX8_which_134 hl (k := 6) rfl (qn_inc _) (by decide) rfl (fun ls hl => ?_)
                      refine lv_goto (tgt := 84) hx hb dX8_which_137 (by decide) ?_
                      exact ih84 (k + 1) 1 (by omega) (by omega) (by omega) ⟨fun _ => by rw [fuB, decide_eq_true c124, Bool.and_true]; exact hyy.mp (by omega), fun _ => rfl⟩ _ _ hP hD hS ls (lv_sub hl [2, 3, 4, 5, 6, 1, 0] rfl)
            exact lp84 _ 0 0 (Nat.lt_succ_self _) (Nat.zero_le _) (by omega) ⟨fun h => absurd h (by decide), fun h => absurd c57 h.1.1⟩ _ _ hP hD hS ls (lv_sub hl [2, 3, 4, 5, 6, 1, 0] rfl)
          · refine lv_aload_n hx hb dX8_which_60 rfl (lv_at hl 0 rfl) ?_
            refine va_get (D := G.1) (ci := 7) (v := .ref (ad 1)) (C := RX8) (T := TX8) (N := 17) hx hb hts inA8 hown hX.1 hP 0 rfl rfl 1 (by decide) (hts _ kw_681) (fun _ h9 => h9) rfl dX8_which_61 ?_
            refine lv_iconst (v := (nI 4)) hx hb dX8_which_64 (by decide) ?_
            refine nv_ald (f := sv) (k := 4) hx hb hX hP 1 rfl (by omega) (by decide) dX8_which_65 ?_
            refine lv_iload hx hb dX8_which_66 (lv_at hl 4 rfl) ?_
            refine ca_Si (rest := []) (wr := mow G ad z fo sv d pa ke ik fa te (mesN (sf sv) (sg sv) (sc sv) (sv 6) (sv 1) (sv 0) (clo (sf sv) (sg sv) (sv 5) (sv 1) (sv 2)) aw)) F hX (mX8_has l G (sv 4) v (by omega) (by omega)) (cA_S hts kw_801 kw_8 kw_799 kw_800 hdX8_has ⟨Nat.le_of_ble_eq_true rfl, Nat.le_of_ble_eq_true rfl⟩) rfl hl.1 rfl (Nat.le_of_ble_eq_true rfl) dX8_which_68 ⟨Nat.le_of_ble_eq_true rfl, Nat.le_of_ble_eq_true rfl⟩ hP hD hS hA (List.Perm.refl _) (fun r68 u68 H locs hp68 hP hD hS => ?_)
            have hP : va_P G.1 vwCl (mow G ad z fo sv d pa ke ik fa te (mesN (sf sv) (sg sv) (sc sv) (sv 6) (sv 1) (sv 0) (clo (sf sv) (sg sv) (sv 5) (sv 1) (sv 2)) aw)) H := hP
            have hD : va_D A (mow G ad z fo sv d pa ke ik fa te (mesN (sf sv) (sg sv) (sc sv) (sv 6) (sv 1) (sv 0) (clo (sf sv) (sg sv) (sv 5) (sv 1) (sv 2)) aw)) := hD
            subst hp68
            refine bv_ne (b := (sv 4).testBit v) (tgt := 78) hx hb dX8_which_71 (by decide) (fun c71 => ?_) (fun c71 => ?_)
            · refine lv_iconst (v := (nI 0)) hx hb dX8_which_78 (by decide) ?_
              refine lv_istore (lv' := [(5, .int (nI 0)), (0, .ref (ad 0)), (1, .int (nI 1)), (2, .int (nI ((mwS (mesN (sf sv) (sg sv) (sc sv) (sv 6) (sv 1) (sv 0) (clo (sf sv) (sg sv) (sv 5) (sv 1) (sv 2)) aw) fa (z 8) (sv 2) (sv 4) v).1))), (3, .int (oN ((mwS (mesN (sf sv) (sg sv) (sc sv) (sv 6) (sv 1) (sv 0) (clo (sf sv) (sg sv) (sv 5) (sv 1) (sv 2)) aw) fa (z 8) (sv 2) (sv 4) v).2))), (4, .int (nI v))]) hx hb dX8_which_79 hl (by decide) rfl (fun ls hl => ?_)
              refine lv_iconst (v := (nI 0)) hx hb dX8_which_81 (by decide) ?_
              refine lv_istore (lv' := [(6, .int (nI 0)), (5, .int (nI 0)), (0, .ref (ad 0)), (1, .int (nI 1)), (2, .int (nI ((mwS (mesN (sf sv) (sg sv) (sc sv) (sv 6) (sv 1) (sv 0) (clo (sf sv) (sg sv) (sv 5) (sv 1) (sv 2)) aw) fa (z 8) (sv 2) (sv 4) v).1))), (3, .int (oN ((mwS (mesN (sf sv) (sg sv) (sc sv) (sv 6) (sv 1) (sv 0) (clo (sf sv) (sg sv) (sv 5) (sv 1) (sv 2)) aw) fa (z 8) (sv 2) (sv 4) v).2))), (4, .int (nI v))]) hx hb dX8_which_82 hl (by decide) rfl (fun ls hl => ?_)
              have lp84 : ∀ (n84 : Nat) (k : Nat) (y : Nat), (z 8 - k) < n84 → (k ≤ z 8) → (y ≤ 1) → (y = 1 ↔ ((v ≠ sv 2 ∧ (sv 4).testBit v = false) ∧ fuB (mesN (sf sv) (sg sv) (sc sv) (sv 6) (sv 1) (sv 0) (clo (sf sv) (sg sv) (sv 5) (sv 1) (sv 2)) aw) fa v k = true)) → ∀ (H : Heap) (locs : List Loc), va_P G.1 vwCl (mow G ad z fo sv d pa ke ik fa te (mesN (sf sv) (sg sv) (sc sv) (sv 6) (sv 1) (sv 0) (clo (sf sv) (sg sv) (sv 5) (sv 1) (sv 2)) aw)) H → va_D A (mow G ad z fo sv d pa ke ik fa te (mesN (sf sv) (sg sv) (sc sv) (sv 6) (sv 1) (sv 0) (clo (sf sv) (sg sv) (sv 5) (sv 1) (sv 2)) aw)) → va_S A s.heap H locs → ∀ (ls : Array Slot), lv_has ls 7 [(0, .ref (ad 0)), (1, .int (nI 1)), (2, .int (nI ((mwS (mesN (sf sv) (sg sv) (sc sv) (sv 6) (sv 1) (sv 0) (clo (sf sv) (sg sv) (sv 5) (sv 1) (sv 2)) aw) fa (z 8) (sv 2) (sv 4) v).1))), (3, .int (oN ((mwS (mesN (sf sv) (sg sv) (sc sv) (sv 6) (sv 1) (sv 0) (clo (sf sv) (sg sv) (sv 5) (sv 1) (sv 2)) aw) fa (z 8) (sv 2) (sv 4) v).2))), (4, .int (nI v)), (5, .int (nI y)), (6, .int (nI k))] → WI p l e (rmN 2 47) s m [.ref (ad 0), .int (nI 1)] below meth c H locs G A (fun (r9 : Int32) (_ : Unit) => r9 = (oN ((mwS (mesN (sf sv) (sg sv) (sc sv) (sv 6) (sv 1) (sv 0) (clo (sf sv) (sg sv) (sv 5) (sv 1) (sv 2)) aw) fa (z 8) (sv 2) (sv 4) (sv 0)).2))) (fun (_ : Unit) => mow G ad z fo sv d pa ke ik fa te (mesN (sf sv) (sg sv) (sc sv) (sv 6) (sv 1) (sv 0) (clo (sf sv) (sg sv) (sv 5) (sv 1) (sv 2)) aw)) (F0 m 84 ls []) := by
                intro n84
                induction n84 with
                | zero => intro k y h9; exact absurd h9 (Nat.not_lt_zero _)
                | succ n84 ih84 =>
                  intro k y hm84  hk hy1 hyy H locs hP hD hS ls hl
                  refine lv_iload hx hb dX8_which_84 (lv_at hl 6 rfl) ?_
                  refine lv_aload_n hx hb dX8_which_86 rfl (lv_at hl 0 rfl) ?_
                  refine va_get (D := G.1) (ci := 7) (v := .int (nI (z 8))) (C := RX8) (T := TX8) (N := 17) hx hb hts inA8 hown hX.1 hP 0 rfl rfl 8 (by decide) (hts _ kw_688) (fun _ h9 => h9) rfl dX8_which_87 ?_
                  refine nv_ge (x := k) (y := z 8) (tgt := 140) hx hb dX8_which_90 (by decide) (by omega) (by omega) (fun c90 => ?_) (fun c90 => ?_)
                  · have hfi : y = 1 ↔ fiB (mesN (sf sv) (sg sv) (sc sv) (sv 6) (sv 1) (sv 0) (clo (sf sv) (sg sv) (sv 5) (sv 1) (sv 2)) aw) fa (z 8) (sv 2) (sv 4) v = true := by have ek : k = z 8 := (by omega); rw [ek] at hyy; unfold fiB; rw [hyy]; simp [and_assoc]
                    refine lv_iload hx hb dX8_which_140 (lv_at hl 5 rfl) ?_
                    refine nv_zeq (x := y) (tgt := 154) hx hb dX8_which_142 (by decide) (by omega) (fun c142 => ?_) (fun c142 => ?_)
                    · refine lv_iload_n hx hb dX8_which_154 rfl (lv_at hl 3 rfl) ?_
                      refine lv_istore_n (lv' := [(3, .int (oN ((mwS (mesN (sf sv) (sg sv) (sc sv) (sv 6) (sv 1) (sv 0) (clo (sf sv) (sg sv) (sv 5) (sv 1) (sv 2)) aw) fa (z 8) (sv 2) (sv 4) v).2))), (0, .ref (ad 0)), (1, .int (nI 1)), (2, .int (nI ((mwS (mesN (sf sv) (sg sv) (sc sv) (sv 6) (sv 1) (sv 0) (clo (sf sv) (sg sv) (sv 5) (sv 1) (sv 2)) aw) fa (z 8) (sv 2) (sv 4) v).1))), (4, .int (nI v)), (5, .int (nI y)), (6, .int (nI k))]) hx hb dX8_which_155 rfl hl (by decide) rfl (fun ls hl => ?_)
                      refine lv_iload_n hx hb dX8_which_156 rfl (lv_at hl 3 rfl) ?_
                      refine lv_iload hx hb dX8_which_157 (lv_at hl 5 rfl) ?_
                      refine nv_zeq (x := y) (tgt := 166) hx hb dX8_which_159 (by decide) (by omega) (fun c159 => ?_) (fun c159 => ?_)
                      · refine lv_iconst (v := (nI 0)) hx hb dX8_which_166 (by decide) ?_
                        refine lv_iadd hx hb dX8_which_167 (ti (y := (nI (((mwS (mesN (sf sv) (sg sv) (sc sv) (sv 6) (sv 1) (sv 0) (clo (sf sv) (sg sv) (sv 5) (sv 1) (sv 2)) aw) fa (z 8) (sv 2) (sv 4) v).1) + 0))) (nI_add _ _) ?_)
                        refine lv_istore_n (lv' := [(2, .int (nI (((mwS (mesN (sf sv) (sg sv) (sc sv) (sv 6) (sv 1) (sv 0) (clo (sf sv) (sg sv) (sv 5) (sv 1) (sv 2)) aw) fa (z 8) (sv 2) (sv 4) v).1) + 0))), (3, .int (oN ((mwS (mesN (sf sv) (sg sv) (sc sv) (sv 6) (sv 1) (sv 0) (clo (sf sv) (sg sv) (sv 5) (sv 1) (sv 2)) aw) fa (z 8) (sv 2) (sv 4) v).2))), (0, .ref (ad 0)), (1, .int (nI 1)), (4, .int (nI v)), (5, .int (nI y)), (6, .int (nI k))]) hx hb dX8_which_168 rfl hl (by decide) rfl (fun ls hl => ?_)
                        refine lv_iinc (v := (nI (v + 1))) (lv' := [(4, .int (nI (v + 1))), (2, .int (nI (((mwS (mesN (sf sv) (sg sv) (sc sv) (sv 6) (sv 1) (sv 0) (clo (sf sv) (sg sv) (sv 5) (sv 1) (sv 2)) aw) fa (z 8) (sv 2) (sv 4) v).1) + 0))), (3, .int (oN ((mwS (mesN (sf sv) (sg sv) (sc sv) (sv 6) (sv 1) (sv 0) (clo (sf sv) (sg sv) (sv 5) (sv 1) (sv 2)) aw) fa (z 8) (sv 2) (sv 4) v).2))), (0, .ref (ad 0)), (1, .int (nI 1)), (5, .int (nI y)), (6, .int (nI k))]) hx hb dX8_which_169 hl (k := 4) rfl (qn_inc _) (by decide) rfl (fun ls hl => ?_)
                        refine lv_goto (tgt := 38) hx hb dX8_which_172 (by decide) ?_
                        exact ih38 (v + 1) (((mwS (mesN (sf sv) (sg sv) (sc sv) (sv 6) (sv 1) (sv 0) (clo (sf sv) (sg sv) (sv 5) (sv 1) (sv 2)) aw) fa (z 8) (sv 2) (sv 4) v).1) + 0) ((mwS (mesN (sf sv) (sg sv) (sc sv) (sv 6) (sv 1) (sv 0) (clo (sf sv) (sg sv) (sv 5) (sv 1) (sv 2)) aw) fa (z 8) (sv 2) (sv 4) v).2) (by omega) (by have e8 : ¬ fiB (mesN (sf sv) (sg sv) (sc sv) (sv 6) (sv 1) (sv 0) (clo (sf sv) (sg sv) (sv 5) (sv 1) (sv 2)) aw) fa (z 8) (sv 2) (sv 4) v = true := fun h => absurd (hfi.mpr h) (by omega); rw [mwS, if_neg e8] <;> rfl) (by have e8 : ¬ fiB (mesN (sf sv) (sg sv) (sc sv) (sv 6) (sv 1) (sv 0) (clo (sf sv) (sg sv) (sv 5) (sv 1) (sv 2)) aw) fa (z 8) (sv 2) (sv 4) v = true := fun h => absurd (hfi.mpr h) (by omega); rw [mwS, if_neg e8] <;> rfl) (by omega) _ _ hP hD hS ls (lv_sub hl [3, 4, 1, 2, 0] rfl)
                      · exact absurd c142 c159
                    · refine lv_iload_n hx hb dX8_which_145 rfl (lv_at hl 2 rfl) ?_
                      refine nv_zne (x := (mwS (mesN (sf sv) (sg sv) (sc sv) (sv 6) (sv 1) (sv 0) (clo (sf sv) (sg sv) (sv 5) (sv 1) (sv 2)) aw) fa (z 8) (sv 2) (sv 4) v).1) (tgt := 154) hx hb dX8_which_146 (by decide) (by have := mwS_le (mesN (sf sv) (sg sv) (sc sv) (sv 6) (sv 1) (sv 0) (clo (sf sv) (sg sv) (sv 5) (sv 1) (sv 2)) aw) fa (z 8) (sv 2) (sv 4) v; omega) (fun c146 => ?_) (fun c146 => ?_)
                      · refine lv_iload_n hx hb dX8_which_154 rfl (lv_at hl 3 rfl) ?_
                        refine lv_istore_n (lv' := [(3, .int (oN ((mwS (mesN (sf sv) (sg sv) (sc sv) (sv 6) (sv 1) (sv 0) (clo (sf sv) (sg sv) (sv 5) (sv 1) (sv 2)) aw) fa (z 8) (sv 2) (sv 4) v).2))), (0, .ref (ad 0)), (1, .int (nI 1)), (2, .int (nI ((mwS (mesN (sf sv) (sg sv) (sc sv) (sv 6) (sv 1) (sv 0) (clo (sf sv) (sg sv) (sv 5) (sv 1) (sv 2)) aw) fa (z 8) (sv 2) (sv 4) v).1))), (4, .int (nI v)), (5, .int (nI y)), (6, .int (nI k))]) hx hb dX8_which_155 rfl hl (by decide) rfl (fun ls hl => ?_)
                        refine lv_iload_n hx hb dX8_which_156 rfl (lv_at hl 3 rfl) ?_
                        refine lv_iload hx hb dX8_which_157 (lv_at hl 5 rfl) ?_
                        refine nv_zeq (x := y) (tgt := 166) hx hb dX8_which_159 (by decide) (by omega) (fun c159 => ?_) (fun c159 => ?_)
                        · exact absurd c159 c142
                        · refine lv_iconst (v := (nI 1)) hx hb dX8_which_162 (by decide) ?_
                          refine lv_goto (tgt := 167) hx hb dX8_which_163 (by decide) ?_
                          refine lv_iadd hx hb dX8_which_167 (ti (y := (nI (((mwS (mesN (sf sv) (sg sv) (sc sv) (sv 6) (sv 1) (sv 0) (clo (sf sv) (sg sv) (sv 5) (sv 1) (sv 2)) aw) fa (z 8) (sv 2) (sv 4) v).1) + 1))) (nI_add _ _) ?_)
                          refine lv_istore_n (lv' := [(2, .int (nI (((mwS (mesN (sf sv) (sg sv) (sc sv) (sv 6) (sv 1) (sv 0) (clo (sf sv) (sg sv) (sv 5) (sv 1) (sv 2)) aw) fa (z 8) (sv 2) (sv 4) v).1) + 1))), (3, .int (oN ((mwS (mesN (sf sv) (sg sv) (sc sv) (sv 6) (sv 1) (sv 0) (clo (sf sv) (sg sv) (sv 5) (sv 1) (sv 2)) aw) fa (z 8) (sv 2) (sv 4) v).2))), (0, .ref (ad 0)), (1, .int (nI 1)), (4, .int (nI v)), (5, .int (nI y)), (6, .int (nI k))]) hx hb dX8_which_168 rfl hl (by decide) rfl (fun ls hl => ?_)
                          refine lv_iinc (v := (nI (v + 1))) (lv' := [(4, .int (nI (v + 1))), (2, .int (nI (((mwS (mesN (sf sv) (sg sv) (sc sv) (sv 6) (sv 1) (sv 0) (clo (sf sv) (sg sv) (sv 5) (sv 1) (sv 2)) aw) fa (z 8) (sv 2) (sv 4) v).1) + 1))), (3, .int (oN ((mwS (mesN (sf sv) (sg sv) (sc sv) (sv 6) (sv 1) (sv 0) (clo (sf sv) (sg sv) (sv 5) (sv 1) (sv 2)) aw) fa (z 8) (sv 2) (sv 4) v).2))), (0, .ref (ad 0)), (1, .int (nI 1)), (5, .int (nI y)), (6, .int (nI k))]) hx hb dX8_which_169 hl (k := 4) rfl (qn_inc _) (by decide) rfl (fun ls hl => ?_)
                          refine lv_goto (tgt := 38) hx hb dX8_which_172 (by decide) ?_
                          exact ih38 (v + 1) (((mwS (mesN (sf sv) (sg sv) (sc sv) (sv 6) (sv 1) (sv 0) (clo (sf sv) (sg sv) (sv 5) (sv 1) (sv 2)) aw) fa (z 8) (sv 2) (sv 4) v).1) + 1) ((mwS (mesN (sf sv) (sg sv) (sc sv) (sv 6) (sv 1) (sv 0) (clo (sf sv) (sg sv) (sv 5) (sv 1) (sv 2)) aw) fa (z 8) (sv 2) (sv 4) v).2) (by omega) (by have e8 : fiB (mesN (sf sv) (sg sv) (sc sv) (sv 6) (sv 1) (sv 0) (clo (sf sv) (sg sv) (sv 5) (sv 1) (sv 2)) aw) fa (z 8) (sv 2) (sv 4) v = true := hfi.mp (by omega); rw [mwS, if_pos e8] <;> rfl) (by have e8 : fiB (mesN (sf sv) (sg sv) (sc sv) (sv 6) (sv 1) (sv 0) (clo (sf sv) (sg sv) (sv 5) (sv 1) (sv 2)) aw) fa (z 8) (sv 2) (sv 4) v = true := hfi.mp (by omega); rw [mwS, if_pos e8, if_neg c146] <;> rfl) (by omega) _ _ hP hD hS ls (lv_sub hl [3, 4, 1, 2, 0] rfl)
                      · refine lv_iload hx hb dX8_which_149 (lv_at hl 4 rfl) ?_
                        refine lv_goto (tgt := 155) hx hb dX8_which_151 (by decide) ?_
                        refine lv_istore_n (lv' := [(3, .int (nI v)), (0, .ref (ad 0)), (1, .int (nI 1)), (2, .int (nI ((mwS (mesN (sf sv) (sg sv) (sc sv) (sv 6) (sv 1) (sv 0) (clo (sf sv) (sg sv) (sv 5) (sv 1) (sv 2)) aw) fa (z 8) (sv 2) (sv 4) v).1))), (4, .int (nI v)), (5, .int (nI y)), (6, .int (nI k))]) hx hb dX8_which_155 rfl hl (by decide) rfl (fun ls hl => ?_)
                        refine lv_iload_n hx hb dX8_which_156 rfl (lv_at hl 3 rfl) ?_
                        refine lv_iload hx hb dX8_which_157 (lv_at hl 5 rfl) ?_
                        refine nv_zeq (x := y) (tgt := 166) hx hb dX8_which_159 (by decide) (by omega) (fun c159 => ?_) (fun c159 => ?_)
                        · exact absurd c159 c142
                        · refine lv_iconst (v := (nI 1)) hx hb dX8_which_162 (by decide) ?_
                          refine lv_goto (tgt := 167) hx hb dX8_which_163 (by decide) ?_
                          refine lv_iadd hx hb dX8_which_167 (ti (y := (nI (((mwS (mesN (sf sv) (sg sv) (sc sv) (sv 6) (sv 1) (sv 0) (clo (sf sv) (sg sv) (sv 5) (sv 1) (sv 2)) aw) fa (z 8) (sv 2) (sv 4) v).1) + 1))) (nI_add _ _) ?_)
                          refine lv_istore_n (lv' := [(2, .int (nI (((mwS (mesN (sf sv) (sg sv) (sc sv) (sv 6) (sv 1) (sv 0) (clo (sf sv) (sg sv) (sv 5) (sv 1) (sv 2)) aw) fa (z 8) (sv 2) (sv 4) v).1) + 1))), (3, .int (nI v)), (0, .ref (ad 0)), (1, .int (nI 1)), (4, .int (nI v)), (5, .int (nI y)), (6, .int (nI k))]) hx hb dX8_which_168 rfl hl (by decide) rfl (fun ls hl => ?_)
                          refine lv_iinc (v := (nI (v + 1))) (lv' := [(4, .int (nI (v + 1))), (2, .int (nI (((mwS (mesN (sf sv) (sg sv) (sc sv) (sv 6) (sv 1) (sv 0) (clo (sf sv) (sg sv) (sv 5) (sv 1) (sv 2)) aw) fa (z 8) (sv 2) (sv 4) v).1) + 1))), (3, .int (nI v)), (0, .ref (ad 0)), (1, .int (nI 1)), (5, .int (nI y)), (6, .int (nI k))]) hx hb dX8_which_169 hl (k := 4) rfl (qn_inc _) (by decide) rfl (fun ls hl => ?_)
                          refine lv_goto (tgt := 38) hx hb dX8_which_172 (by decide) ?_
                          exact ih38 (v + 1) (((mwS (mesN (sf sv) (sg sv) (sc sv) (sv 6) (sv 1) (sv 0) (clo (sf sv) (sg sv) (sv 5) (sv 1) (sv 2)) aw) fa (z 8) (sv 2) (sv 4) v).1) + 1) (some v) (by omega) (by have e8 : fiB (mesN (sf sv) (sg sv) (sc sv) (sv 6) (sv 1) (sv 0) (clo (sf sv) (sg sv) (sv 5) (sv 1) (sv 2)) aw) fa (z 8) (sv 2) (sv 4) v = true := hfi.mp (by omega); rw [mwS, if_pos e8] <;> rfl) (by have e8 : fiB (mesN (sf sv) (sg sv) (sc sv) (sv 6) (sv 1) (sv 0) (clo (sf sv) (sg sv) (sv 5) (sv 1) (sv 2)) aw) fa (z 8) (sv 2) (sv 4) v = true := hfi.mp (by omega); rw [mwS, if_pos e8, if_pos c146] <;> rfl) (by omega) _ _ hP hD hS ls (lv_sub hl [3, 4, 1, 2, 0] rfl)
                  · refine lv_iload hx hb dX8_which_93 (lv_at hl 5 rfl) ?_
                    refine nv_zeq (x := y) (tgt := 140) hx hb dX8_which_95 (by decide) (by omega) (fun c95 => ?_) (fun c95 => ?_)
                    · have hfi : y = 1 ↔ fiB (mesN (sf sv) (sg sv) (sc sv) (sv 6) (sv 1) (sv 0) (clo (sf sv) (sg sv) (sv 5) (sv 1) (sv 2)) aw) fa (z 8) (sv 2) (sv 4) v = true := by have hn : ¬ ((v ≠ sv 2 ∧ (sv 4).testBit v = false) ∧ fuB (mesN (sf sv) (sg sv) (sc sv) (sv 6) (sv 1) (sv 0) (clo (sf sv) (sg sv) (sv 5) (sv 1) (sv 2)) aw) fa v k = true) := fun h => absurd (hyy.mpr h) (by omega); refine ⟨fun h => absurd h (by omega), fun h => ?_⟩; unfold fiB at h; simp only [Bool.and_eq_true, decide_eq_true_eq, Bool.not_eq_true'] at h; exfalso; cases hf : fuB (mesN (sf sv) (sg sv) (sc sv) (sv 6) (sv 1) (sv 0) (clo (sf sv) (sg sv) (sv 5) (sv 1) (sv 2)) aw) fa v k with | false => exact absurd (fuB_no hf (z 8) (by omega)) (by rw [h.2]; decide) | true => exact hn ⟨h.1, hf⟩
                      refine lv_iload hx hb dX8_which_140 (lv_at hl 5 rfl) ?_
                      refine nv_zeq (x := y) (tgt := 154) hx hb dX8_which_142 (by decide) (by omega) (fun c142 => ?_) (fun c142 => ?_)
                      · refine lv_iload_n hx hb dX8_which_154 rfl (lv_at hl 3 rfl) ?_
                        refine lv_istore_n (lv' := [(3, .int (oN ((mwS (mesN (sf sv) (sg sv) (sc sv) (sv 6) (sv 1) (sv 0) (clo (sf sv) (sg sv) (sv 5) (sv 1) (sv 2)) aw) fa (z 8) (sv 2) (sv 4) v).2))), (0, .ref (ad 0)), (1, .int (nI 1)), (2, .int (nI ((mwS (mesN (sf sv) (sg sv) (sc sv) (sv 6) (sv 1) (sv 0) (clo (sf sv) (sg sv) (sv 5) (sv 1) (sv 2)) aw) fa (z 8) (sv 2) (sv 4) v).1))), (4, .int (nI v)), (5, .int (nI y)), (6, .int (nI k))]) hx hb dX8_which_155 rfl hl (by decide) rfl (fun ls hl => ?_)
                        refine lv_iload_n hx hb dX8_which_156 rfl (lv_at hl 3 rfl) ?_
                        refine lv_iload hx hb dX8_which_157 (lv_at hl 5 rfl) ?_
                        refine nv_zeq (x := y) (tgt := 166) hx hb dX8_which_159 (by decide) (by omega) (fun c159 => ?_) (fun c159 => ?_)
                        · refine lv_iconst (v := (nI 0)) hx hb dX8_which_166 (by decide) ?_
                          refine lv_iadd hx hb dX8_which_167 (ti (y := (nI (((mwS (mesN (sf sv) (sg sv) (sc sv) (sv 6) (sv 1) (sv 0) (clo (sf sv) (sg sv) (sv 5) (sv 1) (sv 2)) aw) fa (z 8) (sv 2) (sv 4) v).1) + 0))) (nI_add _ _) ?_)
                          refine lv_istore_n (lv' := [(2, .int (nI (((mwS (mesN (sf sv) (sg sv) (sc sv) (sv 6) (sv 1) (sv 0) (clo (sf sv) (sg sv) (sv 5) (sv 1) (sv 2)) aw) fa (z 8) (sv 2) (sv 4) v).1) + 0))), (3, .int (oN ((mwS (mesN (sf sv) (sg sv) (sc sv) (sv 6) (sv 1) (sv 0) (clo (sf sv) (sg sv) (sv 5) (sv 1) (sv 2)) aw) fa (z 8) (sv 2) (sv 4) v).2))), (0, .ref (ad 0)), (1, .int (nI 1)), (4, .int (nI v)), (5, .int (nI y)), (6, .int (nI k))]) hx hb dX8_which_168 rfl hl (by decide) rfl (fun ls hl => ?_)
                          refine lv_iinc (v := (nI (v + 1))) (lv' := [(4, .int (nI (v + 1))), (2, .int (nI (((mwS (mesN (sf sv) (sg sv) (sc sv) (sv 6) (sv 1) (sv 0) (clo (sf sv) (sg sv) (sv 5) (sv 1) (sv 2)) aw) fa (z 8) (sv 2) (sv 4) v).1) + 0))), (3, .int (oN ((mwS (mesN (sf sv) (sg sv) (sc sv) (sv 6) (sv 1) (sv 0) (clo (sf sv) (sg sv) (sv 5) (sv 1) (sv 2)) aw) fa (z 8) (sv 2) (sv 4) v).2))), (0, .ref (ad 0)), (1, .int (nI 1)), (5, .int (nI y)), (6, .int (nI k))]) hx hb dX8_which_169 hl (k := 4) rfl (qn_inc _) (by decide) rfl (fun ls hl => ?_)
                          refine lv_goto (tgt := 38) hx hb dX8_which_172 (by decide) ?_
                          exact ih38 (v + 1) (((mwS (mesN (sf sv) (sg sv) (sc sv) (sv 6) (sv 1) (sv 0) (clo (sf sv) (sg sv) (sv 5) (sv 1) (sv 2)) aw) fa (z 8) (sv 2) (sv 4) v).1) + 0) ((mwS (mesN (sf sv) (sg sv) (sc sv) (sv 6) (sv 1) (sv 0) (clo (sf sv) (sg sv) (sv 5) (sv 1) (sv 2)) aw) fa (z 8) (sv 2) (sv 4) v).2) (by omega) (by have e8 : ¬ fiB (mesN (sf sv) (sg sv) (sc sv) (sv 6) (sv 1) (sv 0) (clo (sf sv) (sg sv) (sv 5) (sv 1) (sv 2)) aw) fa (z 8) (sv 2) (sv 4) v = true := fun h => absurd (hfi.mpr h) (by omega); rw [mwS, if_neg e8] <;> rfl) (by have e8 : ¬ fiB (mesN (sf sv) (sg sv) (sc sv) (sv 6) (sv 1) (sv 0) (clo (sf sv) (sg sv) (sv 5) (sv 1) (sv 2)) aw) fa (z 8) (sv 2) (sv 4) v = true := fun h => absurd (hfi.mpr h) (by omega); rw [mwS, if_neg e8] <;> rfl) (by omega) _ _ hP hD hS ls (lv_sub hl [3, 4, 1, 2, 0] rfl)
                        · exact absurd c142 c159
                      · refine lv_iload_n hx hb dX8_which_145 rfl (lv_at hl 2 rfl) ?_
                        refine nv_zne (x := (mwS (mesN (sf sv) (sg sv) (sc sv) (sv 6) (sv 1) (sv 0) (clo (sf sv) (sg sv) (sv 5) (sv 1) (sv 2)) aw) fa (z 8) (sv 2) (sv 4) v).1) (tgt := 154) hx hb dX8_which_146 (by decide) (by have := mwS_le (mesN (sf sv) (sg sv) (sc sv) (sv 6) (sv 1) (sv 0) (clo (sf sv) (sg sv) (sv 5) (sv 1) (sv 2)) aw) fa (z 8) (sv 2) (sv 4) v; omega) (fun c146 => ?_) (fun c146 => ?_)
                        · refine lv_iload_n hx hb dX8_which_154 rfl (lv_at hl 3 rfl) ?_
                          refine lv_istore_n (lv' := [(3, .int (oN ((mwS (mesN (sf sv) (sg sv) (sc sv) (sv 6) (sv 1) (sv 0) (clo (sf sv) (sg sv) (sv 5) (sv 1) (sv 2)) aw) fa (z 8) (sv 2) (sv 4) v).2))), (0, .ref (ad 0)), (1, .int (nI 1)), (2, .int (nI ((mwS (mesN (sf sv) (sg sv) (sc sv) (sv 6) (sv 1) (sv 0) (clo (sf sv) (sg sv) (sv 5) (sv 1) (sv 2)) aw) fa (z 8) (sv 2) (sv 4) v).1))), (4, .int (nI v)), (5, .int (nI y)), (6, .int (nI k))]) hx hb dX8_which_155 rfl hl (by decide) rfl (fun ls hl => ?_)
                          refine lv_iload_n hx hb dX8_which_156 rfl (lv_at hl 3 rfl) ?_
                          refine lv_iload hx hb dX8_which_157 (lv_at hl 5 rfl) ?_
                          refine nv_zeq (x := y) (tgt := 166) hx hb dX8_which_159 (by decide) (by omega) (fun c159 => ?_) (fun c159 => ?_)
                          · exact absurd c159 c142
                          · refine lv_iconst (v := (nI 1)) hx hb dX8_which_162 (by decide) ?_
                            refine lv_goto (tgt := 167) hx hb dX8_which_163 (by decide) ?_
                            refine lv_iadd hx hb dX8_which_167 (ti (y := (nI (((mwS (mesN (sf sv) (sg sv) (sc sv) (sv 6) (sv 1) (sv 0) (clo (sf sv) (sg sv) (sv 5) (sv 1) (sv 2)) aw) fa (z 8) (sv 2) (sv 4) v).1) + 1))) (nI_add _ _) ?_)
                            refine lv_istore_n (lv' := [(2, .int (nI (((mwS (mesN (sf sv) (sg sv) (sc sv) (sv 6) (sv 1) (sv 0) (clo (sf sv) (sg sv) (sv 5) (sv 1) (sv 2)) aw) fa (z 8) (sv 2) (sv 4) v).1) + 1))), (3, .int (oN ((mwS (mesN (sf sv) (sg sv) (sc sv) (sv 6) (sv 1) (sv 0) (clo (sf sv) (sg sv) (sv 5) (sv 1) (sv 2)) aw) fa (z 8) (sv 2) (sv 4) v).2))), (0, .ref (ad 0)), (1, .int (nI 1)), (4, .int (nI v)), (5, .int (nI y)), (6, .int (nI k))]) hx hb dX8_which_168 rfl hl (by decide) rfl (fun ls hl => ?_)
                            refine lv_iinc (v := (nI (v + 1))) (lv' := [(4, .int (nI (v + 1))), (2, .int (nI (((mwS (mesN (sf sv) (sg sv) (sc sv) (sv 6) (sv 1) (sv 0) (clo (sf sv) (sg sv) (sv 5) (sv 1) (sv 2)) aw) fa (z 8) (sv 2) (sv 4) v).1) + 1))), (3, .int (oN ((mwS (mesN (sf sv) (sg sv) (sc sv) (sv 6) (sv 1) (sv 0) (clo (sf sv) (sg sv) (sv 5) (sv 1) (sv 2)) aw) fa (z 8) (sv 2) (sv 4) v).2))), (0, .ref (ad 0)), (1, .int (nI 1)), (5, .int (nI y)), (6, .int (nI k))]) hx hb dX8_which_169 hl (k := 4) rfl (qn_inc _) (by decide) rfl (fun ls hl => ?_)
                            refine lv_goto (tgt := 38) hx hb dX8_which_172 (by decide) ?_
                            exact ih38 (v + 1) (((mwS (mesN (sf sv) (sg sv) (sc sv) (sv 6) (sv 1) (sv 0) (clo (sf sv) (sg sv) (sv 5) (sv 1) (sv 2)) aw) fa (z 8) (sv 2) (sv 4) v).1) + 1) ((mwS (mesN (sf sv) (sg sv) (sc sv) (sv 6) (sv 1) (sv 0) (clo (sf sv) (sg sv) (sv 5) (sv 1) (sv 2)) aw) fa (z 8) (sv 2) (sv 4) v).2) (by omega) (by have e8 : fiB (mesN (sf sv) (sg sv) (sc sv) (sv 6) (sv 1) (sv 0) (clo (sf sv) (sg sv) (sv 5) (sv 1) (sv 2)) aw) fa (z 8) (sv 2) (sv 4) v = true := hfi.mp (by omega); rw [mwS, if_pos e8] <;> rfl) (by have e8 : fiB (mesN (sf sv) (sg sv) (sc sv) (sv 6) (sv 1) (sv 0) (clo (sf sv) (sg sv) (sv 5) (sv 1) (sv 2)) aw) fa (z 8) (sv 2) (sv 4) v = true := hfi.mp (by omega); rw [mwS, if_pos e8, if_neg c146] <;> rfl) (by omega) _ _ hP hD hS ls (lv_sub hl [3, 4, 1, 2, 0] rfl)
                        · refine lv_iload hx hb dX8_which_149 (lv_at hl 4 rfl) ?_
                          refine lv_goto (tgt := 155) hx hb dX8_which_151 (by decide) ?_
                          refine lv_istore_n (lv' := [(3, .int (nI v)), (0, .ref (ad 0)), (1, .int (nI 1)), (2, .int (nI ((mwS (mesN (sf sv) (sg sv) (sc sv) (sv 6) (sv 1) (sv 0) (clo (sf sv) (sg sv) (sv 5) (sv 1) (sv 2)) aw) fa (z 8) (sv 2) (sv 4) v).1))), (4, .int (nI v)), (5, .int (nI y)), (6, .int (nI k))]) hx hb dX8_which_155 rfl hl (by decide) rfl (fun ls hl => ?_)
                          refine lv_iload_n hx hb dX8_which_156 rfl (lv_at hl 3 rfl) ?_
                          refine lv_iload hx hb dX8_which_157 (lv_at hl 5 rfl) ?_
                          refine nv_zeq (x := y) (tgt := 166) hx hb dX8_which_159 (by decide) (by omega) (fun c159 => ?_) (fun c159 => ?_)
                          · exact absurd c159 c142
                          · refine lv_iconst (v := (nI 1)) hx hb dX8_which_162 (by decide) ?_
                            refine lv_goto (tgt := 167) hx hb dX8_which_163 (by decide) ?_
                            refine lv_iadd hx hb dX8_which_167 (ti (y := (nI (((mwS (mesN (sf sv) (sg sv) (sc sv) (sv 6) (sv 1) (sv 0) (clo (sf sv) (sg sv) (sv 5) (sv 1) (sv 2)) aw) fa (z 8) (sv 2) (sv 4) v).1) + 1))) (nI_add _ _) ?_)
                            refine lv_istore_n (lv' := [(2, .int (nI (((mwS (mesN (sf sv) (sg sv) (sc sv) (sv 6) (sv 1) (sv 0) (clo (sf sv) (sg sv) (sv 5) (sv 1) (sv 2)) aw) fa (z 8) (sv 2) (sv 4) v).1) + 1))), (3, .int (nI v)), (0, .ref (ad 0)), (1, .int (nI 1)), (4, .int (nI v)), (5, .int (nI y)), (6, .int (nI k))]) hx hb dX8_which_168 rfl hl (by decide) rfl (fun ls hl => ?_)
                            refine lv_iinc (v := (nI (v + 1))) (lv' := [(4, .int (nI (v + 1))), (2, .int (nI (((mwS (mesN (sf sv) (sg sv) (sc sv) (sv 6) (sv 1) (sv 0) (clo (sf sv) (sg sv) (sv 5) (sv 1) (sv 2)) aw) fa (z 8) (sv 2) (sv 4) v).1) + 1))), (3, .int (nI v)), (0, .ref (ad 0)), (1, .int (nI 1)), (5, .int (nI y)), (6, .int (nI k))]) hx hb dX8_which_169 hl (k := 4) rfl (qn_inc _) (by decide) rfl (fun ls hl => ?_)
                            refine lv_goto (tgt := 38) hx hb dX8_which_172 (by decide) ?_
                            exact ih38 (v + 1) (((mwS (mesN (sf sv) (sg sv) (sc sv) (sv 6) (sv 1) (sv 0) (clo (sf sv) (sg sv) (sv 5) (sv 1) (sv 2)) aw) fa (z 8) (sv 2) (sv 4) v).1) + 1) (some v) (by omega) (by have e8 : fiB (mesN (sf sv) (sg sv) (sc sv) (sv 6) (sv 1) (sv 0) (clo (sf sv) (sg sv) (sv 5) (sv 1) (sv 2)) aw) fa (z 8) (sv 2) (sv 4) v = true := hfi.mp (by omega); rw [mwS, if_pos e8] <;> rfl) (by have e8 : fiB (mesN (sf sv) (sg sv) (sc sv) (sv 6) (sv 1) (sv 0) (clo (sf sv) (sg sv) (sv 5) (sv 1) (sv 2)) aw) fa (z 8) (sv 2) (sv 4) v = true := hfi.mp (by omega); rw [mwS, if_pos e8, if_pos c146] <;> rfl) (by omega) _ _ hP hD hS ls (lv_sub hl [3, 4, 1, 2, 0] rfl)
                    · refine lv_aload_n hx hb dX8_which_98 rfl (lv_at hl 0 rfl) ?_
                      refine lv_iload hx hb dX8_which_99 (lv_at hl 4 rfl) ?_
                      refine lv_aload_n hx hb dX8_which_101 rfl (lv_at hl 0 rfl) ?_
                      refine va_get (D := G.1) (ci := 7) (v := .ref (ad 6)) (C := RX8) (T := TX8) (N := 17) hx hb hts inA8 hown hX.1 hP 0 rfl rfl 7 (by decide) (hts _ kw_687) (fun _ h9 => h9) rfl dX8_which_102 ?_
                      refine lv_iconst (v := (nI 2)) hx hb dX8_which_105 (by decide) ?_
                      refine lv_iload hx hb dX8_which_106 (lv_at hl 6 rfl) ?_
                      refine lv_imul hx hb dX8_which_108 (ti (y := (nI (2 * k))) (pk_mul _ _) ?_)
                      refine nv_aldI (f := fa) (k := 2 * k) hx hb hX hP 6 rfl (by omega) (by decide) dX8_which_109 ?_
                      refine ca_Vi (ci := 7) (q := (RX8, TX8, 17)) (rest := []) (wr := ([] : va_W)) F hX (mX8_away l G ad z fo sv d pa ke ik fa te (mesN (sf sv) (sg sv) (sc sv) (sv 6) (sv 1) (sv 0) (clo (sf sv) (sg sv) (sv 5) (sv 1) (sv 2)) aw) v (fa (2 * k)) hml9 (by omega)) (cA_V hts kw_901 kw_8 kw_898 kw_900 kp_46 hdX8_away ⟨Nat.le_of_ble_eq_true rfl, Nat.le_of_ble_eq_true rfl⟩) rfl rfl rfl hl.1 rfl (Nat.le_of_ble_eq_true rfl) dX8_which_110 ⟨Nat.le_of_ble_eq_true rfl, Nat.le_of_ble_eq_true rfl⟩ hP hD hS hA (pm_nil _) (fun r110 u110 H locs hp110 hP hD hS => ?_)
                      have hP : va_P G.1 vwCl (mow G ad z fo sv d pa ke ik fa te (mesN (sf sv) (sg sv) (sc sv) (sv 6) (sv 1) (sv 0) (clo (sf sv) (sg sv) (sv 5) (sv 1) (sv 2)) aw)) H := wp_pm (pm_nil _).symm hP
                      have hD : va_D A (mow G ad z fo sv d pa ke ik fa te (mesN (sf sv) (sg sv) (sc sv) (sv 6) (sv 1) (sv 0) (clo (sf sv) (sg sv) (sv 5) (sv 1) (sv 2)) aw)) := wd_pm (pm_nil _).symm hD
                      subst hp110
                      refine lv_aload_n hx hb dX8_which_113 rfl (lv_at hl 0 rfl) ?_
                      refine va_get (D := G.1) (ci := 7) (v := .ref (ad 6)) (C := RX8) (T := TX8) (N := 17) hx hb hts inA8 hown hX.1 hP 0 rfl rfl 7 (by decide) (hts _ kw_687) (fun _ h9 => h9) rfl dX8_which_114 ?_
                      refine lv_iconst (v := (nI 2)) hx hb dX8_which_117 (by decide) ?_
                      refine lv_iload hx hb dX8_which_118 (lv_at hl 6 rfl) ?_
                      refine lv_imul hx hb dX8_which_120 (ti (y := (nI (2 * k))) (pk_mul _ _) ?_)
                      refine lv_iconst (v := (nI 1)) hx hb dX8_which_121 (by decide) ?_
                      refine lv_iadd hx hb dX8_which_122 (ti (y := (nI ((2 * k) + 1))) (nI_add _ _) ?_)
                      refine nv_aldI (f := fa) (k := (2 * k) + 1) hx hb hX hP 6 rfl (by omega) (by decide) dX8_which_123 ?_
                      refine lv_icmp_ne (x := (oN (mawI (mesN (sf sv) (sg sv) (sc sv) (sv 6) (sv 1) (sv 0) (clo (sf sv) (sg sv) (sv 5) (sv 1) (sv 2)) aw) v (fa (2 * k))))) (y := (fa ((2 * k) + 1))) (tgt := 131) hx hb dX8_which_124 (by decide) (fun c124 => ?_) (fun c124 => ?_)
                      · refine lv_iconst (v := (nI 0)) hx hb dX8_which_131 (by decide) ?_
                        refine lv_istore (lv' := [(5, .int (nI 0)), (0, .ref (ad 0)), (1, .int (nI 1)), (2, .int (nI ((mwS (mesN (sf sv) (sg sv) (sc sv) (sv 6) (sv 1) (sv 0) (clo (sf sv) (sg sv) (sv 5) (sv 1) (sv 2)) aw) fa (z 8) (sv 2) (sv 4) v).1))), (3, .int (oN ((mwS (mesN (sf sv) (sg sv) (sc sv) (sv 6) (sv 1) (sv 0) (clo (sf sv) (sg sv) (sv 5) (sv 1) (sv 2)) aw) fa (z 8) (sv 2) (sv 4) v).2))), (4, .int (nI v)), (6, .int (nI k))]) hx hb dX8_which_132 hl (by decide) rfl (fun ls hl => ?_)
                        refine lv_iinc (v := (nI (k + 1))) (lv' := [(6, .int (nI (k + 1))), (5, .int (nI 0)), (0, .ref (ad 0)), (1, .int (nI 1)), (2, .int (nI ((mwS (mesN (sf sv) (sg sv) (sc sv) (sv 6) (sv 1) (sv 0) (clo (sf sv) (sg sv) (sv 5) (sv 1) (sv 2)) aw) fa (z 8) (sv 2) (sv 4) v).1))), (3, .int (oN ((mwS (mesN (sf sv) (sg sv) (sc sv) (sv 6) (sv 1) (sv 0) (clo (sf sv) (sg sv) (sv 5) (sv 1) (sv 2)) aw) fa (z 8) (sv 2) (sv 4) v).2))), (4, .int (nI v))]) hx hb dX8_which_134 hl (k := 6) rfl (qn_inc _) (by decide) rfl (fun ls hl => ?_)
                        refine lv_goto (tgt := 84) hx hb dX8_which_137 (by decide) ?_
                        exact ih84 (k + 1) 0 (by omega) (by omega) (by omega) ⟨fun h => absurd h (by decide), fun h => by rw [fuB, decide_eq_false c124, Bool.and_false] at h; exact absurd h.2 (by decide)⟩ _ _ hP hD hS ls (lv_sub hl [2, 3, 4, 5, 6, 1, 0] rfl)
                      · refine lv_iconst (v := (nI 1)) hx hb dX8_which_127 (by decide) ?_
                        refine lv_goto (tgt := 132) hx hb dX8_which_128 (by decide) ?_
                        refine lv_istore (lv' := [(5, .int (nI 1)), (0, .ref (ad 0)), (1, .int (nI 1)), (2, .int (nI ((mwS (mesN (sf sv) (sg sv) (sc sv) (sv 6) (sv 1) (sv 0) (clo (sf sv) (sg sv) (sv 5) (sv 1) (sv 2)) aw) fa (z 8) (sv 2) (sv 4) v).1))), (3, .int (oN ((mwS (mesN (sf sv) (sg sv) (sc sv) (sv 6) (sv 1) (sv 0) (clo (sf sv) (sg sv) (sv 5) (sv 1) (sv 2)) aw) fa (z 8) (sv 2) (sv 4) v).2))), (4, .int (nI v)), (6, .int (nI k))]) hx hb dX8_which_132 hl (by decide) rfl (fun ls hl => ?_)
                        refine lv_iinc (v := (nI (k + 1))) (lv' := [(6, .int (nI (k + 1))), (5, .int (nI 1)), (0, .ref (ad 0)), (1, .int (nI 1)), (2, .int (nI ((mwS (mesN (sf sv) (sg sv) (sc sv) (sv 6) (sv 1) (sv 0) (clo (sf sv) (sg sv) (sv 5) (sv 1) (sv 2)) aw) fa (z 8) (sv 2) (sv 4) v).1))), (3, .int (oN ((mwS (mesN (sf sv) (sg sv) (sc sv) (sv 6) (sv 1) (sv 0) (clo (sf sv) (sg sv) (sv 5) (sv 1) (sv 2)) aw) fa (z 8) (sv 2) (sv 4) v).2))), (4, .int (nI v))]) hx hb dX8_which_134 hl (k := 6) rfl (qn_inc _) (by decide) rfl (fun ls hl => ?_)
                        refine lv_goto (tgt := 84) hx hb dX8_which_137 (by decide) ?_
                        exact ih84 (k + 1) 1 (by omega) (by omega) (by omega) ⟨fun _ => by rw [fuB, decide_eq_true c124, Bool.and_true]; exact hyy.mp (by omega), fun _ => rfl⟩ _ _ hP hD hS ls (lv_sub hl [2, 3, 4, 5, 6, 1, 0] rfl)
              exact lp84 _ 0 0 (Nat.lt_succ_self _) (Nat.zero_le _) (by omega) ⟨fun h => absurd h (by decide), fun h => absurd (c71.symm.trans h.1.2) (by decide)⟩ _ _ hP hD hS ls (lv_sub hl [2, 3, 4, 5, 6, 1, 0] rfl)
            · refine lv_iconst (v := (nI 1)) hx hb dX8_which_74 (by decide) ?_
              refine lv_goto (tgt := 79) hx hb dX8_which_75 (by decide) ?_
              refine lv_istore (lv' := [(5, .int (nI 1)), (0, .ref (ad 0)), (1, .int (nI 1)), (2, .int (nI ((mwS (mesN (sf sv) (sg sv) (sc sv) (sv 6) (sv 1) (sv 0) (clo (sf sv) (sg sv) (sv 5) (sv 1) (sv 2)) aw) fa (z 8) (sv 2) (sv 4) v).1))), (3, .int (oN ((mwS (mesN (sf sv) (sg sv) (sc sv) (sv 6) (sv 1) (sv 0) (clo (sf sv) (sg sv) (sv 5) (sv 1) (sv 2)) aw) fa (z 8) (sv 2) (sv 4) v).2))), (4, .int (nI v))]) hx hb dX8_which_79 hl (by decide) rfl (fun ls hl => ?_)
              refine lv_iconst (v := (nI 0)) hx hb dX8_which_81 (by decide) ?_
              refine lv_istore (lv' := [(6, .int (nI 0)), (5, .int (nI 1)), (0, .ref (ad 0)), (1, .int (nI 1)), (2, .int (nI ((mwS (mesN (sf sv) (sg sv) (sc sv) (sv 6) (sv 1) (sv 0) (clo (sf sv) (sg sv) (sv 5) (sv 1) (sv 2)) aw) fa (z 8) (sv 2) (sv 4) v).1))), (3, .int (oN ((mwS (mesN (sf sv) (sg sv) (sc sv) (sv 6) (sv 1) (sv 0) (clo (sf sv) (sg sv) (sv 5) (sv 1) (sv 2)) aw) fa (z 8) (sv 2) (sv 4) v).2))), (4, .int (nI v))]) hx hb dX8_which_82 hl (by decide) rfl (fun ls hl => ?_)
              have lp84 : ∀ (n84 : Nat) (k : Nat) (y : Nat), (z 8 - k) < n84 → (k ≤ z 8) → (y ≤ 1) → (y = 1 ↔ ((v ≠ sv 2 ∧ (sv 4).testBit v = false) ∧ fuB (mesN (sf sv) (sg sv) (sc sv) (sv 6) (sv 1) (sv 0) (clo (sf sv) (sg sv) (sv 5) (sv 1) (sv 2)) aw) fa v k = true)) → ∀ (H : Heap) (locs : List Loc), va_P G.1 vwCl (mow G ad z fo sv d pa ke ik fa te (mesN (sf sv) (sg sv) (sc sv) (sv 6) (sv 1) (sv 0) (clo (sf sv) (sg sv) (sv 5) (sv 1) (sv 2)) aw)) H → va_D A (mow G ad z fo sv d pa ke ik fa te (mesN (sf sv) (sg sv) (sc sv) (sv 6) (sv 1) (sv 0) (clo (sf sv) (sg sv) (sv 5) (sv 1) (sv 2)) aw)) → va_S A s.heap H locs → ∀ (ls : Array Slot), lv_has ls 7 [(0, .ref (ad 0)), (1, .int (nI 1)), (2, .int (nI ((mwS (mesN (sf sv) (sg sv) (sc sv) (sv 6) (sv 1) (sv 0) (clo (sf sv) (sg sv) (sv 5) (sv 1) (sv 2)) aw) fa (z 8) (sv 2) (sv 4) v).1))), (3, .int (oN ((mwS (mesN (sf sv) (sg sv) (sc sv) (sv 6) (sv 1) (sv 0) (clo (sf sv) (sg sv) (sv 5) (sv 1) (sv 2)) aw) fa (z 8) (sv 2) (sv 4) v).2))), (4, .int (nI v)), (5, .int (nI y)), (6, .int (nI k))] → WI p l e (rmN 2 47) s m [.ref (ad 0), .int (nI 1)] below meth c H locs G A (fun (r9 : Int32) (_ : Unit) => r9 = (oN ((mwS (mesN (sf sv) (sg sv) (sc sv) (sv 6) (sv 1) (sv 0) (clo (sf sv) (sg sv) (sv 5) (sv 1) (sv 2)) aw) fa (z 8) (sv 2) (sv 4) (sv 0)).2))) (fun (_ : Unit) => mow G ad z fo sv d pa ke ik fa te (mesN (sf sv) (sg sv) (sc sv) (sv 6) (sv 1) (sv 0) (clo (sf sv) (sg sv) (sv 5) (sv 1) (sv 2)) aw)) (F0 m 84 ls []) := by
                intro n84
                induction n84 with
                | zero => intro k y h9; exact absurd h9 (Nat.not_lt_zero _)
                | succ n84 ih84 =>
                  intro k y hm84  hk hy1 hyy H locs hP hD hS ls hl
                  refine lv_iload hx hb dX8_which_84 (lv_at hl 6 rfl) ?_
                  refine lv_aload_n hx hb dX8_which_86 rfl (lv_at hl 0 rfl) ?_
                  refine va_get (D := G.1) (ci := 7) (v := .int (nI (z 8))) (C := RX8) (T := TX8) (N := 17) hx hb hts inA8 hown hX.1 hP 0 rfl rfl 8 (by decide) (hts _ kw_688) (fun _ h9 => h9) rfl dX8_which_87 ?_
                  refine nv_ge (x := k) (y := z 8) (tgt := 140) hx hb dX8_which_90 (by decide) (by omega) (by omega) (fun c90 => ?_) (fun c90 => ?_)
                  · have hfi : y = 1 ↔ fiB (mesN (sf sv) (sg sv) (sc sv) (sv 6) (sv 1) (sv 0) (clo (sf sv) (sg sv) (sv 5) (sv 1) (sv 2)) aw) fa (z 8) (sv 2) (sv 4) v = true := by have ek : k = z 8 := (by omega); rw [ek] at hyy; unfold fiB; rw [hyy]; simp [and_assoc]
                    refine lv_iload hx hb dX8_which_140 (lv_at hl 5 rfl) ?_
                    refine nv_zeq (x := y) (tgt := 154) hx hb dX8_which_142 (by decide) (by omega) (fun c142 => ?_) (fun c142 => ?_)
                    · refine lv_iload_n hx hb dX8_which_154 rfl (lv_at hl 3 rfl) ?_
                      refine lv_istore_n (lv' := [(3, .int (oN ((mwS (mesN (sf sv) (sg sv) (sc sv) (sv 6) (sv 1) (sv 0) (clo (sf sv) (sg sv) (sv 5) (sv 1) (sv 2)) aw) fa (z 8) (sv 2) (sv 4) v).2))), (0, .ref (ad 0)), (1, .int (nI 1)), (2, .int (nI ((mwS (mesN (sf sv) (sg sv) (sc sv) (sv 6) (sv 1) (sv 0) (clo (sf sv) (sg sv) (sv 5) (sv 1) (sv 2)) aw) fa (z 8) (sv 2) (sv 4) v).1))), (4, .int (nI v)), (5, .int (nI y)), (6, .int (nI k))]) hx hb dX8_which_155 rfl hl (by decide) rfl (fun ls hl => ?_)
                      refine lv_iload_n hx hb dX8_which_156 rfl (lv_at hl 3 rfl) ?_
                      refine lv_iload hx hb dX8_which_157 (lv_at hl 5 rfl) ?_
                      refine nv_zeq (x := y) (tgt := 166) hx hb dX8_which_159 (by decide) (by omega) (fun c159 => ?_) (fun c159 => ?_)
                      · refine lv_iconst (v := (nI 0)) hx hb dX8_which_166 (by decide) ?_
                        refine lv_iadd hx hb dX8_which_167 (ti (y := (nI (((mwS (mesN (sf sv) (sg sv) (sc sv) (sv 6) (sv 1) (sv 0) (clo (sf sv) (sg sv) (sv 5) (sv 1) (sv 2)) aw) fa (z 8) (sv 2) (sv 4) v).1) + 0))) (nI_add _ _) ?_)
                        refine lv_istore_n (lv' := [(2, .int (nI (((mwS (mesN (sf sv) (sg sv) (sc sv) (sv 6) (sv 1) (sv 0) (clo (sf sv) (sg sv) (sv 5) (sv 1) (sv 2)) aw) fa (z 8) (sv 2) (sv 4) v).1) + 0))), (3, .int (oN ((mwS (mesN (sf sv) (sg sv) (sc sv) (sv 6) (sv 1) (sv 0) (clo (sf sv) (sg sv) (sv 5) (sv 1) (sv 2)) aw) fa (z 8) (sv 2) (sv 4) v).2))), (0, .ref (ad 0)), (1, .int (nI 1)), (4, .int (nI v)), (5, .int (nI y)), (6, .int (nI k))]) hx hb dX8_which_168 rfl hl (by decide) rfl (fun ls hl => ?_)
                        refine lv_iinc (v := (nI (v + 1))) (lv' := [(4, .int (nI (v + 1))), (2, .int (nI (((mwS (mesN (sf sv) (sg sv) (sc sv) (sv 6) (sv 1) (sv 0) (clo (sf sv) (sg sv) (sv 5) (sv 1) (sv 2)) aw) fa (z 8) (sv 2) (sv 4) v).1) + 0))), (3, .int (oN ((mwS (mesN (sf sv) (sg sv) (sc sv) (sv 6) (sv 1) (sv 0) (clo (sf sv) (sg sv) (sv 5) (sv 1) (sv 2)) aw) fa (z 8) (sv 2) (sv 4) v).2))), (0, .ref (ad 0)), (1, .int (nI 1)), (5, .int (nI y)), (6, .int (nI k))]) hx hb dX8_which_169 hl (k := 4) rfl (qn_inc _) (by decide) rfl (fun ls hl => ?_)
                        refine lv_goto (tgt := 38) hx hb dX8_which_172 (by decide) ?_
                        exact ih38 (v + 1) (((mwS (mesN (sf sv) (sg sv) (sc sv) (sv 6) (sv 1) (sv 0) (clo (sf sv) (sg sv) (sv 5) (sv 1) (sv 2)) aw) fa (z 8) (sv 2) (sv 4) v).1) + 0) ((mwS (mesN (sf sv) (sg sv) (sc sv) (sv 6) (sv 1) (sv 0) (clo (sf sv) (sg sv) (sv 5) (sv 1) (sv 2)) aw) fa (z 8) (sv 2) (sv 4) v).2) (by omega) (by have e8 : ¬ fiB (mesN (sf sv) (sg sv) (sc sv) (sv 6) (sv 1) (sv 0) (clo (sf sv) (sg sv) (sv 5) (sv 1) (sv 2)) aw) fa (z 8) (sv 2) (sv 4) v = true := fun h => absurd (hfi.mpr h) (by omega); rw [mwS, if_neg e8] <;> rfl) (by have e8 : ¬ fiB (mesN (sf sv) (sg sv) (sc sv) (sv 6) (sv 1) (sv 0) (clo (sf sv) (sg sv) (sv 5) (sv 1) (sv 2)) aw) fa (z 8) (sv 2) (sv 4) v = true := fun h => absurd (hfi.mpr h) (by omega); rw [mwS, if_neg e8] <;> rfl) (by omega) _ _ hP hD hS ls (lv_sub hl [3, 4, 1, 2, 0] rfl)
                      · exact absurd c142 c159
                    · refine lv_iload_n hx hb dX8_which_145 rfl (lv_at hl 2 rfl) ?_
                      refine nv_zne (x := (mwS (mesN (sf sv) (sg sv) (sc sv) (sv 6) (sv 1) (sv 0) (clo (sf sv) (sg sv) (sv 5) (sv 1) (sv 2)) aw) fa (z 8) (sv 2) (sv 4) v).1) (tgt := 154) hx hb dX8_which_146 (by decide) (by have := mwS_le (mesN (sf sv) (sg sv) (sc sv) (sv 6) (sv 1) (sv 0) (clo (sf sv) (sg sv) (sv 5) (sv 1) (sv 2)) aw) fa (z 8) (sv 2) (sv 4) v; omega) (fun c146 => ?_) (fun c146 => ?_)
                      · refine lv_iload_n hx hb dX8_which_154 rfl (lv_at hl 3 rfl) ?_
                        refine lv_istore_n (lv' := [(3, .int (oN ((mwS (mesN (sf sv) (sg sv) (sc sv) (sv 6) (sv 1) (sv 0) (clo (sf sv) (sg sv) (sv 5) (sv 1) (sv 2)) aw) fa (z 8) (sv 2) (sv 4) v).2))), (0, .ref (ad 0)), (1, .int (nI 1)), (2, .int (nI ((mwS (mesN (sf sv) (sg sv) (sc sv) (sv 6) (sv 1) (sv 0) (clo (sf sv) (sg sv) (sv 5) (sv 1) (sv 2)) aw) fa (z 8) (sv 2) (sv 4) v).1))), (4, .int (nI v)), (5, .int (nI y)), (6, .int (nI k))]) hx hb dX8_which_155 rfl hl (by decide) rfl (fun ls hl => ?_)
                        refine lv_iload_n hx hb dX8_which_156 rfl (lv_at hl 3 rfl) ?_
                        refine lv_iload hx hb dX8_which_157 (lv_at hl 5 rfl) ?_
                        refine nv_zeq (x := y) (tgt := 166) hx hb dX8_which_159 (by decide) (by omega) (fun c159 => ?_) (fun c159 => ?_)
                        · exact absurd c159 c142
                        · refine lv_iconst (v := (nI 1)) hx hb dX8_which_162 (by decide) ?_
                          refine lv_goto (tgt := 167) hx hb dX8_which_163 (by decide) ?_
                          refine lv_iadd hx hb dX8_which_167 (ti (y := (nI (((mwS (mesN (sf sv) (sg sv) (sc sv) (sv 6) (sv 1) (sv 0) (clo (sf sv) (sg sv) (sv 5) (sv 1) (sv 2)) aw) fa (z 8) (sv 2) (sv 4) v).1) + 1))) (nI_add _ _) ?_)
                          refine lv_istore_n (lv' := [(2, .int (nI (((mwS (mesN (sf sv) (sg sv) (sc sv) (sv 6) (sv 1) (sv 0) (clo (sf sv) (sg sv) (sv 5) (sv 1) (sv 2)) aw) fa (z 8) (sv 2) (sv 4) v).1) + 1))), (3, .int (oN ((mwS (mesN (sf sv) (sg sv) (sc sv) (sv 6) (sv 1) (sv 0) (clo (sf sv) (sg sv) (sv 5) (sv 1) (sv 2)) aw) fa (z 8) (sv 2) (sv 4) v).2))), (0, .ref (ad 0)), (1, .int (nI 1)), (4, .int (nI v)), (5, .int (nI y)), (6, .int (nI k))]) hx hb dX8_which_168 rfl hl (by decide) rfl (fun ls hl => ?_)
                          refine lv_iinc (v := (nI (v + 1))) (lv' := [(4, .int (nI (v + 1))), (2, .int (nI (((mwS (mesN (sf sv) (sg sv) (sc sv) (sv 6) (sv 1) (sv 0) (clo (sf sv) (sg sv) (sv 5) (sv 1) (sv 2)) aw) fa (z 8) (sv 2) (sv 4) v).1) + 1))), (3, .int (oN ((mwS (mesN (sf sv) (sg sv) (sc sv) (sv 6) (sv 1) (sv 0) (clo (sf sv) (sg sv) (sv 5) (sv 1) (sv 2)) aw) fa (z 8) (sv 2) (sv 4) v).2))), (0, .ref (ad 0)), (1, .int (nI 1)), (5, .int (nI y)), (6, .int (nI k))]) hx hb dX8_which_169 hl (k := 4) rfl (qn_inc _) (by decide) rfl (fun ls hl => ?_)
                          refine lv_goto (tgt := 38) hx hb dX8_which_172 (by decide) ?_
                          exact ih38 (v + 1) (((mwS (mesN (sf sv) (sg sv) (sc sv) (sv 6) (sv 1) (sv 0) (clo (sf sv) (sg sv) (sv 5) (sv 1) (sv 2)) aw) fa (z 8) (sv 2) (sv 4) v).1) + 1) ((mwS (mesN (sf sv) (sg sv) (sc sv) (sv 6) (sv 1) (sv 0) (clo (sf sv) (sg sv) (sv 5) (sv 1) (sv 2)) aw) fa (z 8) (sv 2) (sv 4) v).2) (by omega) (by have e8 : fiB (mesN (sf sv) (sg sv) (sc sv) (sv 6) (sv 1) (sv 0) (clo (sf sv) (sg sv) (sv 5) (sv 1) (sv 2)) aw) fa (z 8) (sv 2) (sv 4) v = true := hfi.mp (by omega); rw [mwS, if_pos e8] <;> rfl) (by have e8 : fiB (mesN (sf sv) (sg sv) (sc sv) (sv 6) (sv 1) (sv 0) (clo (sf sv) (sg sv) (sv 5) (sv 1) (sv 2)) aw) fa (z 8) (sv 2) (sv 4) v = true := hfi.mp (by omega); rw [mwS, if_pos e8, if_neg c146] <;> rfl) (by omega) _ _ hP hD hS ls (lv_sub hl [3, 4, 1, 2, 0] rfl)
                      · refine lv_iload hx hb dX8_which_149 (lv_at hl 4 rfl) ?_
                        refine lv_goto (tgt := 155) hx hb dX8_which_151 (by decide) ?_
                        refine lv_istore_n (lv' := [(3, .int (nI v)), (0, .ref (ad 0)), (1, .int (nI 1)), (2, .int (nI ((mwS (mesN (sf sv) (sg sv) (sc sv) (sv 6) (sv 1) (sv 0) (clo (sf sv) (sg sv) (sv 5) (sv 1) (sv 2)) aw) fa (z 8) (sv 2) (sv 4) v).1))), (4, .int (nI v)), (5, .int (nI y)), (6, .int (nI k))]) hx hb dX8_which_155 rfl hl (by decide) rfl (fun ls hl => ?_)
                        refine lv_iload_n hx hb dX8_which_156 rfl (lv_at hl 3 rfl) ?_
                        refine lv_iload hx hb dX8_which_157 (lv_at hl 5 rfl) ?_
                        refine nv_zeq (x := y) (tgt := 166) hx hb dX8_which_159 (by decide) (by omega) (fun c159 => ?_) (fun c159 => ?_)
                        · exact absurd c159 c142
                        · refine lv_iconst (v := (nI 1)) hx hb dX8_which_162 (by decide) ?_
                          refine lv_goto (tgt := 167) hx hb dX8_which_163 (by decide) ?_
                          refine lv_iadd hx hb dX8_which_167 (ti (y := (nI (((mwS (mesN (sf sv) (sg sv) (sc sv) (sv 6) (sv 1) (sv 0) (clo (sf sv) (sg sv) (sv 5) (sv 1) (sv 2)) aw) fa (z 8) (sv 2) (sv 4) v).1) + 1))) (nI_add _ _) ?_)
                          refine lv_istore_n (lv' := [(2, .int (nI (((mwS (mesN (sf sv) (sg sv) (sc sv) (sv 6) (sv 1) (sv 0) (clo (sf sv) (sg sv) (sv 5) (sv 1) (sv 2)) aw) fa (z 8) (sv 2) (sv 4) v).1) + 1))), (3, .int (nI v)), (0, .ref (ad 0)), (1, .int (nI 1)), (4, .int (nI v)), (5, .int (nI y)), (6, .int (nI k))]) hx hb dX8_which_168 rfl hl (by decide) rfl (fun ls hl => ?_)
                          refine lv_iinc (v := (nI (v + 1))) (lv' := [(4, .int (nI (v + 1))), (2, .int (nI (((mwS (mesN (sf sv) (sg sv) (sc sv) (sv 6) (sv 1) (sv 0) (clo (sf sv) (sg sv) (sv 5) (sv 1) (sv 2)) aw) fa (z 8) (sv 2) (sv 4) v).1) + 1))), (3, .int (nI v)), (0, .ref (ad 0)), (1, .int (nI 1)), (5, .int (nI y)), (6, .int (nI k))]) hx hb dX8_which_169 hl (k := 4) rfl (qn_inc _) (by decide) rfl (fun ls hl => ?_)
                          refine lv_goto (tgt := 38) hx hb dX8_which_172 (by decide) ?_
                          exact ih38 (v + 1) (((mwS (mesN (sf sv) (sg sv) (sc sv) (sv 6) (sv 1) (sv 0) (clo (sf sv) (sg sv) (sv 5) (sv 1) (sv 2)) aw) fa (z 8) (sv 2) (sv 4) v).1) + 1) (some v) (by omega) (by have e8 : fiB (mesN (sf sv) (sg sv) (sc sv) (sv 6) (sv 1) (sv 0) (clo (sf sv) (sg sv) (sv 5) (sv 1) (sv 2)) aw) fa (z 8) (sv 2) (sv 4) v = true := hfi.mp (by omega); rw [mwS, if_pos e8] <;> rfl) (by have e8 : fiB (mesN (sf sv) (sg sv) (sc sv) (sv 6) (sv 1) (sv 0) (clo (sf sv) (sg sv) (sv 5) (sv 1) (sv 2)) aw) fa (z 8) (sv 2) (sv 4) v = true := hfi.mp (by omega); rw [mwS, if_pos e8, if_pos c146] <;> rfl) (by omega) _ _ hP hD hS ls (lv_sub hl [3, 4, 1, 2, 0] rfl)
                  · refine lv_iload hx hb dX8_which_93 (lv_at hl 5 rfl) ?_
                    refine nv_zeq (x := y) (tgt := 140) hx hb dX8_which_95 (by decide) (by omega) (fun c95 => ?_) (fun c95 => ?_)
                    · have hfi : y = 1 ↔ fiB (mesN (sf sv) (sg sv) (sc sv) (sv 6) (sv 1) (sv 0) (clo (sf sv) (sg sv) (sv 5) (sv 1) (sv 2)) aw) fa (z 8) (sv 2) (sv 4) v = true := by have hn : ¬ ((v ≠ sv 2 ∧ (sv 4).testBit v = false) ∧ fuB (mesN (sf sv) (sg sv) (sc sv) (sv 6) (sv 1) (sv 0) (clo (sf sv) (sg sv) (sv 5) (sv 1) (sv 2)) aw) fa v k = true) := fun h => absurd (hyy.mpr h) (by omega); refine ⟨fun h => absurd h (by omega), fun h => ?_⟩; unfold fiB at h; simp only [Bool.and_eq_true, decide_eq_true_eq, Bool.not_eq_true'] at h; exfalso; cases hf : fuB (mesN (sf sv) (sg sv) (sc sv) (sv 6) (sv 1) (sv 0) (clo (sf sv) (sg sv) (sv 5) (sv 1) (sv 2)) aw) fa v k with | false => exact absurd (fuB_no hf (z 8) (by omega)) (by rw [h.2]; decide) | true => exact hn ⟨h.1, hf⟩
                      refine lv_iload hx hb dX8_which_140 (lv_at hl 5 rfl) ?_
                      refine nv_zeq (x := y) (tgt := 154) hx hb dX8_which_142 (by decide) (by omega) (fun c142 => ?_) (fun c142 => ?_)
                      · refine lv_iload_n hx hb dX8_which_154 rfl (lv_at hl 3 rfl) ?_
                        refine lv_istore_n (lv' := [(3, .int (oN ((mwS (mesN (sf sv) (sg sv) (sc sv) (sv 6) (sv 1) (sv 0) (clo (sf sv) (sg sv) (sv 5) (sv 1) (sv 2)) aw) fa (z 8) (sv 2) (sv 4) v).2))), (0, .ref (ad 0)), (1, .int (nI 1)), (2, .int (nI ((mwS (mesN (sf sv) (sg sv) (sc sv) (sv 6) (sv 1) (sv 0) (clo (sf sv) (sg sv) (sv 5) (sv 1) (sv 2)) aw) fa (z 8) (sv 2) (sv 4) v).1))), (4, .int (nI v)), (5, .int (nI y)), (6, .int (nI k))]) hx hb dX8_which_155 rfl hl (by decide) rfl (fun ls hl => ?_)
                        refine lv_iload_n hx hb dX8_which_156 rfl (lv_at hl 3 rfl) ?_
                        refine lv_iload hx hb dX8_which_157 (lv_at hl 5 rfl) ?_
                        refine nv_zeq (x := y) (tgt := 166) hx hb dX8_which_159 (by decide) (by omega) (fun c159 => ?_) (fun c159 => ?_)
                        · refine lv_iconst (v := (nI 0)) hx hb dX8_which_166 (by decide) ?_
                          refine lv_iadd hx hb dX8_which_167 (ti (y := (nI (((mwS (mesN (sf sv) (sg sv) (sc sv) (sv 6) (sv 1) (sv 0) (clo (sf sv) (sg sv) (sv 5) (sv 1) (sv 2)) aw) fa (z 8) (sv 2) (sv 4) v).1) + 0))) (nI_add _ _) ?_)
                          refine lv_istore_n (lv' := [(2, .int (nI (((mwS (mesN (sf sv) (sg sv) (sc sv) (sv 6) (sv 1) (sv 0) (clo (sf sv) (sg sv) (sv 5) (sv 1) (sv 2)) aw) fa (z 8) (sv 2) (sv 4) v).1) + 0))), (3, .int (oN ((mwS (mesN (sf sv) (sg sv) (sc sv) (sv 6) (sv 1) (sv 0) (clo (sf sv) (sg sv) (sv 5) (sv 1) (sv 2)) aw) fa (z 8) (sv 2) (sv 4) v).2))), (0, .ref (ad 0)), (1, .int (nI 1)), (4, .int (nI v)), (5, .int (nI y)), (6, .int (nI k))]) hx hb dX8_which_168 rfl hl (by decide) rfl (fun ls hl => ?_)
                          refine lv_iinc (v := (nI (v + 1))) (lv' := [(4, .int (nI (v + 1))), (2, .int (nI (((mwS (mesN (sf sv) (sg sv) (sc sv) (sv 6) (sv 1) (sv 0) (clo (sf sv) (sg sv) (sv 5) (sv 1) (sv 2)) aw) fa (z 8) (sv 2) (sv 4) v).1) + 0))), (3, .int (oN ((mwS (mesN (sf sv) (sg sv) (sc sv) (sv 6) (sv 1) (sv 0) (clo (sf sv) (sg sv) (sv 5) (sv 1) (sv 2)) aw) fa (z 8) (sv 2) (sv 4) v).2))), (0, .ref (ad 0)), (1, .int (nI 1)), (5, .int (nI y)), (6, .int (nI k))]) hx hb dX8_which_169 hl (k := 4) rfl (qn_inc _) (by decide) rfl (fun ls hl => ?_)
                          refine lv_goto (tgt := 38) hx hb dX8_which_172 (by decide) ?_
                          exact ih38 (v + 1) (((mwS (mesN (sf sv) (sg sv) (sc sv) (sv 6) (sv 1) (sv 0) (clo (sf sv) (sg sv) (sv 5) (sv 1) (sv 2)) aw) fa (z 8) (sv 2) (sv 4) v).1) + 0) ((mwS (mesN (sf sv) (sg sv) (sc sv) (sv 6) (sv 1) (sv 0) (clo (sf sv) (sg sv) (sv 5) (sv 1) (sv 2)) aw) fa (z 8) (sv 2) (sv 4) v).2) (by omega) (by have e8 : ¬ fiB (mesN (sf sv) (sg sv) (sc sv) (sv 6) (sv 1) (sv 0) (clo (sf sv) (sg sv) (sv 5) (sv 1) (sv 2)) aw) fa (z 8) (sv 2) (sv 4) v = true := fun h => absurd (hfi.mpr h) (by omega); rw [mwS, if_neg e8] <;> rfl) (by have e8 : ¬ fiB (mesN (sf sv) (sg sv) (sc sv) (sv 6) (sv 1) (sv 0) (clo (sf sv) (sg sv) (sv 5) (sv 1) (sv 2)) aw) fa (z 8) (sv 2) (sv 4) v = true := fun h => absurd (hfi.mpr h) (by omega); rw [mwS, if_neg e8] <;> rfl) (by omega) _ _ hP hD hS ls (lv_sub hl [3, 4, 1, 2, 0] rfl)
                        · exact absurd c142 c159
                      · refine lv_iload_n hx hb dX8_which_145 rfl (lv_at hl 2 rfl) ?_
                        refine nv_zne (x := (mwS (mesN (sf sv) (sg sv) (sc sv) (sv 6) (sv 1) (sv 0) (clo (sf sv) (sg sv) (sv 5) (sv 1) (sv 2)) aw) fa (z 8) (sv 2) (sv 4) v).1) (tgt := 154) hx hb dX8_which_146 (by decide) (by have := mwS_le (mesN (sf sv) (sg sv) (sc sv) (sv 6) (sv 1) (sv 0) (clo (sf sv) (sg sv) (sv 5) (sv 1) (sv 2)) aw) fa (z 8) (sv 2) (sv 4) v; omega) (fun c146 => ?_) (fun c146 => ?_)
                        · refine lv_iload_n hx hb dX8_which_154 rfl (lv_at hl 3 rfl) ?_
                          refine lv_istore_n (lv' := [(3, .int (oN ((mwS (mesN (sf sv) (sg sv) (sc sv) (sv 6) (sv 1) (sv 0) (clo (sf sv) (sg sv) (sv 5) (sv 1) (sv 2)) aw) fa (z 8) (sv 2) (sv 4) v).2))), (0, .ref (ad 0)), (1, .int (nI 1)), (2, .int (nI ((mwS (mesN (sf sv) (sg sv) (sc sv) (sv 6) (sv 1) (sv 0) (clo (sf sv) (sg sv) (sv 5) (sv 1) (sv 2)) aw) fa (z 8) (sv 2) (sv 4) v).1))), (4, .int (nI v)), (5, .int (nI y)), (6, .int (nI k))]) hx hb dX8_which_155 rfl hl (by decide) rfl (fun ls hl => ?_)
                          refine lv_iload_n hx hb dX8_which_156 rfl (lv_at hl 3 rfl) ?_
                          refine lv_iload hx hb dX8_which_157 (lv_at hl 5 rfl) ?_
                          refine nv_zeq (x := y) (tgt := 166) hx hb dX8_which_159 (by decide) (by omega) (fun c159 => ?_) (fun c159 => ?_)
                          · exact absurd c159 c142
                          · refine lv_iconst (v := (nI 1)) hx hb dX8_which_162 (by decide) ?_
                            refine lv_goto (tgt := 167) hx hb dX8_which_163 (by decide) ?_
                            refine lv_iadd hx hb dX8_which_167 (ti (y := (nI (((mwS (mesN (sf sv) (sg sv) (sc sv) (sv 6) (sv 1) (sv 0) (clo (sf sv) (sg sv) (sv 5) (sv 1) (sv 2)) aw) fa (z 8) (sv 2) (sv 4) v).1) + 1))) (nI_add _ _) ?_)
                            refine lv_istore_n (lv' := [(2, .int (nI (((mwS (mesN (sf sv) (sg sv) (sc sv) (sv 6) (sv 1) (sv 0) (clo (sf sv) (sg sv) (sv 5) (sv 1) (sv 2)) aw) fa (z 8) (sv 2) (sv 4) v).1) + 1))), (3, .int (oN ((mwS (mesN (sf sv) (sg sv) (sc sv) (sv 6) (sv 1) (sv 0) (clo (sf sv) (sg sv) (sv 5) (sv 1) (sv 2)) aw) fa (z 8) (sv 2) (sv 4) v).2))), (0, .ref (ad 0)), (1, .int (nI 1)), (4, .int (nI v)), (5, .int (nI y)), (6, .int (nI k))]) hx hb dX8_which_168 rfl hl (by decide) rfl (fun ls hl => ?_)
                            refine lv_iinc (v := (nI (v + 1))) (lv' := [(4, .int (nI (v + 1))), (2, .int (nI (((mwS (mesN (sf sv) (sg sv) (sc sv) (sv 6) (sv 1) (sv 0) (clo (sf sv) (sg sv) (sv 5) (sv 1) (sv 2)) aw) fa (z 8) (sv 2) (sv 4) v).1) + 1))), (3, .int (oN ((mwS (mesN (sf sv) (sg sv) (sc sv) (sv 6) (sv 1) (sv 0) (clo (sf sv) (sg sv) (sv 5) (sv 1) (sv 2)) aw) fa (z 8) (sv 2) (sv 4) v).2))), (0, .ref (ad 0)), (1, .int (nI 1)), (5, .int (nI y)), (6, .int (nI k))]) hx hb dX8_which_169 hl (k := 4) rfl (qn_inc _) (by decide) rfl (fun ls hl => ?_)
                            refine lv_goto (tgt := 38) hx hb dX8_which_172 (by decide) ?_
                            exact ih38 (v + 1) (((mwS (mesN (sf sv) (sg sv) (sc sv) (sv 6) (sv 1) (sv 0) (clo (sf sv) (sg sv) (sv 5) (sv 1) (sv 2)) aw) fa (z 8) (sv 2) (sv 4) v).1) + 1) ((mwS (mesN (sf sv) (sg sv) (sc sv) (sv 6) (sv 1) (sv 0) (clo (sf sv) (sg sv) (sv 5) (sv 1) (sv 2)) aw) fa (z 8) (sv 2) (sv 4) v).2) (by omega) (by have e8 : fiB (mesN (sf sv) (sg sv) (sc sv) (sv 6) (sv 1) (sv 0) (clo (sf sv) (sg sv) (sv 5) (sv 1) (sv 2)) aw) fa (z 8) (sv 2) (sv 4) v = true := hfi.mp (by omega); rw [mwS, if_pos e8] <;> rfl) (by have e8 : fiB (mesN (sf sv) (sg sv) (sc sv) (sv 6) (sv 1) (sv 0) (clo (sf sv) (sg sv) (sv 5) (sv 1) (sv 2)) aw) fa (z 8) (sv 2) (sv 4) v = true := hfi.mp (by omega); rw [mwS, if_pos e8, if_neg c146] <;> rfl) (by omega) _ _ hP hD hS ls (lv_sub hl [3, 4, 1, 2, 0] rfl)
                        · refine lv_iload hx hb dX8_which_149 (lv_at hl 4 rfl) ?_
                          refine lv_goto (tgt := 155) hx hb dX8_which_151 (by decide) ?_
                          refine lv_istore_n (lv' := [(3, .int (nI v)), (0, .ref (ad 0)), (1, .int (nI 1)), (2, .int (nI ((mwS (mesN (sf sv) (sg sv) (sc sv) (sv 6) (sv 1) (sv 0) (clo (sf sv) (sg sv) (sv 5) (sv 1) (sv 2)) aw) fa (z 8) (sv 2) (sv 4) v).1))), (4, .int (nI v)), (5, .int (nI y)), (6, .int (nI k))]) hx hb dX8_which_155 rfl hl (by decide) rfl (fun ls hl => ?_)
                          refine lv_iload_n hx hb dX8_which_156 rfl (lv_at hl 3 rfl) ?_
                          refine lv_iload hx hb dX8_which_157 (lv_at hl 5 rfl) ?_
                          refine nv_zeq (x := y) (tgt := 166) hx hb dX8_which_159 (by decide) (by omega) (fun c159 => ?_) (fun c159 => ?_)
                          · exact absurd c159 c142
                          · refine lv_iconst (v := (nI 1)) hx hb dX8_which_162 (by decide) ?_
                            refine lv_goto (tgt := 167) hx hb dX8_which_163 (by decide) ?_
                            refine lv_iadd hx hb dX8_which_167 (ti (y := (nI (((mwS (mesN (sf sv) (sg sv) (sc sv) (sv 6) (sv 1) (sv 0) (clo (sf sv) (sg sv) (sv 5) (sv 1) (sv 2)) aw) fa (z 8) (sv 2) (sv 4) v).1) + 1))) (nI_add _ _) ?_)
                            refine lv_istore_n (lv' := [(2, .int (nI (((mwS (mesN (sf sv) (sg sv) (sc sv) (sv 6) (sv 1) (sv 0) (clo (sf sv) (sg sv) (sv 5) (sv 1) (sv 2)) aw) fa (z 8) (sv 2) (sv 4) v).1) + 1))), (3, .int (nI v)), (0, .ref (ad 0)), (1, .int (nI 1)), (4, .int (nI v)), (5, .int (nI y)), (6, .int (nI k))]) hx hb dX8_which_168 rfl hl (by decide) rfl (fun ls hl => ?_)
                            refine lv_iinc (v := (nI (v + 1))) (lv' := [(4, .int (nI (v + 1))), (2, .int (nI (((mwS (mesN (sf sv) (sg sv) (sc sv) (sv 6) (sv 1) (sv 0) (clo (sf sv) (sg sv) (sv 5) (sv 1) (sv 2)) aw) fa (z 8) (sv 2) (sv 4) v).1) + 1))), (3, .int (nI v)), (0, .ref (ad 0)), (1, .int (nI 1)), (5, .int (nI y)), (6, .int (nI k))]) hx hb dX8_which_169 hl (k := 4) rfl (qn_inc _) (by decide) rfl (fun ls hl => ?_)
                            refine lv_goto (tgt := 38) hx hb dX8_which_172 (by decide) ?_
                            exact ih38 (v + 1) (((mwS (mesN (sf sv) (sg sv) (sc sv) (sv 6) (sv 1) (sv 0) (clo (sf sv) (sg sv) (sv 5) (sv 1) (sv 2)) aw) fa (z 8) (sv 2) (sv 4) v).1) + 1) (some v) (by omega) (by have e8 : fiB (mesN (sf sv) (sg sv) (sc sv) (sv 6) (sv 1) (sv 0) (clo (sf sv) (sg sv) (sv 5) (sv 1) (sv 2)) aw) fa (z 8) (sv 2) (sv 4) v = true := hfi.mp (by omega); rw [mwS, if_pos e8] <;> rfl) (by have e8 : fiB (mesN (sf sv) (sg sv) (sc sv) (sv 6) (sv 1) (sv 0) (clo (sf sv) (sg sv) (sv 5) (sv 1) (sv 2)) aw) fa (z 8) (sv 2) (sv 4) v = true := hfi.mp (by omega); rw [mwS, if_pos e8, if_pos c146] <;> rfl) (by omega) _ _ hP hD hS ls (lv_sub hl [3, 4, 1, 2, 0] rfl)
                    · refine lv_aload_n hx hb dX8_which_98 rfl (lv_at hl 0 rfl) ?_
                      refine lv_iload hx hb dX8_which_99 (lv_at hl 4 rfl) ?_
                      refine lv_aload_n hx hb dX8_which_101 rfl (lv_at hl 0 rfl) ?_
                      refine va_get (D := G.1) (ci := 7) (v := .ref (ad 6)) (C := RX8) (T := TX8) (N := 17) hx hb hts inA8 hown hX.1 hP 0 rfl rfl 7 (by decide) (hts _ kw_687) (fun _ h9 => h9) rfl dX8_which_102 ?_
                      refine lv_iconst (v := (nI 2)) hx hb dX8_which_105 (by decide) ?_
                      refine lv_iload hx hb dX8_which_106 (lv_at hl 6 rfl) ?_
                      refine lv_imul hx hb dX8_which_108 (ti (y := (nI (2 * k))) (pk_mul _ _) ?_)
                      refine nv_aldI (f := fa) (k := 2 * k) hx hb hX hP 6 rfl (by omega) (by decide) dX8_which_109 ?_
                      refine ca_Vi (ci := 7) (q := (RX8, TX8, 17)) (rest := []) (wr := ([] : va_W)) F hX (mX8_away l G ad z fo sv d pa ke ik fa te (mesN (sf sv) (sg sv) (sc sv) (sv 6) (sv 1) (sv 0) (clo (sf sv) (sg sv) (sv 5) (sv 1) (sv 2)) aw) v (fa (2 * k)) hml9 (by omega)) (cA_V hts kw_901 kw_8 kw_898 kw_900 kp_46 hdX8_away ⟨Nat.le_of_ble_eq_true rfl, Nat.le_of_ble_eq_true rfl⟩) rfl rfl rfl hl.1 rfl (Nat.le_of_ble_eq_true rfl) dX8_which_110 ⟨Nat.le_of_ble_eq_true rfl, Nat.le_of_ble_eq_true rfl⟩ hP hD hS hA (pm_nil _) (fun r110 u110 H locs hp110 hP hD hS => ?_)
                      have hP : va_P G.1 vwCl (mow G ad z fo sv d pa ke ik fa te (mesN (sf sv) (sg sv) (sc sv) (sv 6) (sv 1) (sv 0) (clo (sf sv) (sg sv) (sv 5) (sv 1) (sv 2)) aw)) H := wp_pm (pm_nil _).symm hP
                      have hD : va_D A (mow G ad z fo sv d pa ke ik fa te (mesN (sf sv) (sg sv) (sc sv) (sv 6) (sv 1) (sv 0) (clo (sf sv) (sg sv) (sv 5) (sv 1) (sv 2)) aw)) := wd_pm (pm_nil _).symm hD
                      subst hp110
                      refine lv_aload_n hx hb dX8_which_113 rfl (lv_at hl 0 rfl) ?_
                      refine va_get (D := G.1) (ci := 7) (v := .ref (ad 6)) (C := RX8) (T := TX8) (N := 17) hx hb hts inA8 hown hX.1 hP 0 rfl rfl 7 (by decide) (hts _ kw_687) (fun _ h9 => h9) rfl dX8_which_114 ?_
                      refine lv_iconst (v := (nI 2)) hx hb dX8_which_117 (by decide) ?_
                      refine lv_iload hx hb dX8_which_118 (lv_at hl 6 rfl) ?_
                      refine lv_imul hx hb dX8_which_120 (ti (y := (nI (2 * k))) (pk_mul _ _) ?_)
                      refine lv_iconst (v := (nI 1)) hx hb dX8_which_121 (by decide) ?_
                      refine lv_iadd hx hb dX8_which_122 (ti (y := (nI ((2 * k) + 1))) (nI_add _ _) ?_)
                      refine nv_aldI (f := fa) (k := (2 * k) + 1) hx hb hX hP 6 rfl (by omega) (by decide) dX8_which_123 ?_
                      refine lv_icmp_ne (x := (oN (mawI (mesN (sf sv) (sg sv) (sc sv) (sv 6) (sv 1) (sv 0) (clo (sf sv) (sg sv) (sv 5) (sv 1) (sv 2)) aw) v (fa (2 * k))))) (y := (fa ((2 * k) + 1))) (tgt := 131) hx hb dX8_which_124 (by decide) (fun c124 => ?_) (fun c124 => ?_)
                      · refine lv_iconst (v := (nI 0)) hx hb dX8_which_131 (by decide) ?_
                        refine lv_istore (lv' := [(5, .int (nI 0)), (0, .ref (ad 0)), (1, .int (nI 1)), (2, .int (nI ((mwS (mesN (sf sv) (sg sv) (sc sv) (sv 6) (sv 1) (sv 0) (clo (sf sv) (sg sv) (sv 5) (sv 1) (sv 2)) aw) fa (z 8) (sv 2) (sv 4) v).1))), (3, .int (oN ((mwS (mesN (sf sv) (sg sv) (sc sv) (sv 6) (sv 1) (sv 0) (clo (sf sv) (sg sv) (sv 5) (sv 1) (sv 2)) aw) fa (z 8) (sv 2) (sv 4) v).2))), (4, .int (nI v)), (6, .int (nI k))]) hx hb dX8_which_132 hl (by decide) rfl (fun ls hl => ?_)
                        refine lv_iinc (v := (nI (k + 1))) (lv' := [(6, .int (nI (k + 1))), (5, .int (nI 0)), (0, .ref (ad 0)), (1, .int (nI 1)), (2, .int (nI ((mwS (mesN (sf sv) (sg sv) (sc sv) (sv 6) (sv 1) (sv 0) (clo (sf sv) (sg sv) (sv 5) (sv 1) (sv 2)) aw) fa (z 8) (sv 2) (sv 4) v).1))), (3, .int (oN ((mwS (mesN (sf sv) (sg sv) (sc sv) (sv 6) (sv 1) (sv 0) (clo (sf sv) (sg sv) (sv 5) (sv 1) (sv 2)) aw) fa (z 8) (sv 2) (sv 4) v).2))), (4, .int (nI v))]) hx hb dX8_which_134 hl (k := 6) rfl (qn_inc _) (by decide) rfl (fun ls hl => ?_)
                        refine lv_goto (tgt := 84) hx hb dX8_which_137 (by decide) ?_
                        exact ih84 (k + 1) 0 (by omega) (by omega) (by omega) ⟨fun h => absurd h (by decide), fun h => by rw [fuB, decide_eq_false c124, Bool.and_false] at h; exact absurd h.2 (by decide)⟩ _ _ hP hD hS ls (lv_sub hl [2, 3, 4, 5, 6, 1, 0] rfl)
                      · refine lv_iconst (v := (nI 1)) hx hb dX8_which_127 (by decide) ?_
                        refine lv_goto (tgt := 132) hx hb dX8_which_128 (by decide) ?_
                        refine lv_istore (lv' := [(5, .int (nI 1)), (0, .ref (ad 0)), (1, .int (nI 1)), (2, .int (nI ((mwS (mesN (sf sv) (sg sv) (sc sv) (sv 6) (sv 1) (sv 0) (clo (sf sv) (sg sv) (sv 5) (sv 1) (sv 2)) aw) fa (z 8) (sv 2) (sv 4) v).1))), (3, .int (oN ((mwS (mesN (sf sv) (sg sv) (sc sv) (sv 6) (sv 1) (sv 0) (clo (sf sv) (sg sv) (sv 5) (sv 1) (sv 2)) aw) fa (z 8) (sv 2) (sv 4) v).2))), (4, .int (nI v)), (6, .int (nI k))]) hx hb dX8_which_132 hl (by decide) rfl (fun ls hl => ?_)
                        refine lv_iinc (v := (nI (k + 1))) (lv' := [(6, .int (nI (k + 1))), (5, .int (nI 1)), (0, .ref (ad 0)), (1, .int (nI 1)), (2, .int (nI ((mwS (mesN (sf sv) (sg sv) (sc sv) (sv 6) (sv 1) (sv 0) (clo (sf sv) (sg sv) (sv 5) (sv 1) (sv 2)) aw) fa (z 8) (sv 2) (sv 4) v).1))), (3, .int (oN ((mwS (mesN (sf sv) (sg sv) (sc sv) (sv 6) (sv 1) (sv 0) (clo (sf sv) (sg sv) (sv 5) (sv 1) (sv 2)) aw) fa (z 8) (sv 2) (sv 4) v).2))), (4, .int (nI v))]) hx hb dX8_which_134 hl (k := 6) rfl (qn_inc _) (by decide) rfl (fun ls hl => ?_)
                        refine lv_goto (tgt := 84) hx hb dX8_which_137 (by decide) ?_
                        exact ih84 (k + 1) 1 (by omega) (by omega) (by omega) ⟨fun _ => by rw [fuB, decide_eq_true c124, Bool.and_true]; exact hyy.mp (by omega), fun _ => rfl⟩ _ _ hP hD hS ls (lv_sub hl [2, 3, 4, 5, 6, 1, 0] rfl)
              exact lp84 _ 0 1 (Nat.lt_succ_self _) (Nat.zero_le _) (by omega) ⟨fun _ => ⟨⟨c57, c71⟩, rfl⟩, fun _ => rfl⟩ _ _ hP hD hS ls (lv_sub hl [2, 3, 4, 5, 6, 1, 0] rfl)
    exact lp38 _ 0 0 none (Nat.lt_succ_self _) rfl rfl (Nat.zero_le _) _ _ hP hD hS ls (lv_sub hl [3, 4, 2, 1, 0] rfl)
  · exact absurd c11 (by decide)

theorem hdX8_keep : hdOK yX8_keep 1 := by decide +kernel
set_option maxHeartbeats 4000000 in
set_option maxRecDepth 100000 in
theorem mX8_keep_bad (l : Launch) (G : GG) (ad : Nat → Nat) (z : Nat → Nat) (fo : Option Nat) (sv : Nat → Nat) (d : Nat → Int32) (pa ke : Nat → Nat) (ik fa : Nat → Int32) (te aw : Nat → Nat) (x : Int32) (hx9 : ¬ (0 ≤ x.toInt ∧ x.toInt ≤ 1)) : Mi l yX8_keep cX8_keep 3 (some .int) (rmN 1 22) G [.ref (ad 0), .int x] (mow G ad z fo sv d pa ke ik fa te aw) (fun (r9 : Int32) (_ : Unit) => r9 = (-1)) (fun (_ : Unit) => mow G ad z fo sv d pa ke ik fa te aw) := by
  refine Mi.of (cc := cX8_keep) (nL := 3) (by decide) (Nat.le_of_ble_eq_true rfl) ?_
  intro p e s m below meth c A ls F hr hlocks hnm hX hA hD hP hS hl
  have F : CallFix p m c cX8_keep 3 s [.ref (ad 0), .int x].toArray wA RX8 := F
  obtain ⟨hx, hb, hml, hown, hts⟩ := id F
  have hl : lv_has ls 3 [(0, .ref (ad 0)), (1, .int x)] := hl
  refine lv_aload_n hx hb dX8_keep_0 rfl (lv_at hl 0 rfl) ?_
  refine lv_iconst (v := (nI 0)) hx hb dX8_keep_1 (by decide) ?_
  refine va_put (D := G.1) (ci := 7) (v := .int (nI 0)) (ty := .int) (C := RX8) (T := TX8) (N := 17) hx hb hts inA8 tyX8 tyX8_ok nmX8 hown hX.1 hP hD hS 0 rfl rfl 0 (by decide) (hts _ kw_680) (fun _ h9 => h9) rfl (by decide +kernel) rfl rfl (Nat.le_of_ble_eq_true rfl) dX8_keep_2 (fun H locs hP hD hS => ?_)
  have hP : va_P G.1 vwCl (mow G ad z fo sv d pa ke ik fa te aw) H := hP
  have hD : va_D A (mow G ad z fo sv d pa ke ik fa te aw) := hD
  refine lv_iload_n hx hb dX8_keep_5 rfl (lv_at hl 1 rfl) ?_
  refine lv_iconst (v := (nI 0)) hx hb dX8_keep_6 (by decide) ?_
  refine lv_iconst (v := (nI 1)) hx hb dX8_keep_7 (by decide) ?_
  refine ca_Si (rest := []) (wr := mow G ad z fo sv d pa ke ik fa te aw) F hX (mX8_in l G x (nI 0) (nI 1)) (cA_S hts kw_738 kw_8 kw_736 kw_737 hdX8_in ⟨Nat.le_of_ble_eq_true rfl, Nat.le_of_ble_eq_true rfl⟩) rfl hl.1 rfl (Nat.le_of_ble_eq_true rfl) dX8_keep_8 ⟨Nat.le_of_ble_eq_true rfl, Nat.le_of_ble_eq_true rfl⟩ hP hD hS hA (List.Perm.refl _) (fun r8 u8 H locs hp8 hP hD hS => ?_)
  have hP : va_P G.1 vwCl (mow G ad z fo sv d pa ke ik fa te aw) H := hP
  have hD : va_D A (mow G ad z fo sv d pa ke ik fa te aw) := hD
  subst hp8
  refine ti (y := (bI (decide (0 ≤ x.toInt ∧ x.toInt ≤ 1)))) (by rw [in_dec2 x (by decide)]; rfl) ?_
  refine bv_ne (b := decide (0 ≤ x.toInt ∧ x.toInt ≤ 1)) (tgt := 16) hx hb dX8_keep_11 (by decide) (fun c11 => ?_) (fun c11 => ?_)
  · exact absurd (of_decide_eq_true c11) hx9
  · refine lv_iconst (v := (-1)) hx hb dX8_keep_14 (by decide) ?_
    exact re_i (v := (-1)) hx hb hr hlocks hS () hP hD rfl dX8_keep_15

theorem hdX8_back : hdOK yX8_back 1 := by decide +kernel
set_option maxHeartbeats 4000000 in
set_option maxRecDepth 100000 in
theorem mX8_back_bad (l : Launch) (G : GG) (ad : Nat → Nat) (z : Nat → Nat) (fo : Option Nat) (sv : Nat → Nat) (d : Nat → Int32) (pa ke : Nat → Nat) (ik fa : Nat → Int32) (te aw : Nat → Nat) (x : Int32) (hx9 : ¬ (0 ≤ x.toInt ∧ x.toInt ≤ 1)) : Mi l yX8_back cX8_back 3 (some .int) (rmN 1 22) G [.ref (ad 0), .int x] (mow G ad z fo sv d pa ke ik fa te aw) (fun (r9 : Int32) (_ : Unit) => r9 = (-1)) (fun (_ : Unit) => mow G ad z fo sv d pa ke ik fa te aw) := by
  refine Mi.of (cc := cX8_back) (nL := 3) (by decide) (Nat.le_of_ble_eq_true rfl) ?_
  intro p e s m below meth c A ls F hr hlocks hnm hX hA hD hP hS hl
  have F : CallFix p m c cX8_back 3 s [.ref (ad 0), .int x].toArray wA RX8 := F
  obtain ⟨hx, hb, hml, hown, hts⟩ := id F
  have hl : lv_has ls 3 [(0, .ref (ad 0)), (1, .int x)] := hl
  refine lv_aload_n hx hb dX8_back_0 rfl (lv_at hl 0 rfl) ?_
  refine lv_iconst (v := (nI 0)) hx hb dX8_back_1 (by decide) ?_
  refine va_put (D := G.1) (ci := 7) (v := .int (nI 0)) (ty := .int) (C := RX8) (T := TX8) (N := 17) hx hb hts inA8 tyX8 tyX8_ok nmX8 hown hX.1 hP hD hS 0 rfl rfl 0 (by decide) (hts _ kw_680) (fun _ h9 => h9) rfl (by decide +kernel) rfl rfl (Nat.le_of_ble_eq_true rfl) dX8_back_2 (fun H locs hP hD hS => ?_)
  have hP : va_P G.1 vwCl (mow G ad z fo sv d pa ke ik fa te aw) H := hP
  have hD : va_D A (mow G ad z fo sv d pa ke ik fa te aw) := hD
  refine lv_iload_n hx hb dX8_back_5 rfl (lv_at hl 1 rfl) ?_
  refine lv_iconst (v := (nI 0)) hx hb dX8_back_6 (by decide) ?_
  refine lv_iconst (v := (nI 1)) hx hb dX8_back_7 (by decide) ?_
  refine ca_Si (rest := []) (wr := mow G ad z fo sv d pa ke ik fa te aw) F hX (mX8_in l G x (nI 0) (nI 1)) (cA_S hts kw_738 kw_8 kw_736 kw_737 hdX8_in ⟨Nat.le_of_ble_eq_true rfl, Nat.le_of_ble_eq_true rfl⟩) rfl hl.1 rfl (Nat.le_of_ble_eq_true rfl) dX8_back_8 ⟨Nat.le_of_ble_eq_true rfl, Nat.le_of_ble_eq_true rfl⟩ hP hD hS hA (List.Perm.refl _) (fun r8 u8 H locs hp8 hP hD hS => ?_)
  have hP : va_P G.1 vwCl (mow G ad z fo sv d pa ke ik fa te aw) H := hP
  have hD : va_D A (mow G ad z fo sv d pa ke ik fa te aw) := hD
  subst hp8
  refine ti (y := (bI (decide (0 ≤ x.toInt ∧ x.toInt ≤ 1)))) (by rw [in_dec2 x (by decide)]; rfl) ?_
  refine bv_ne (b := decide (0 ≤ x.toInt ∧ x.toInt ≤ 1)) (tgt := 16) hx hb dX8_back_11 (by decide) (fun c11 => ?_) (fun c11 => ?_)
  · exact absurd (of_decide_eq_true c11) hx9
  · refine lv_iconst (v := (-1)) hx hb dX8_back_14 (by decide) ?_
    exact re_i (v := (-1)) hx hb hr hlocks hS () hP hD rfl dX8_back_15

set_option maxHeartbeats 4000000 in
set_option maxRecDepth 100000 in
theorem mX8_keep_ok (l : Launch) (G : GG) (ad : Nat → Nat) (z : Nat → Nat) (fo : Option Nat) (sv : Nat → Nat) (d : Nat → Int32) (pa ke : Nat → Nat) (ik fa : Nat → Int32) (te aw : Nat → Nat) (i : Nat) (hB : SB sv) (hi : i ≤ 1) : Mi l yX8_keep cX8_keep 3 (some .int) (rmN 1 22) G [.ref (ad 0), .int (nI i)] (mow G ad z fo sv d pa ke ik fa te aw) (fun (r9 : Int32) (_ : Unit) => r9 = (nI (bts (sv 4) 12))) (fun (_ : Unit) => mow G ad z fo sv d pa (coP ke sv (52 * i) 52) (upd ik i (nI 1)) fa te aw) := by
  refine Mi.of (cc := cX8_keep) (nL := 3) (by decide) (Nat.le_of_ble_eq_true rfl) ?_
  intro p e s m below meth c A ls F hr hlocks hnm hX hA hD hP hS hl
  have F : CallFix p m c cX8_keep 3 s [.ref (ad 0), .int (nI i)].toArray wA RX8 := F
  obtain ⟨hx, hb, hml, hown, hts⟩ := id F
  have hl : lv_has ls 3 [(0, .ref (ad 0)), (1, .int (nI i))] := hl
  obtain ⟨⟨b0, b1, b2, b3, b4, b5, b6, b7, b8⟩, g1, g2, g3, g4⟩ := id hB
  have gf : ∀ j, sf sv j < 10 := fun j => g1 (16 + j) (by omega)
  have gg : ∀ j, sg sv j < 10 := fun j => g1 (28 + j) (by omega)
  have gc : ∀ j, sc sv j ≤ 9 := fun j => by have := g1 (40 + j) (by omega); unfold sc; omega
  have gf7 : ∀ j, j < 12 → sf sv j < 7 := g2
  have gg7 : ∀ j, j < 12 → sg sv j < 7 := g3
  refine lv_aload_n hx hb dX8_keep_0 rfl (lv_at hl 0 rfl) ?_
  refine lv_iconst (v := (nI 0)) hx hb dX8_keep_1 (by decide) ?_
  refine va_put (D := G.1) (ci := 7) (v := .int (nI 0)) (ty := .int) (C := RX8) (T := TX8) (N := 17) hx hb hts inA8 tyX8 tyX8_ok nmX8 hown hX.1 hP hD hS 0 rfl rfl 0 (by decide) (hts _ kw_680) (fun _ h9 => h9) rfl (by decide +kernel) rfl rfl (Nat.le_of_ble_eq_true rfl) dX8_keep_2 (fun H locs hP hD hS => ?_)
  have hP : va_P G.1 vwCl (mow G ad z fo sv d pa ke ik fa te aw) H := hP
  have hD : va_D A (mow G ad z fo sv d pa ke ik fa te aw) := hD
  refine lv_iload_n hx hb dX8_keep_5 rfl (lv_at hl 1 rfl) ?_
  refine lv_iconst (v := (nI 0)) hx hb dX8_keep_6 (by decide) ?_
  refine lv_iconst (v := (nI 1)) hx hb dX8_keep_7 (by decide) ?_
  refine ca_Si (rest := []) (wr := mow G ad z fo sv d pa ke ik fa te aw) F hX (mX8_in l G (nI i) (nI 0) (nI 1)) (cA_S hts kw_738 kw_8 kw_736 kw_737 hdX8_in ⟨Nat.le_of_ble_eq_true rfl, Nat.le_of_ble_eq_true rfl⟩) rfl hl.1 rfl (Nat.le_of_ble_eq_true rfl) dX8_keep_8 ⟨Nat.le_of_ble_eq_true rfl, Nat.le_of_ble_eq_true rfl⟩ hP hD hS hA (List.Perm.refl _) (fun r8 u8 H locs hp8 hP hD hS => ?_)
  have hP : va_P G.1 vwCl (mow G ad z fo sv d pa ke ik fa te aw) H := hP
  have hD : va_D A (mow G ad z fo sv d pa ke ik fa te aw) := hD
  subst hp8
  refine ti (y := (bI true)) (by rw [in_in (v := i) (n := 1) (by omega) (by decide)]) ?_
  refine bv_ne (b := true) (tgt := 16) hx hb dX8_keep_11 (by decide) (fun c11 => ?_) (fun c11 => ?_)
  · refine lv_iconst (v := (nI 0)) hx hb dX8_keep_16 (by decide) ?_
    refine lv_istore_n (lv' := [(2, .int (nI 0)), (0, .ref (ad 0)), (1, .int (nI i))]) hx hb dX8_keep_17 rfl hl (by decide) rfl (fun ls hl => ?_)
    have lp18 : ∀ (n18 : Nat) (k : Nat) (y : Nat → Nat), (52 - k) < n18 → y = coP ke sv (52 * i) k → (k ≤ 52) → ∀ (H : Heap) (locs : List Loc), va_P G.1 vwCl (mow G ad z fo sv d pa y ik fa te aw) H → va_D A (mow G ad z fo sv d pa y ik fa te aw) → va_S A s.heap H locs → ∀ (ls : Array Slot), lv_has ls 3 [(0, .ref (ad 0)), (1, .int (nI i)), (2, .int (nI k))] → WI p l e (rmN 1 22) s m [.ref (ad 0), .int (nI i)] below meth c H locs G A (fun (r9 : Int32) (_ : Unit) => r9 = (nI (bts (sv 4) 12))) (fun (_ : Unit) => mow G ad z fo sv d pa (coP ke sv (52 * i) 52) (upd ik i (nI 1)) fa te aw) (F0 m 18 ls []) := by
      intro n18
      induction n18 with
      | zero => intro k y h9; exact absurd h9 (Nat.not_lt_zero _)
      | succ n18 ih18 =>
        intro k y hm18 e_y hk H locs hP hD hS ls hl
        subst e_y
        refine lv_iload_n hx hb dX8_keep_18 rfl (lv_at hl 2 rfl) ?_
        refine lv_bipush (v := (nI 52)) hx hb dX8_keep_19 (by decide) ?_
        refine nv_ge (x := k) (y := 52) (tgt := 47) hx hb dX8_keep_21 (by decide) (by omega) (by decide) (fun c21 => ?_) (fun c21 => ?_)
        · have e9 : k = 52 := (by omega)
          refine lv_aload_n hx hb dX8_keep_47 rfl (lv_at hl 0 rfl) ?_
          refine va_get (D := G.1) (ci := 7) (v := .ref (ad 5)) (C := RX8) (T := TX8) (N := 17) hx hb hts inA8 hown hX.1 hP 0 rfl rfl 6 (by decide) (hts _ kw_686) (fun _ h9 => h9) rfl dX8_keep_48 ?_
          refine lv_iload_n hx hb dX8_keep_51 rfl (lv_at hl 1 rfl) ?_
          refine lv_iconst (v := (nI 1)) hx hb dX8_keep_52 (by decide) ?_
          refine nv_zast (f := ik) (k := i) (v := (nI 1)) hx hb hX hP hD hS 5 rfl (by omega) (by decide) (by decide) dX8_keep_53 (fun H locs hP hD hS => ?_)
          have hP : va_P G.1 vwCl (mow G ad z fo sv d pa (coP ke sv (52 * i) k) (upd ik i (nI 1)) fa te aw) H := hP
          have hD : va_D A (mow G ad z fo sv d pa (coP ke sv (52 * i) k) (upd ik i (nI 1)) fa te aw) := hD
          refine lv_aload_n hx hb dX8_keep_54 rfl (lv_at hl 0 rfl) ?_
          refine va_get (D := G.1) (ci := 7) (v := .ref (ad 1)) (C := RX8) (T := TX8) (N := 17) hx hb hts inA8 hown hX.1 hP 0 rfl rfl 1 (by decide) (hts _ kw_681) (fun _ h9 => h9) rfl dX8_keep_55 ?_
          refine lv_iconst (v := (nI 4)) hx hb dX8_keep_58 (by decide) ?_
          refine nv_ald (f := sv) (k := 4) hx hb hX hP 1 rfl (by omega) (by decide) dX8_keep_59 ?_
          refine ca_Si (rest := []) (wr := mow G ad z fo sv d pa (coP ke sv (52 * i) k) (upd ik i (nI 1)) fa te aw) F hX (mX8_bits l G (sv 4) (by omega)) (cA_S hts kw_869 kw_8 kw_867 kw_868 hdX8_bits ⟨Nat.le_of_ble_eq_true rfl, Nat.le_of_ble_eq_true rfl⟩) rfl hl.1 rfl (Nat.le_of_ble_eq_true rfl) dX8_keep_60 ⟨Nat.le_of_ble_eq_true rfl, Nat.le_of_ble_eq_true rfl⟩ hP hD hS hA (List.Perm.refl _) (fun r60 u60 H locs hp60 hP hD hS => ?_)
          have hP : va_P G.1 vwCl (mow G ad z fo sv d pa (coP ke sv (52 * i) k) (upd ik i (nI 1)) fa te aw) H := hP
          have hD : va_D A (mow G ad z fo sv d pa (coP ke sv (52 * i) k) (upd ik i (nI 1)) fa te aw) := hD
          subst hp60
          rw [e9] at hP hD
          exact re_i (v := (nI (bts (sv 4) 12))) hx hb hr hlocks hS () hP hD rfl dX8_keep_63
        · refine lv_aload_n hx hb dX8_keep_24 rfl (lv_at hl 0 rfl) ?_
          refine va_get (D := G.1) (ci := 7) (v := .ref (ad 4)) (C := RX8) (T := TX8) (N := 17) hx hb hts inA8 hown hX.1 hP 0 rfl rfl 5 (by decide) (hts _ kw_685) (fun _ h9 => h9) rfl dX8_keep_25 ?_
          refine lv_bipush (v := (nI 52)) hx hb dX8_keep_28 (by decide) ?_
          refine lv_iload_n hx hb dX8_keep_30 rfl (lv_at hl 1 rfl) ?_
          refine lv_imul hx hb dX8_keep_31 (ti (y := (nI (52 * i))) (pk_mul _ _) ?_)
          refine lv_iload_n hx hb dX8_keep_32 rfl (lv_at hl 2 rfl) ?_
          refine lv_iadd hx hb dX8_keep_33 (ti (y := (nI ((52 * i) + k))) (nI_add _ _) ?_)
          refine lv_aload_n hx hb dX8_keep_34 rfl (lv_at hl 0 rfl) ?_
          refine va_get (D := G.1) (ci := 7) (v := .ref (ad 1)) (C := RX8) (T := TX8) (N := 17) hx hb hts inA8 hown hX.1 hP 0 rfl rfl 1 (by decide) (hts _ kw_681) (fun _ h9 => h9) rfl dX8_keep_35 ?_
          refine lv_iload_n hx hb dX8_keep_38 rfl (lv_at hl 2 rfl) ?_
          refine nv_ald (f := sv) (k := k) hx hb hX hP 1 rfl (by omega) (by decide) dX8_keep_39 ?_
          refine nv_ast (f := (coP ke sv (52 * i) k)) (k := (52 * i) + k) (v := sv k) hx hb hX hP hD hS 4 rfl (by omega) (by decide) dX8_keep_40 (fun H locs hP hD hS => ?_)
          have hP : va_P G.1 vwCl (mow G ad z fo sv d pa (va_up (coP ke sv (52 * i) k) ((52 * i) + k) (sv k)) ik fa te aw) H := hP
          have hD : va_D A (mow G ad z fo sv d pa (va_up (coP ke sv (52 * i) k) ((52 * i) + k) (sv k)) ik fa te aw) := hD
          refine lv_iinc (v := (nI (k + 1))) (lv' := [(2, .int (nI (k + 1))), (0, .ref (ad 0)), (1, .int (nI i))]) hx hb dX8_keep_41 hl (k := 2) rfl (qn_inc _) (by decide) rfl (fun ls hl => ?_)
          refine lv_goto (tgt := 18) hx hb dX8_keep_44 (by decide) ?_
          exact ih18 (k + 1) (va_up (coP ke sv (52 * i) k) ((52 * i) + k) (sv k)) (by omega) (coP_s _ _ _ _) (by omega) _ _ hP hD hS ls (lv_sub hl [1, 2, 0] rfl)
    exact lp18 _ 0 ke (Nat.lt_succ_self _) (coP_0 _ _ _).symm (Nat.zero_le _) _ _ hP hD hS ls (lv_sub hl [1, 2, 0] rfl)
  · exact absurd c11 (by decide)

set_option maxHeartbeats 4000000 in
set_option maxRecDepth 100000 in
theorem mX8_back_state (l : Launch) (G : GG) (ad : Nat → Nat) (z : Nat → Nat) (fo : Option Nat) (sv : Nat → Nat) (d : Nat → Int32) (pa ke : Nat → Nat) (ik fa : Nat → Int32) (te aw : Nat → Nat) (i : Nat) (hi : i ≤ 1) (hik : ik i = nI 0) : Mi l yX8_back cX8_back 3 (some .int) (rmN 1 22) G [.ref (ad 0), .int (nI i)] (mow G ad z fo sv d pa ke ik fa te aw) (fun (r9 : Int32) (_ : Unit) => r9 = (-2)) (fun (_ : Unit) => mow G ad z fo sv d pa ke ik fa te aw) := by
  refine Mi.of (cc := cX8_back) (nL := 3) (by decide) (Nat.le_of_ble_eq_true rfl) ?_
  intro p e s m below meth c A ls F hr hlocks hnm hX hA hD hP hS hl
  have F : CallFix p m c cX8_back 3 s [.ref (ad 0), .int (nI i)].toArray wA RX8 := F
  obtain ⟨hx, hb, hml, hown, hts⟩ := id F
  have hl : lv_has ls 3 [(0, .ref (ad 0)), (1, .int (nI i))] := hl
  refine lv_aload_n hx hb dX8_back_0 rfl (lv_at hl 0 rfl) ?_
  refine lv_iconst (v := (nI 0)) hx hb dX8_back_1 (by decide) ?_
  refine va_put (D := G.1) (ci := 7) (v := .int (nI 0)) (ty := .int) (C := RX8) (T := TX8) (N := 17) hx hb hts inA8 tyX8 tyX8_ok nmX8 hown hX.1 hP hD hS 0 rfl rfl 0 (by decide) (hts _ kw_680) (fun _ h9 => h9) rfl (by decide +kernel) rfl rfl (Nat.le_of_ble_eq_true rfl) dX8_back_2 (fun H locs hP hD hS => ?_)
  have hP : va_P G.1 vwCl (mow G ad z fo sv d pa ke ik fa te aw) H := hP
  have hD : va_D A (mow G ad z fo sv d pa ke ik fa te aw) := hD
  refine lv_iload_n hx hb dX8_back_5 rfl (lv_at hl 1 rfl) ?_
  refine lv_iconst (v := (nI 0)) hx hb dX8_back_6 (by decide) ?_
  refine lv_iconst (v := (nI 1)) hx hb dX8_back_7 (by decide) ?_
  refine ca_Si (rest := []) (wr := mow G ad z fo sv d pa ke ik fa te aw) F hX (mX8_in l G (nI i) (nI 0) (nI 1)) (cA_S hts kw_738 kw_8 kw_736 kw_737 hdX8_in ⟨Nat.le_of_ble_eq_true rfl, Nat.le_of_ble_eq_true rfl⟩) rfl hl.1 rfl (Nat.le_of_ble_eq_true rfl) dX8_back_8 ⟨Nat.le_of_ble_eq_true rfl, Nat.le_of_ble_eq_true rfl⟩ hP hD hS hA (List.Perm.refl _) (fun r8 u8 H locs hp8 hP hD hS => ?_)
  have hP : va_P G.1 vwCl (mow G ad z fo sv d pa ke ik fa te aw) H := hP
  have hD : va_D A (mow G ad z fo sv d pa ke ik fa te aw) := hD
  subst hp8
  refine ti (y := (bI true)) (by rw [in_in (v := i) (n := 1) (by omega) (by decide)]) ?_
  refine bv_ne (b := true) (tgt := 16) hx hb dX8_back_11 (by decide) (fun c11 => ?_) (fun c11 => ?_)
  · refine lv_aload_n hx hb dX8_back_16 rfl (lv_at hl 0 rfl) ?_
    refine va_get (D := G.1) (ci := 7) (v := .ref (ad 5)) (C := RX8) (T := TX8) (N := 17) hx hb hts inA8 hown hX.1 hP 0 rfl rfl 6 (by decide) (hts _ kw_686) (fun _ h9 => h9) rfl dX8_back_17 ?_
    refine lv_iload_n hx hb dX8_back_20 rfl (lv_at hl 1 rfl) ?_
    refine va_zald (f := ik) hx hb hX.1 hP 5 1 rfl rfl (vp_in_nI (n := i) (N := 2) (by omega) (by decide)) dX8_back_21 ?_
    refine ti (y := (ik i)) (by rw [nI_clamp (by omega)]) ?_
    refine ti (y := (bI false)) (by rw [hik]; rfl) ?_
    refine bv_ne (b := false) (tgt := 28) hx hb dX8_back_22 (by decide) (fun c22 => ?_) (fun c22 => ?_)
    · exact absurd c22 (by decide)
    · refine lv_bipush (v := (-2)) hx hb dX8_back_25 (by decide) ?_
      exact re_i (v := (-2)) hx hb hr hlocks hS () hP hD rfl dX8_back_27
  · exact absurd c11 (by decide)

set_option maxHeartbeats 4000000 in
set_option maxRecDepth 100000 in
theorem mX8_back_ok (l : Launch) (G : GG) (ad : Nat → Nat) (z : Nat → Nat) (fo : Option Nat) (sv : Nat → Nat) (d : Nat → Int32) (pa ke : Nat → Nat) (ik fa : Nat → Int32) (te aw : Nat → Nat) (i : Nat) (hi : i ≤ 1) (hik : ik i = nI 1) (hB : SB (geP sv ke (52 * i) 52)) : Mi l yX8_back cX8_back 3 (some .int) (rmN 1 22) G [.ref (ad 0), .int (nI i)] (mow G ad z fo sv d pa ke ik fa te aw) (fun (r9 : Int32) (_ : Unit) => r9 = (nI (bts (geP sv ke (52 * i) 52 4) 12))) (fun (_ : Unit) => mow G ad (va_up z 4 0) fo (geP sv ke (52 * i) 52) d pa ke ik fa te aw) := by
  refine Mi.of (cc := cX8_back) (nL := 3) (by decide) (Nat.le_of_ble_eq_true rfl) ?_
  intro p e s m below meth c A ls F hr hlocks hnm hX hA hD hP hS hl
  have F : CallFix p m c cX8_back 3 s [.ref (ad 0), .int (nI i)].toArray wA RX8 := F
  obtain ⟨hx, hb, hml, hown, hts⟩ := id F
  have hl : lv_has ls 3 [(0, .ref (ad 0)), (1, .int (nI i))] := hl
  refine lv_aload_n hx hb dX8_back_0 rfl (lv_at hl 0 rfl) ?_
  refine lv_iconst (v := (nI 0)) hx hb dX8_back_1 (by decide) ?_
  refine va_put (D := G.1) (ci := 7) (v := .int (nI 0)) (ty := .int) (C := RX8) (T := TX8) (N := 17) hx hb hts inA8 tyX8 tyX8_ok nmX8 hown hX.1 hP hD hS 0 rfl rfl 0 (by decide) (hts _ kw_680) (fun _ h9 => h9) rfl (by decide +kernel) rfl rfl (Nat.le_of_ble_eq_true rfl) dX8_back_2 (fun H locs hP hD hS => ?_)
  have hP : va_P G.1 vwCl (mow G ad z fo sv d pa ke ik fa te aw) H := hP
  have hD : va_D A (mow G ad z fo sv d pa ke ik fa te aw) := hD
  refine lv_iload_n hx hb dX8_back_5 rfl (lv_at hl 1 rfl) ?_
  refine lv_iconst (v := (nI 0)) hx hb dX8_back_6 (by decide) ?_
  refine lv_iconst (v := (nI 1)) hx hb dX8_back_7 (by decide) ?_
  refine ca_Si (rest := []) (wr := mow G ad z fo sv d pa ke ik fa te aw) F hX (mX8_in l G (nI i) (nI 0) (nI 1)) (cA_S hts kw_738 kw_8 kw_736 kw_737 hdX8_in ⟨Nat.le_of_ble_eq_true rfl, Nat.le_of_ble_eq_true rfl⟩) rfl hl.1 rfl (Nat.le_of_ble_eq_true rfl) dX8_back_8 ⟨Nat.le_of_ble_eq_true rfl, Nat.le_of_ble_eq_true rfl⟩ hP hD hS hA (List.Perm.refl _) (fun r8 u8 H locs hp8 hP hD hS => ?_)
  have hP : va_P G.1 vwCl (mow G ad z fo sv d pa ke ik fa te aw) H := hP
  have hD : va_D A (mow G ad z fo sv d pa ke ik fa te aw) := hD
  subst hp8
  refine ti (y := (bI true)) (by rw [in_in (v := i) (n := 1) (by omega) (by decide)]) ?_
  refine bv_ne (b := true) (tgt := 16) hx hb dX8_back_11 (by decide) (fun c11 => ?_) (fun c11 => ?_)
  · refine lv_aload_n hx hb dX8_back_16 rfl (lv_at hl 0 rfl) ?_
    refine va_get (D := G.1) (ci := 7) (v := .ref (ad 5)) (C := RX8) (T := TX8) (N := 17) hx hb hts inA8 hown hX.1 hP 0 rfl rfl 6 (by decide) (hts _ kw_686) (fun _ h9 => h9) rfl dX8_back_17 ?_
    refine lv_iload_n hx hb dX8_back_20 rfl (lv_at hl 1 rfl) ?_
    refine va_zald (f := ik) hx hb hX.1 hP 5 1 rfl rfl (vp_in_nI (n := i) (N := 2) (by omega) (by decide)) dX8_back_21 ?_
    refine ti (y := (ik i)) (by rw [nI_clamp (by omega)]) ?_
    refine ti (y := (bI true)) (by rw [hik]; rfl) ?_
    refine bv_ne (b := true) (tgt := 28) hx hb dX8_back_22 (by decide) (fun c22 => ?_) (fun c22 => ?_)
    · refine lv_iconst (v := (nI 0)) hx hb dX8_back_28 (by decide) ?_
      refine lv_istore_n (lv' := [(2, .int (nI 0)), (0, .ref (ad 0)), (1, .int (nI i))]) hx hb dX8_back_29 rfl hl (by decide) rfl (fun ls hl => ?_)
      have lp30 : ∀ (n30 : Nat) (k : Nat) (y : Nat → Nat), (52 - k) < n30 → y = geP sv ke (52 * i) k → (k ≤ 52) → ∀ (H : Heap) (locs : List Loc), va_P G.1 vwCl (mow G ad z fo y d pa ke ik fa te aw) H → va_D A (mow G ad z fo y d pa ke ik fa te aw) → va_S A s.heap H locs → ∀ (ls : Array Slot), lv_has ls 3 [(0, .ref (ad 0)), (1, .int (nI i)), (2, .int (nI k))] → WI p l e (rmN 1 22) s m [.ref (ad 0), .int (nI i)] below meth c H locs G A (fun (r9 : Int32) (_ : Unit) => r9 = (nI (bts (geP sv ke (52 * i) 52 4) 12))) (fun (_ : Unit) => mow G ad (va_up z 4 0) fo (geP sv ke (52 * i) 52) d pa ke ik fa te aw) (F0 m 30 ls []) := by
        intro n30
        induction n30 with
        | zero => intro k y h9; exact absurd h9 (Nat.not_lt_zero _)
        | succ n30 ih30 =>
          intro k y hm30 e_y hk H locs hP hD hS ls hl
          subst e_y
          refine lv_iload_n hx hb dX8_back_30 rfl (lv_at hl 2 rfl) ?_
          refine lv_bipush (v := (nI 52)) hx hb dX8_back_31 (by decide) ?_
          refine nv_ge (x := k) (y := 52) (tgt := 59) hx hb dX8_back_33 (by decide) (by omega) (by decide) (fun c33 => ?_) (fun c33 => ?_)
          · have e9 : k = 52 := (by omega)
            rw [e9] at hP hD
            have hP : va_P G.1 vwCl (mow G ad z fo (geP sv ke (52 * i) 52) d pa ke ik fa te aw) H := by rw [show geP sv ke (52 * i) 52 = geP sv ke (52 * i) 52 from rfl]; exact hP
            have hD : va_D A (mow G ad z fo (geP sv ke (52 * i) 52) d pa ke ik fa te aw) := by rw [show geP sv ke (52 * i) 52 = geP sv ke (52 * i) 52 from rfl]; exact hD
            refine lv_aload_n hx hb dX8_back_59 rfl (lv_at hl 0 rfl) ?_
            refine lv_iconst (v := (nI 0)) hx hb dX8_back_60 (by decide) ?_
            refine va_put (D := G.1) (ci := 7) (v := .int (nI 0)) (ty := .int) (C := RX8) (T := TX8) (N := 17) hx hb hts inA8 tyX8 tyX8_ok nmX8 hown hX.1 hP hD hS 0 rfl rfl 4 (by decide) (hts _ kw_684) (fun _ h9 => h9) rfl (by decide +kernel) rfl rfl (Nat.le_of_ble_eq_true rfl) dX8_back_61 (fun H locs hP hD hS => ?_)
            have hP : va_P G.1 vwCl (mow G ad (va_up z 4 0) fo (geP sv ke (52 * i) 52) d pa ke ik fa te aw) H := hP
            have hD : va_D A (mow G ad (va_up z 4 0) fo (geP sv ke (52 * i) 52) d pa ke ik fa te aw) := hD
            refine lv_aload_n hx hb dX8_back_64 rfl (lv_at hl 0 rfl) ?_
            refine va_get (D := G.1) (ci := 7) (v := .ref (ad 1)) (C := RX8) (T := TX8) (N := 17) hx hb hts inA8 hown hX.1 hP 0 rfl rfl 1 (by decide) (hts _ kw_681) (fun _ h9 => h9) rfl dX8_back_65 ?_
            refine lv_iconst (v := (nI 4)) hx hb dX8_back_68 (by decide) ?_
            refine nv_ald (f := geP sv ke (52 * i) 52) (k := 4) hx hb hX hP 1 rfl (by omega) (by decide) dX8_back_69 ?_
            refine ca_Si (rest := []) (wr := mow G ad (va_up z 4 0) fo (geP sv ke (52 * i) 52) d pa ke ik fa te aw) F hX (mX8_bits l G ((geP sv ke (52 * i) 52) 4) (by have := hB.1.2.2.2.2.2.1; omega)) (cA_S hts kw_869 kw_8 kw_867 kw_868 hdX8_bits ⟨Nat.le_of_ble_eq_true rfl, Nat.le_of_ble_eq_true rfl⟩) rfl hl.1 rfl (Nat.le_of_ble_eq_true rfl) dX8_back_70 ⟨Nat.le_of_ble_eq_true rfl, Nat.le_of_ble_eq_true rfl⟩ hP hD hS hA (List.Perm.refl _) (fun r70 u70 H locs hp70 hP hD hS => ?_)
            have hP : va_P G.1 vwCl (mow G ad (va_up z 4 0) fo (geP sv ke (52 * i) 52) d pa ke ik fa te aw) H := hP
            have hD : va_D A (mow G ad (va_up z 4 0) fo (geP sv ke (52 * i) 52) d pa ke ik fa te aw) := hD
            subst hp70
            exact re_i (v := (nI (bts ((geP sv ke (52 * i) 52) 4) 12))) hx hb hr hlocks hS () hP hD rfl dX8_back_73
          · refine lv_aload_n hx hb dX8_back_36 rfl (lv_at hl 0 rfl) ?_
            refine va_get (D := G.1) (ci := 7) (v := .ref (ad 1)) (C := RX8) (T := TX8) (N := 17) hx hb hts inA8 hown hX.1 hP 0 rfl rfl 1 (by decide) (hts _ kw_681) (fun _ h9 => h9) rfl dX8_back_37 ?_
            refine lv_iload_n hx hb dX8_back_40 rfl (lv_at hl 2 rfl) ?_
            refine lv_aload_n hx hb dX8_back_41 rfl (lv_at hl 0 rfl) ?_
            refine va_get (D := G.1) (ci := 7) (v := .ref (ad 4)) (C := RX8) (T := TX8) (N := 17) hx hb hts inA8 hown hX.1 hP 0 rfl rfl 5 (by decide) (hts _ kw_685) (fun _ h9 => h9) rfl dX8_back_42 ?_
            refine lv_bipush (v := (nI 52)) hx hb dX8_back_45 (by decide) ?_
            refine lv_iload_n hx hb dX8_back_47 rfl (lv_at hl 1 rfl) ?_
            refine lv_imul hx hb dX8_back_48 (ti (y := (nI (52 * i))) (pk_mul _ _) ?_)
            refine lv_iload_n hx hb dX8_back_49 rfl (lv_at hl 2 rfl) ?_
            refine lv_iadd hx hb dX8_back_50 (ti (y := (nI ((52 * i) + k))) (nI_add _ _) ?_)
            refine nv_ald (f := ke) (k := (52 * i) + k) hx hb hX hP 4 rfl (by omega) (by decide) dX8_back_51 ?_
            refine nv_ast (f := (geP sv ke (52 * i) k)) (k := k) (v := ke ((52 * i) + k)) hx hb hX hP hD hS 1 rfl (by omega) (by decide) dX8_back_52 (fun H locs hP hD hS => ?_)
            have hP : va_P G.1 vwCl (mow G ad z fo (va_up (geP sv ke (52 * i) k) k (ke ((52 * i) + k))) d pa ke ik fa te aw) H := hP
            have hD : va_D A (mow G ad z fo (va_up (geP sv ke (52 * i) k) k (ke ((52 * i) + k))) d pa ke ik fa te aw) := hD
            refine lv_iinc (v := (nI (k + 1))) (lv' := [(2, .int (nI (k + 1))), (0, .ref (ad 0)), (1, .int (nI i))]) hx hb dX8_back_53 hl (k := 2) rfl (qn_inc _) (by decide) rfl (fun ls hl => ?_)
            refine lv_goto (tgt := 30) hx hb dX8_back_56 (by decide) ?_
            exact ih30 (k + 1) (va_up (geP sv ke (52 * i) k) k (ke ((52 * i) + k))) (by omega) (geP_s _ _ _ _) (by omega) _ _ hP hD hS ls (lv_sub hl [1, 2, 0] rfl)
      exact lp30 _ 0 sv (Nat.lt_succ_self _) (geP_0 _ _ _).symm (Nat.zero_le _) _ _ hP hD hS ls (lv_sub hl [1, 2, 0] rfl)
    · exact absurd c22 (by decide)
  · exact absurd c11 (by decide)

theorem hdX8_count : hdOK yX8_count 1 := by decide +kernel
set_option maxHeartbeats 4000000 in
set_option maxRecDepth 100000 in
theorem mX8_count_bad (l : Launch) (G : GG) (ad : Nat → Nat) (z : Nat → Nat) (fo : Option Nat) (sv : Nat → Nat) (d : Nat → Int32) (pa ke : Nat → Nat) (ik fa : Nat → Int32) (te aw : Nat → Nat) (y : Int32) (hy : ¬ (0 ≤ y.toInt ∧ y.toInt ≤ 9)) : Mi l yX8_count cX8_count 2 (some .int) (rmN 0 0) G [.ref (ad 0), .int y] (mow G ad z fo sv d pa ke ik fa te aw) (fun (r9 : Int32) (_ : Unit) => r9 = (-1)) (fun (_ : Unit) => mow G ad z fo sv d pa ke ik fa te aw) := by
  refine Mi.of (cc := cX8_count) (nL := 2) (by decide) (Nat.le_of_ble_eq_true rfl) ?_
  intro p e s m below meth c A ls F hr hlocks hnm hX hA hD hP hS hl
  have F : CallFix p m c cX8_count 2 s [.ref (ad 0), .int y].toArray wA RX8 := F
  obtain ⟨hx, hb, hml, hown, hts⟩ := id F
  have hl : lv_has ls 2 [(0, .ref (ad 0)), (1, .int y)] := hl
  refine lv_aload_n hx hb dX8_count_0 rfl (lv_at hl 0 rfl) ?_
  refine lv_iconst (v := (nI 0)) hx hb dX8_count_1 (by decide) ?_
  refine va_put (D := G.1) (ci := 7) (v := .int (nI 0)) (ty := .int) (C := RX8) (T := TX8) (N := 17) hx hb hts inA8 tyX8 tyX8_ok nmX8 hown hX.1 hP hD hS 0 rfl rfl 0 (by decide) (hts _ kw_680) (fun _ h9 => h9) rfl (by decide +kernel) rfl rfl (Nat.le_of_ble_eq_true rfl) dX8_count_2 (fun H locs hP hD hS => ?_)
  have hP : va_P G.1 vwCl (mow G ad z fo sv d pa ke ik fa te aw) H := hP
  have hD : va_D A (mow G ad z fo sv d pa ke ik fa te aw) := hD
  refine lv_iload_n hx hb dX8_count_5 rfl (lv_at hl 1 rfl) ?_
  refine lv_tableOut (tgt := 111) hx hb dX8_count_6 (by omega) (by decide) ?_
  refine lv_iconst (v := (-1)) hx hb dX8_count_111 (by decide) ?_
  exact re_i (v := (-1)) hx hb hr hlocks hS () hP hD rfl dX8_count_112

set_option maxHeartbeats 4000000 in
set_option maxRecDepth 100000 in
theorem mX8_count_0 (l : Launch) (G : GG) (ad : Nat → Nat) (z : Nat → Nat) (fo : Option Nat) (sv : Nat → Nat) (d : Nat → Int32) (pa ke : Nat → Nat) (ik fa : Nat → Int32) (te aw : Nat → Nat)  (hB : SB sv) : Mi l yX8_count cX8_count 2 (some .int) (rmN 0 0) G [.ref (ad 0), .int (nI 0)] (mow G ad z fo sv d pa ke ik fa te aw) (fun (r9 : Int32) (_ : Unit) => r9 = (nI (sv 0))) (fun (_ : Unit) => mow G ad z fo sv d pa ke ik fa te aw) := by
  refine Mi.of (cc := cX8_count) (nL := 2) (by decide) (Nat.le_of_ble_eq_true rfl) ?_
  intro p e s m below meth c A ls F hr hlocks hnm hX hA hD hP hS hl
  have F : CallFix p m c cX8_count 2 s [.ref (ad 0), .int (nI 0)].toArray wA RX8 := F
  obtain ⟨hx, hb, hml, hown, hts⟩ := id F
  have hl : lv_has ls 2 [(0, .ref (ad 0)), (1, .int (nI 0))] := hl
  obtain ⟨⟨b0, b1, b2, b3, b4, b5, b6, b7, b8⟩, g1, g2, g3, g4⟩ := id hB
  have gf : ∀ j, sf sv j < 10 := fun j => g1 (16 + j) (by omega)
  have gg : ∀ j, sg sv j < 10 := fun j => g1 (28 + j) (by omega)
  have gc : ∀ j, sc sv j ≤ 9 := fun j => by have := g1 (40 + j) (by omega); unfold sc; omega
  have gf7 : ∀ j, j < 12 → sf sv j < 7 := g2
  have gg7 : ∀ j, j < 12 → sg sv j < 7 := g3
  refine lv_aload_n hx hb dX8_count_0 rfl (lv_at hl 0 rfl) ?_
  refine lv_iconst (v := (nI 0)) hx hb dX8_count_1 (by decide) ?_
  refine va_put (D := G.1) (ci := 7) (v := .int (nI 0)) (ty := .int) (C := RX8) (T := TX8) (N := 17) hx hb hts inA8 tyX8 tyX8_ok nmX8 hown hX.1 hP hD hS 0 rfl rfl 0 (by decide) (hts _ kw_680) (fun _ h9 => h9) rfl (by decide +kernel) rfl rfl (Nat.le_of_ble_eq_true rfl) dX8_count_2 (fun H locs hP hD hS => ?_)
  have hP : va_P G.1 vwCl (mow G ad z fo sv d pa ke ik fa te aw) H := hP
  have hD : va_D A (mow G ad z fo sv d pa ke ik fa te aw) := hD
  refine lv_iload_n hx hb dX8_count_5 rfl (lv_at hl 1 rfl) ?_
  refine lv_tableIn (off := 54) (tgt := 60) hx hb dX8_count_6 (by decide) (by decide) (by decide +kernel) (by decide) ?_
  refine lv_aload_n hx hb dX8_count_60 rfl (lv_at hl 0 rfl) ?_
  refine va_get (D := G.1) (ci := 7) (v := .ref (ad 1)) (C := RX8) (T := TX8) (N := 17) hx hb hts inA8 hown hX.1 hP 0 rfl rfl 1 (by decide) (hts _ kw_681) (fun _ h9 => h9) rfl dX8_count_61 ?_
  refine lv_iload_n hx hb dX8_count_64 rfl (lv_at hl 1 rfl) ?_
  refine nv_ald (f := sv) (k := 0) hx hb hX hP 1 rfl (by omega) (by decide) dX8_count_65 ?_
  exact re_i (v := (nI (sv 0))) hx hb hr hlocks hS () hP hD rfl dX8_count_66

set_option maxHeartbeats 4000000 in
set_option maxRecDepth 100000 in
theorem mX8_count_1 (l : Launch) (G : GG) (ad : Nat → Nat) (z : Nat → Nat) (fo : Option Nat) (sv : Nat → Nat) (d : Nat → Int32) (pa ke : Nat → Nat) (ik fa : Nat → Int32) (te aw : Nat → Nat)  (hB : SB sv) : Mi l yX8_count cX8_count 2 (some .int) (rmN 0 0) G [.ref (ad 0), .int (nI 1)] (mow G ad z fo sv d pa ke ik fa te aw) (fun (r9 : Int32) (_ : Unit) => r9 = (nI (sv 1))) (fun (_ : Unit) => mow G ad z fo sv d pa ke ik fa te aw) := by
  refine Mi.of (cc := cX8_count) (nL := 2) (by decide) (Nat.le_of_ble_eq_true rfl) ?_
  intro p e s m below meth c A ls F hr hlocks hnm hX hA hD hP hS hl
  have F : CallFix p m c cX8_count 2 s [.ref (ad 0), .int (nI 1)].toArray wA RX8 := F
  obtain ⟨hx, hb, hml, hown, hts⟩ := id F
  have hl : lv_has ls 2 [(0, .ref (ad 0)), (1, .int (nI 1))] := hl
  obtain ⟨⟨b0, b1, b2, b3, b4, b5, b6, b7, b8⟩, g1, g2, g3, g4⟩ := id hB
  have gf : ∀ j, sf sv j < 10 := fun j => g1 (16 + j) (by omega)
  have gg : ∀ j, sg sv j < 10 := fun j => g1 (28 + j) (by omega)
  have gc : ∀ j, sc sv j ≤ 9 := fun j => by have := g1 (40 + j) (by omega); unfold sc; omega
  have gf7 : ∀ j, j < 12 → sf sv j < 7 := g2
  have gg7 : ∀ j, j < 12 → sg sv j < 7 := g3
  refine lv_aload_n hx hb dX8_count_0 rfl (lv_at hl 0 rfl) ?_
  refine lv_iconst (v := (nI 0)) hx hb dX8_count_1 (by decide) ?_
  refine va_put (D := G.1) (ci := 7) (v := .int (nI 0)) (ty := .int) (C := RX8) (T := TX8) (N := 17) hx hb hts inA8 tyX8 tyX8_ok nmX8 hown hX.1 hP hD hS 0 rfl rfl 0 (by decide) (hts _ kw_680) (fun _ h9 => h9) rfl (by decide +kernel) rfl rfl (Nat.le_of_ble_eq_true rfl) dX8_count_2 (fun H locs hP hD hS => ?_)
  have hP : va_P G.1 vwCl (mow G ad z fo sv d pa ke ik fa te aw) H := hP
  have hD : va_D A (mow G ad z fo sv d pa ke ik fa te aw) := hD
  refine lv_iload_n hx hb dX8_count_5 rfl (lv_at hl 1 rfl) ?_
  refine lv_tableIn (off := 54) (tgt := 60) hx hb dX8_count_6 (by decide) (by decide) (by decide +kernel) (by decide) ?_
  refine lv_aload_n hx hb dX8_count_60 rfl (lv_at hl 0 rfl) ?_
  refine va_get (D := G.1) (ci := 7) (v := .ref (ad 1)) (C := RX8) (T := TX8) (N := 17) hx hb hts inA8 hown hX.1 hP 0 rfl rfl 1 (by decide) (hts _ kw_681) (fun _ h9 => h9) rfl dX8_count_61 ?_
  refine lv_iload_n hx hb dX8_count_64 rfl (lv_at hl 1 rfl) ?_
  refine nv_ald (f := sv) (k := 1) hx hb hX hP 1 rfl (by omega) (by decide) dX8_count_65 ?_
  exact re_i (v := (nI (sv 1))) hx hb hr hlocks hS () hP hD rfl dX8_count_66

set_option maxHeartbeats 4000000 in
set_option maxRecDepth 100000 in
theorem mX8_count_2 (l : Launch) (G : GG) (ad : Nat → Nat) (z : Nat → Nat) (fo : Option Nat) (sv : Nat → Nat) (d : Nat → Int32) (pa ke : Nat → Nat) (ik fa : Nat → Int32) (te aw : Nat → Nat)  (hB : SB sv) : Mi l yX8_count cX8_count 2 (some .int) (rmN 0 0) G [.ref (ad 0), .int (nI 2)] (mow G ad z fo sv d pa ke ik fa te aw) (fun (r9 : Int32) (_ : Unit) => r9 = (nI (sv 2))) (fun (_ : Unit) => mow G ad z fo sv d pa ke ik fa te aw) := by
  refine Mi.of (cc := cX8_count) (nL := 2) (by decide) (Nat.le_of_ble_eq_true rfl) ?_
  intro p e s m below meth c A ls F hr hlocks hnm hX hA hD hP hS hl
  have F : CallFix p m c cX8_count 2 s [.ref (ad 0), .int (nI 2)].toArray wA RX8 := F
  obtain ⟨hx, hb, hml, hown, hts⟩ := id F
  have hl : lv_has ls 2 [(0, .ref (ad 0)), (1, .int (nI 2))] := hl
  obtain ⟨⟨b0, b1, b2, b3, b4, b5, b6, b7, b8⟩, g1, g2, g3, g4⟩ := id hB
  have gf : ∀ j, sf sv j < 10 := fun j => g1 (16 + j) (by omega)
  have gg : ∀ j, sg sv j < 10 := fun j => g1 (28 + j) (by omega)
  have gc : ∀ j, sc sv j ≤ 9 := fun j => by have := g1 (40 + j) (by omega); unfold sc; omega
  have gf7 : ∀ j, j < 12 → sf sv j < 7 := g2
  have gg7 : ∀ j, j < 12 → sg sv j < 7 := g3
  refine lv_aload_n hx hb dX8_count_0 rfl (lv_at hl 0 rfl) ?_
  refine lv_iconst (v := (nI 0)) hx hb dX8_count_1 (by decide) ?_
  refine va_put (D := G.1) (ci := 7) (v := .int (nI 0)) (ty := .int) (C := RX8) (T := TX8) (N := 17) hx hb hts inA8 tyX8 tyX8_ok nmX8 hown hX.1 hP hD hS 0 rfl rfl 0 (by decide) (hts _ kw_680) (fun _ h9 => h9) rfl (by decide +kernel) rfl rfl (Nat.le_of_ble_eq_true rfl) dX8_count_2 (fun H locs hP hD hS => ?_)
  have hP : va_P G.1 vwCl (mow G ad z fo sv d pa ke ik fa te aw) H := hP
  have hD : va_D A (mow G ad z fo sv d pa ke ik fa te aw) := hD
  refine lv_iload_n hx hb dX8_count_5 rfl (lv_at hl 1 rfl) ?_
  refine lv_tableIn (off := 54) (tgt := 60) hx hb dX8_count_6 (by decide) (by decide) (by decide +kernel) (by decide) ?_
  refine lv_aload_n hx hb dX8_count_60 rfl (lv_at hl 0 rfl) ?_
  refine va_get (D := G.1) (ci := 7) (v := .ref (ad 1)) (C := RX8) (T := TX8) (N := 17) hx hb hts inA8 hown hX.1 hP 0 rfl rfl 1 (by decide) (hts _ kw_681) (fun _ h9 => h9) rfl dX8_count_61 ?_
  refine lv_iload_n hx hb dX8_count_64 rfl (lv_at hl 1 rfl) ?_
  refine nv_ald (f := sv) (k := 2) hx hb hX hP 1 rfl (by omega) (by decide) dX8_count_65 ?_
  exact re_i (v := (nI (sv 2))) hx hb hr hlocks hS () hP hD rfl dX8_count_66

set_option maxHeartbeats 4000000 in
set_option maxRecDepth 100000 in
theorem mX8_count_3 (l : Launch) (G : GG) (ad : Nat → Nat) (z : Nat → Nat) (fo : Option Nat) (sv : Nat → Nat) (d : Nat → Int32) (pa ke : Nat → Nat) (ik fa : Nat → Int32) (te aw : Nat → Nat)  (hB : SB sv) : Mi l yX8_count cX8_count 2 (some .int) (rmN 0 0) G [.ref (ad 0), .int (nI 3)] (mow G ad z fo sv d pa ke ik fa te aw) (fun (r9 : Int32) (_ : Unit) => r9 = (nI (sv 3))) (fun (_ : Unit) => mow G ad z fo sv d pa ke ik fa te aw) := by
  refine Mi.of (cc := cX8_count) (nL := 2) (by decide) (Nat.le_of_ble_eq_true rfl) ?_
  intro p e s m below meth c A ls F hr hlocks hnm hX hA hD hP hS hl
  have F : CallFix p m c cX8_count 2 s [.ref (ad 0), .int (nI 3)].toArray wA RX8 := F
  obtain ⟨hx, hb, hml, hown, hts⟩ := id F
  have hl : lv_has ls 2 [(0, .ref (ad 0)), (1, .int (nI 3))] := hl
  obtain ⟨⟨b0, b1, b2, b3, b4, b5, b6, b7, b8⟩, g1, g2, g3, g4⟩ := id hB
  have gf : ∀ j, sf sv j < 10 := fun j => g1 (16 + j) (by omega)
  have gg : ∀ j, sg sv j < 10 := fun j => g1 (28 + j) (by omega)
  have gc : ∀ j, sc sv j ≤ 9 := fun j => by have := g1 (40 + j) (by omega); unfold sc; omega
  have gf7 : ∀ j, j < 12 → sf sv j < 7 := g2
  have gg7 : ∀ j, j < 12 → sg sv j < 7 := g3
  refine lv_aload_n hx hb dX8_count_0 rfl (lv_at hl 0 rfl) ?_
  refine lv_iconst (v := (nI 0)) hx hb dX8_count_1 (by decide) ?_
  refine va_put (D := G.1) (ci := 7) (v := .int (nI 0)) (ty := .int) (C := RX8) (T := TX8) (N := 17) hx hb hts inA8 tyX8 tyX8_ok nmX8 hown hX.1 hP hD hS 0 rfl rfl 0 (by decide) (hts _ kw_680) (fun _ h9 => h9) rfl (by decide +kernel) rfl rfl (Nat.le_of_ble_eq_true rfl) dX8_count_2 (fun H locs hP hD hS => ?_)
  have hP : va_P G.1 vwCl (mow G ad z fo sv d pa ke ik fa te aw) H := hP
  have hD : va_D A (mow G ad z fo sv d pa ke ik fa te aw) := hD
  refine lv_iload_n hx hb dX8_count_5 rfl (lv_at hl 1 rfl) ?_
  refine lv_tableIn (off := 54) (tgt := 60) hx hb dX8_count_6 (by decide) (by decide) (by decide +kernel) (by decide) ?_
  refine lv_aload_n hx hb dX8_count_60 rfl (lv_at hl 0 rfl) ?_
  refine va_get (D := G.1) (ci := 7) (v := .ref (ad 1)) (C := RX8) (T := TX8) (N := 17) hx hb hts inA8 hown hX.1 hP 0 rfl rfl 1 (by decide) (hts _ kw_681) (fun _ h9 => h9) rfl dX8_count_61 ?_
  refine lv_iload_n hx hb dX8_count_64 rfl (lv_at hl 1 rfl) ?_
  refine nv_ald (f := sv) (k := 3) hx hb hX hP 1 rfl (by omega) (by decide) dX8_count_65 ?_
  exact re_i (v := (nI (sv 3))) hx hb hr hlocks hS () hP hD rfl dX8_count_66

set_option maxHeartbeats 4000000 in
set_option maxRecDepth 100000 in
theorem mX8_count_4 (l : Launch) (G : GG) (ad : Nat → Nat) (z : Nat → Nat) (fo : Option Nat) (sv : Nat → Nat) (d : Nat → Int32) (pa ke : Nat → Nat) (ik fa : Nat → Int32) (te aw : Nat → Nat)  (hB : SB sv) : Mi l yX8_count cX8_count 2 (some .int) (rmN 1 22) G [.ref (ad 0), .int (nI 4)] (mow G ad z fo sv d pa ke ik fa te aw) (fun (r9 : Int32) (_ : Unit) => r9 = (nI (bts (sv 4) 12))) (fun (_ : Unit) => mow G ad z fo sv d pa ke ik fa te aw) := by
  refine Mi.of (cc := cX8_count) (nL := 2) (by decide) (Nat.le_of_ble_eq_true rfl) ?_
  intro p e s m below meth c A ls F hr hlocks hnm hX hA hD hP hS hl
  have F : CallFix p m c cX8_count 2 s [.ref (ad 0), .int (nI 4)].toArray wA RX8 := F
  obtain ⟨hx, hb, hml, hown, hts⟩ := id F
  have hl : lv_has ls 2 [(0, .ref (ad 0)), (1, .int (nI 4))] := hl
  obtain ⟨⟨b0, b1, b2, b3, b4, b5, b6, b7, b8⟩, g1, g2, g3, g4⟩ := id hB
  have gf : ∀ j, sf sv j < 10 := fun j => g1 (16 + j) (by omega)
  have gg : ∀ j, sg sv j < 10 := fun j => g1 (28 + j) (by omega)
  have gc : ∀ j, sc sv j ≤ 9 := fun j => by have := g1 (40 + j) (by omega); unfold sc; omega
  have gf7 : ∀ j, j < 12 → sf sv j < 7 := g2
  have gg7 : ∀ j, j < 12 → sg sv j < 7 := g3
  refine lv_aload_n hx hb dX8_count_0 rfl (lv_at hl 0 rfl) ?_
  refine lv_iconst (v := (nI 0)) hx hb dX8_count_1 (by decide) ?_
  refine va_put (D := G.1) (ci := 7) (v := .int (nI 0)) (ty := .int) (C := RX8) (T := TX8) (N := 17) hx hb hts inA8 tyX8 tyX8_ok nmX8 hown hX.1 hP hD hS 0 rfl rfl 0 (by decide) (hts _ kw_680) (fun _ h9 => h9) rfl (by decide +kernel) rfl rfl (Nat.le_of_ble_eq_true rfl) dX8_count_2 (fun H locs hP hD hS => ?_)
  have hP : va_P G.1 vwCl (mow G ad z fo sv d pa ke ik fa te aw) H := hP
  have hD : va_D A (mow G ad z fo sv d pa ke ik fa te aw) := hD
  refine lv_iload_n hx hb dX8_count_5 rfl (lv_at hl 1 rfl) ?_
  refine lv_tableIn (off := 61) (tgt := 67) hx hb dX8_count_6 (by decide) (by decide) (by decide +kernel) (by decide) ?_
  refine lv_aload_n hx hb dX8_count_67 rfl (lv_at hl 0 rfl) ?_
  refine va_get (D := G.1) (ci := 7) (v := .ref (ad 1)) (C := RX8) (T := TX8) (N := 17) hx hb hts inA8 hown hX.1 hP 0 rfl rfl 1 (by decide) (hts _ kw_681) (fun _ h9 => h9) rfl dX8_count_68 ?_
  refine lv_iconst (v := (nI 4)) hx hb dX8_count_71 (by decide) ?_
  refine nv_ald (f := sv) (k := 4) hx hb hX hP 1 rfl (by omega) (by decide) dX8_count_72 ?_
  refine ca_Si (rest := []) (wr := mow G ad z fo sv d pa ke ik fa te aw) F hX (mX8_bits l G (sv 4) (by omega)) (cA_S hts kw_869 kw_8 kw_867 kw_868 hdX8_bits ⟨Nat.le_of_ble_eq_true rfl, Nat.le_of_ble_eq_true rfl⟩) rfl hl.1 rfl (Nat.le_of_ble_eq_true rfl) dX8_count_73 ⟨Nat.le_of_ble_eq_true rfl, Nat.le_of_ble_eq_true rfl⟩ hP hD hS hA (List.Perm.refl _) (fun r73 u73 H locs hp73 hP hD hS => ?_)
  have hP : va_P G.1 vwCl (mow G ad z fo sv d pa ke ik fa te aw) H := hP
  have hD : va_D A (mow G ad z fo sv d pa ke ik fa te aw) := hD
  subst hp73
  exact re_i (v := (nI (bts (sv 4) 12))) hx hb hr hlocks hS () hP hD rfl dX8_count_76

set_option maxHeartbeats 4000000 in
set_option maxRecDepth 100000 in
theorem mX8_count_5 (l : Launch) (G : GG) (ad : Nat → Nat) (z : Nat → Nat) (fo : Option Nat) (sv : Nat → Nat) (d : Nat → Int32) (pa ke : Nat → Nat) (ik fa : Nat → Int32) (te aw : Nat → Nat)  (hB : SB sv) : Mi l yX8_count cX8_count 2 (some .int) (rmN 0 0) G [.ref (ad 0), .int (nI 5)] (mow G ad z fo sv d pa ke ik fa te aw) (fun (r9 : Int32) (_ : Unit) => r9 = (nI (sv 7))) (fun (_ : Unit) => mow G ad z fo sv d pa ke ik fa te aw) := by
  refine Mi.of (cc := cX8_count) (nL := 2) (by decide) (Nat.le_of_ble_eq_true rfl) ?_
  intro p e s m below meth c A ls F hr hlocks hnm hX hA hD hP hS hl
  have F : CallFix p m c cX8_count 2 s [.ref (ad 0), .int (nI 5)].toArray wA RX8 := F
  obtain ⟨hx, hb, hml, hown, hts⟩ := id F
  have hl : lv_has ls 2 [(0, .ref (ad 0)), (1, .int (nI 5))] := hl
  obtain ⟨⟨b0, b1, b2, b3, b4, b5, b6, b7, b8⟩, g1, g2, g3, g4⟩ := id hB
  have gf : ∀ j, sf sv j < 10 := fun j => g1 (16 + j) (by omega)
  have gg : ∀ j, sg sv j < 10 := fun j => g1 (28 + j) (by omega)
  have gc : ∀ j, sc sv j ≤ 9 := fun j => by have := g1 (40 + j) (by omega); unfold sc; omega
  have gf7 : ∀ j, j < 12 → sf sv j < 7 := g2
  have gg7 : ∀ j, j < 12 → sg sv j < 7 := g3
  refine lv_aload_n hx hb dX8_count_0 rfl (lv_at hl 0 rfl) ?_
  refine lv_iconst (v := (nI 0)) hx hb dX8_count_1 (by decide) ?_
  refine va_put (D := G.1) (ci := 7) (v := .int (nI 0)) (ty := .int) (C := RX8) (T := TX8) (N := 17) hx hb hts inA8 tyX8 tyX8_ok nmX8 hown hX.1 hP hD hS 0 rfl rfl 0 (by decide) (hts _ kw_680) (fun _ h9 => h9) rfl (by decide +kernel) rfl rfl (Nat.le_of_ble_eq_true rfl) dX8_count_2 (fun H locs hP hD hS => ?_)
  have hP : va_P G.1 vwCl (mow G ad z fo sv d pa ke ik fa te aw) H := hP
  have hD : va_D A (mow G ad z fo sv d pa ke ik fa te aw) := hD
  refine lv_iload_n hx hb dX8_count_5 rfl (lv_at hl 1 rfl) ?_
  refine lv_tableIn (off := 71) (tgt := 77) hx hb dX8_count_6 (by decide) (by decide) (by decide +kernel) (by decide) ?_
  refine lv_aload_n hx hb dX8_count_77 rfl (lv_at hl 0 rfl) ?_
  refine va_get (D := G.1) (ci := 7) (v := .ref (ad 1)) (C := RX8) (T := TX8) (N := 17) hx hb hts inA8 hown hX.1 hP 0 rfl rfl 1 (by decide) (hts _ kw_681) (fun _ h9 => h9) rfl dX8_count_78 ?_
  refine lv_bipush (v := (nI 7)) hx hb dX8_count_81 (by decide) ?_
  refine nv_ald (f := sv) (k := 7) hx hb hX hP 1 rfl (by omega) (by decide) dX8_count_83 ?_
  exact re_i (v := (nI (sv 7))) hx hb hr hlocks hS () hP hD rfl dX8_count_84

set_option maxHeartbeats 4000000 in
set_option maxRecDepth 100000 in
theorem mX8_count_6 (l : Launch) (G : GG) (ad : Nat → Nat) (z : Nat → Nat) (fo : Option Nat) (sv : Nat → Nat) (d : Nat → Int32) (pa ke : Nat → Nat) (ik fa : Nat → Int32) (te aw : Nat → Nat)  (hB : SB sv) : Mi l yX8_count cX8_count 2 (some .int) (rmN 1 22) G [.ref (ad 0), .int (nI 6)] (mow G ad z fo sv d pa ke ik fa te aw) (fun (r9 : Int32) (_ : Unit) => r9 = (nI (bts (sv 6) 12))) (fun (_ : Unit) => mow G ad z fo sv d pa ke ik fa te aw) := by
  refine Mi.of (cc := cX8_count) (nL := 2) (by decide) (Nat.le_of_ble_eq_true rfl) ?_
  intro p e s m below meth c A ls F hr hlocks hnm hX hA hD hP hS hl
  have F : CallFix p m c cX8_count 2 s [.ref (ad 0), .int (nI 6)].toArray wA RX8 := F
  obtain ⟨hx, hb, hml, hown, hts⟩ := id F
  have hl : lv_has ls 2 [(0, .ref (ad 0)), (1, .int (nI 6))] := hl
  obtain ⟨⟨b0, b1, b2, b3, b4, b5, b6, b7, b8⟩, g1, g2, g3, g4⟩ := id hB
  have gf : ∀ j, sf sv j < 10 := fun j => g1 (16 + j) (by omega)
  have gg : ∀ j, sg sv j < 10 := fun j => g1 (28 + j) (by omega)
  have gc : ∀ j, sc sv j ≤ 9 := fun j => by have := g1 (40 + j) (by omega); unfold sc; omega
  have gf7 : ∀ j, j < 12 → sf sv j < 7 := g2
  have gg7 : ∀ j, j < 12 → sg sv j < 7 := g3
  refine lv_aload_n hx hb dX8_count_0 rfl (lv_at hl 0 rfl) ?_
  refine lv_iconst (v := (nI 0)) hx hb dX8_count_1 (by decide) ?_
  refine va_put (D := G.1) (ci := 7) (v := .int (nI 0)) (ty := .int) (C := RX8) (T := TX8) (N := 17) hx hb hts inA8 tyX8 tyX8_ok nmX8 hown hX.1 hP hD hS 0 rfl rfl 0 (by decide) (hts _ kw_680) (fun _ h9 => h9) rfl (by decide +kernel) rfl rfl (Nat.le_of_ble_eq_true rfl) dX8_count_2 (fun H locs hP hD hS => ?_)
  have hP : va_P G.1 vwCl (mow G ad z fo sv d pa ke ik fa te aw) H := hP
  have hD : va_D A (mow G ad z fo sv d pa ke ik fa te aw) := hD
  refine lv_iload_n hx hb dX8_count_5 rfl (lv_at hl 1 rfl) ?_
  refine lv_tableIn (off := 79) (tgt := 85) hx hb dX8_count_6 (by decide) (by decide) (by decide +kernel) (by decide) ?_
  refine lv_aload_n hx hb dX8_count_85 rfl (lv_at hl 0 rfl) ?_
  refine va_get (D := G.1) (ci := 7) (v := .ref (ad 1)) (C := RX8) (T := TX8) (N := 17) hx hb hts inA8 hown hX.1 hP 0 rfl rfl 1 (by decide) (hts _ kw_681) (fun _ h9 => h9) rfl dX8_count_86 ?_
  refine lv_bipush (v := (nI 6)) hx hb dX8_count_89 (by decide) ?_
  refine nv_ald (f := sv) (k := 6) hx hb hX hP 1 rfl (by omega) (by decide) dX8_count_91 ?_
  refine ca_Si (rest := []) (wr := mow G ad z fo sv d pa ke ik fa te aw) F hX (mX8_bits l G (sv 6) (by omega)) (cA_S hts kw_869 kw_8 kw_867 kw_868 hdX8_bits ⟨Nat.le_of_ble_eq_true rfl, Nat.le_of_ble_eq_true rfl⟩) rfl hl.1 rfl (Nat.le_of_ble_eq_true rfl) dX8_count_92 ⟨Nat.le_of_ble_eq_true rfl, Nat.le_of_ble_eq_true rfl⟩ hP hD hS hA (List.Perm.refl _) (fun r92 u92 H locs hp92 hP hD hS => ?_)
  have hP : va_P G.1 vwCl (mow G ad z fo sv d pa ke ik fa te aw) H := hP
  have hD : va_D A (mow G ad z fo sv d pa ke ik fa te aw) := hD
  subst hp92
  exact re_i (v := (nI (bts (sv 6) 12))) hx hb hr hlocks hS () hP hD rfl dX8_count_95

set_option maxHeartbeats 4000000 in
set_option maxRecDepth 100000 in
theorem mX8_count_7 (l : Launch) (G : GG) (ad : Nat → Nat) (z : Nat → Nat) (fo : Option Nat) (sv : Nat → Nat) (d : Nat → Int32) (pa ke : Nat → Nat) (ik fa : Nat → Int32) (te aw : Nat → Nat)  (hB : SB sv) : Mi l yX8_count cX8_count 2 (some .int) (rmN 0 0) G [.ref (ad 0), .int (nI 7)] (mow G ad z fo sv d pa ke ik fa te aw) (fun (r9 : Int32) (_ : Unit) => r9 = (nI (z 8))) (fun (_ : Unit) => mow G ad z fo sv d pa ke ik fa te aw) := by
  refine Mi.of (cc := cX8_count) (nL := 2) (by decide) (Nat.le_of_ble_eq_true rfl) ?_
  intro p e s m below meth c A ls F hr hlocks hnm hX hA hD hP hS hl
  have F : CallFix p m c cX8_count 2 s [.ref (ad 0), .int (nI 7)].toArray wA RX8 := F
  obtain ⟨hx, hb, hml, hown, hts⟩ := id F
  have hl : lv_has ls 2 [(0, .ref (ad 0)), (1, .int (nI 7))] := hl
  obtain ⟨⟨b0, b1, b2, b3, b4, b5, b6, b7, b8⟩, g1, g2, g3, g4⟩ := id hB
  have gf : ∀ j, sf sv j < 10 := fun j => g1 (16 + j) (by omega)
  have gg : ∀ j, sg sv j < 10 := fun j => g1 (28 + j) (by omega)
  have gc : ∀ j, sc sv j ≤ 9 := fun j => by have := g1 (40 + j) (by omega); unfold sc; omega
  have gf7 : ∀ j, j < 12 → sf sv j < 7 := g2
  have gg7 : ∀ j, j < 12 → sg sv j < 7 := g3
  refine lv_aload_n hx hb dX8_count_0 rfl (lv_at hl 0 rfl) ?_
  refine lv_iconst (v := (nI 0)) hx hb dX8_count_1 (by decide) ?_
  refine va_put (D := G.1) (ci := 7) (v := .int (nI 0)) (ty := .int) (C := RX8) (T := TX8) (N := 17) hx hb hts inA8 tyX8 tyX8_ok nmX8 hown hX.1 hP hD hS 0 rfl rfl 0 (by decide) (hts _ kw_680) (fun _ h9 => h9) rfl (by decide +kernel) rfl rfl (Nat.le_of_ble_eq_true rfl) dX8_count_2 (fun H locs hP hD hS => ?_)
  have hP : va_P G.1 vwCl (mow G ad z fo sv d pa ke ik fa te aw) H := hP
  have hD : va_D A (mow G ad z fo sv d pa ke ik fa te aw) := hD
  refine lv_iload_n hx hb dX8_count_5 rfl (lv_at hl 1 rfl) ?_
  refine lv_tableIn (off := 90) (tgt := 96) hx hb dX8_count_6 (by decide) (by decide) (by decide +kernel) (by decide) ?_
  refine lv_aload_n hx hb dX8_count_96 rfl (lv_at hl 0 rfl) ?_
  refine va_get (D := G.1) (ci := 7) (v := .int (nI (z 8))) (C := RX8) (T := TX8) (N := 17) hx hb hts inA8 hown hX.1 hP 0 rfl rfl 8 (by decide) (hts _ kw_688) (fun _ h9 => h9) rfl dX8_count_97 ?_
  exact re_i (v := (nI (z 8))) hx hb hr hlocks hS () hP hD rfl dX8_count_100

set_option maxHeartbeats 4000000 in
set_option maxRecDepth 100000 in
theorem mX8_count_8 (l : Launch) (G : GG) (ad : Nat → Nat) (z : Nat → Nat) (fo : Option Nat) (sv : Nat → Nat) (d : Nat → Int32) (pa ke : Nat → Nat) (ik fa : Nat → Int32) (te aw : Nat → Nat)  (hB : SB sv) : Mi l yX8_count cX8_count 2 (some .int) (rmN 0 0) G [.ref (ad 0), .int (nI 8)] (mow G ad z fo sv d pa ke ik fa te aw) (fun (r9 : Int32) (_ : Unit) => r9 = (nI (z 10))) (fun (_ : Unit) => mow G ad z fo sv d pa ke ik fa te aw) := by
  refine Mi.of (cc := cX8_count) (nL := 2) (by decide) (Nat.le_of_ble_eq_true rfl) ?_
  intro p e s m below meth c A ls F hr hlocks hnm hX hA hD hP hS hl
  have F : CallFix p m c cX8_count 2 s [.ref (ad 0), .int (nI 8)].toArray wA RX8 := F
  obtain ⟨hx, hb, hml, hown, hts⟩ := id F
  have hl : lv_has ls 2 [(0, .ref (ad 0)), (1, .int (nI 8))] := hl
  obtain ⟨⟨b0, b1, b2, b3, b4, b5, b6, b7, b8⟩, g1, g2, g3, g4⟩ := id hB
  have gf : ∀ j, sf sv j < 10 := fun j => g1 (16 + j) (by omega)
  have gg : ∀ j, sg sv j < 10 := fun j => g1 (28 + j) (by omega)
  have gc : ∀ j, sc sv j ≤ 9 := fun j => by have := g1 (40 + j) (by omega); unfold sc; omega
  have gf7 : ∀ j, j < 12 → sf sv j < 7 := g2
  have gg7 : ∀ j, j < 12 → sg sv j < 7 := g3
  refine lv_aload_n hx hb dX8_count_0 rfl (lv_at hl 0 rfl) ?_
  refine lv_iconst (v := (nI 0)) hx hb dX8_count_1 (by decide) ?_
  refine va_put (D := G.1) (ci := 7) (v := .int (nI 0)) (ty := .int) (C := RX8) (T := TX8) (N := 17) hx hb hts inA8 tyX8 tyX8_ok nmX8 hown hX.1 hP hD hS 0 rfl rfl 0 (by decide) (hts _ kw_680) (fun _ h9 => h9) rfl (by decide +kernel) rfl rfl (Nat.le_of_ble_eq_true rfl) dX8_count_2 (fun H locs hP hD hS => ?_)
  have hP : va_P G.1 vwCl (mow G ad z fo sv d pa ke ik fa te aw) H := hP
  have hD : va_D A (mow G ad z fo sv d pa ke ik fa te aw) := hD
  refine lv_iload_n hx hb dX8_count_5 rfl (lv_at hl 1 rfl) ?_
  refine lv_tableIn (off := 95) (tgt := 101) hx hb dX8_count_6 (by decide) (by decide) (by decide +kernel) (by decide) ?_
  refine lv_aload_n hx hb dX8_count_101 rfl (lv_at hl 0 rfl) ?_
  refine va_get (D := G.1) (ci := 7) (v := .int (nI (z 10))) (C := RX8) (T := TX8) (N := 17) hx hb hts inA8 hown hX.1 hP 0 rfl rfl 10 (by decide) (hts _ kw_690) (fun _ h9 => h9) rfl dX8_count_102 ?_
  exact re_i (v := (nI (z 10))) hx hb hr hlocks hS () hP hD rfl dX8_count_105

set_option maxHeartbeats 4000000 in
set_option maxRecDepth 100000 in
theorem mX8_count_9 (l : Launch) (G : GG) (ad : Nat → Nat) (z : Nat → Nat) (fo : Option Nat) (sv : Nat → Nat) (d : Nat → Int32) (pa ke : Nat → Nat) (ik fa : Nat → Int32) (te aw : Nat → Nat)  (hB : SB sv) : Mi l yX8_count cX8_count 2 (some .int) (rmN 0 0) G [.ref (ad 0), .int (nI 9)] (mow G ad z fo sv d pa ke ik fa te aw) (fun (r9 : Int32) (_ : Unit) => r9 = (nI (z 4))) (fun (_ : Unit) => mow G ad z fo sv d pa ke ik fa te aw) := by
  refine Mi.of (cc := cX8_count) (nL := 2) (by decide) (Nat.le_of_ble_eq_true rfl) ?_
  intro p e s m below meth c A ls F hr hlocks hnm hX hA hD hP hS hl
  have F : CallFix p m c cX8_count 2 s [.ref (ad 0), .int (nI 9)].toArray wA RX8 := F
  obtain ⟨hx, hb, hml, hown, hts⟩ := id F
  have hl : lv_has ls 2 [(0, .ref (ad 0)), (1, .int (nI 9))] := hl
  obtain ⟨⟨b0, b1, b2, b3, b4, b5, b6, b7, b8⟩, g1, g2, g3, g4⟩ := id hB
  have gf : ∀ j, sf sv j < 10 := fun j => g1 (16 + j) (by omega)
  have gg : ∀ j, sg sv j < 10 := fun j => g1 (28 + j) (by omega)
  have gc : ∀ j, sc sv j ≤ 9 := fun j => by have := g1 (40 + j) (by omega); unfold sc; omega
  have gf7 : ∀ j, j < 12 → sf sv j < 7 := g2
  have gg7 : ∀ j, j < 12 → sg sv j < 7 := g3
  refine lv_aload_n hx hb dX8_count_0 rfl (lv_at hl 0 rfl) ?_
  refine lv_iconst (v := (nI 0)) hx hb dX8_count_1 (by decide) ?_
  refine va_put (D := G.1) (ci := 7) (v := .int (nI 0)) (ty := .int) (C := RX8) (T := TX8) (N := 17) hx hb hts inA8 tyX8 tyX8_ok nmX8 hown hX.1 hP hD hS 0 rfl rfl 0 (by decide) (hts _ kw_680) (fun _ h9 => h9) rfl (by decide +kernel) rfl rfl (Nat.le_of_ble_eq_true rfl) dX8_count_2 (fun H locs hP hD hS => ?_)
  have hP : va_P G.1 vwCl (mow G ad z fo sv d pa ke ik fa te aw) H := hP
  have hD : va_D A (mow G ad z fo sv d pa ke ik fa te aw) := hD
  refine lv_iload_n hx hb dX8_count_5 rfl (lv_at hl 1 rfl) ?_
  refine lv_tableIn (off := 100) (tgt := 106) hx hb dX8_count_6 (by decide) (by decide) (by decide +kernel) (by decide) ?_
  refine lv_aload_n hx hb dX8_count_106 rfl (lv_at hl 0 rfl) ?_
  refine va_get (D := G.1) (ci := 7) (v := .int (nI (z 4))) (C := RX8) (T := TX8) (N := 17) hx hb hts inA8 hown hX.1 hP 0 rfl rfl 4 (by decide) (hts _ kw_684) (fun _ h9 => h9) rfl dX8_count_107 ?_
  exact re_i (v := (nI (z 4))) hx hb hr hlocks hS () hP hD rfl dX8_count_110

