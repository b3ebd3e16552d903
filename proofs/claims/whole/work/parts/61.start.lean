/-! the start: what the tables and the premises give -/
theorem ex_mk {args : Array Value} {s : State} {en n : Nat} {ch : Nat → Nat} {tx : String} {A : Nat → Prop} (hA : ∀ a : Nat, a < s.heap.size → ¬ A a) (hn : n < 2 ^ 31) (hex : (Cond.exactly (.string RX5 en) "java/lang/String").before args s = true) (hco : (Cond.eq (.field (.string RX5 en) "java/lang/String" "coder" "B") (.int 0)).before args s = true) (har : (Cond.arrayOf (.field (.string RX5 en) "java/lang/String" "value" "[B") .byte).before args s = true) (hle : (Cond.eq (.length (.field (.string RX5 en) "java/lang/String" "value" "[B")) (.int (Int32.ofNat n))).before args s = true) (hel : ∀ j : Nat, j < n → (Cond.eq (.elem (.field (.string RX5 en) "java/lang/String" "value" "[B") (.int (Int32.ofNat j))) (.int (nI (ch j)))).before args s = true) (hz : va_Z "java/lang/String" "COMPACT_STRINGS" "Z" (.int 1) A s s.heap) (hq : va_Zq "jdk/internal/util/Preconditions" "SIOOBE_FORMATTER" "Ljava/util/function/BiFunction;" A s s.heap) (hsr : (Cond.stringRef RX5 en tx).before args s = true) : ∃ k v : Nat, EX k v n (fun j => nI (ch j)) A s ∧ vk_R RX5 en tx k s := by
  obtain ⟨a, c, cA, kA, q1, q2, q3, q4, q5, q6, -⟩ := Cond.exactly_spec (args := args) (first := s) (o := none) (s := s) (idx := []) (t := .string RX5 en) (cls := "java/lang/String") hex
  obtain ⟨t, ht, hT⟩ := va_Tof (f := fun j => .int (nI (ch j))) (A := A) hn har (va_eqt hle) (fun j hj => va_eqt (hel j hj)) hA
  exact ⟨a, t, ⟨va_Oof hex q1 hA, vk_OFof q1 (va_eqt hco) hA, vk_OFof q1 ht hA, hT, hz, hq⟩, vk_R.of hsr q1⟩
theorem tb_in {w : Cond} {i : Nat} (h : tables_1[i]? = some w) : w ∈ lw_tbl := List.mem_append_right _ (List.mem_of_getElem? h)
set_option maxRecDepth 100000 in
set_option maxHeartbeats 4000000 in
theorem st_E4 {args : Array Value} {s : State} (hts : ∀ w ∈ lw_tbl, w.before args s = true) (hgv : (Jvm.Cond.and given_1 narrow_1).before args s = true) {A : Nat → Prop} (hA : ∀ a : Nat, a < s.heap.size → ¬ A a) : ∃ sk sv : Nat → Nat, E4 sk sv A s := by
  have hs := flat_of_before _ hgv
  have hz : va_Z "java/lang/String" "COMPACT_STRINGS" "Z" (.int 1) A s s.heap := va_Zof (hts _ (tb_in (i := 281) (by decide +kernel))) (hts _ (tb_in (i := 9) (by decide +kernel))) (va_eqi (hs _ (by decide +kernel))) hA
  have hq : va_Zq "jdk/internal/util/Preconditions" "SIOOBE_FORMATTER" "Ljava/util/function/BiFunction;" A s s.heap := va_Zqof (hts _ (tb_in (i := 297) (by decide +kernel))) (hts _ (tb_in (i := 11) (by decide +kernel))) (hs _ (by decide +kernel)) hA
  obtain ⟨k0, v0, x0, y0⟩ := ex_mk (en := 44) (n := 5) (ch := sch 0) (tx := "nodes") hA (by decide) (hs _ (by decide +kernel)) (hs _ (by decide +kernel)) (hs _ (by decide +kernel)) (hs _ (by decide +kernel)) (fun j hj => by rcases (show j = 0 ∨ j = 1 ∨ j = 2 ∨ j = 3 ∨ j = 4 by omega) with rfl | rfl | rfl | rfl | rfl <;> exact hs _ (by decide +kernel)) hz hq (hts _ (tb_in (i := 267) (by decide +kernel)))
  obtain ⟨k1, v1, x1, y1⟩ := ex_mk (en := 54) (n := 6) (ch := sch 1) (tx := "source") hA (by decide) (hs _ (by decide +kernel)) (hs _ (by decide +kernel)) (hs _ (by decide +kernel)) (hs _ (by decide +kernel)) (fun j hj => by rcases (show j = 0 ∨ j = 1 ∨ j = 2 ∨ j = 3 ∨ j = 4 ∨ j = 5 by omega) with rfl | rfl | rfl | rfl | rfl | rfl <;> exact hs _ (by decide +kernel)) hz hq (hts _ (tb_in (i := 328) (by decide +kernel)))
  obtain ⟨k2, v2, x2, y2⟩ := ex_mk (en := 59) (n := 5) (ch := sch 2) (tx := "limit") hA (by decide) (hs _ (by decide +kernel)) (hs _ (by decide +kernel)) (hs _ (by decide +kernel)) (hs _ (by decide +kernel)) (fun j hj => by rcases (show j = 0 ∨ j = 1 ∨ j = 2 ∨ j = 3 ∨ j = 4 by omega) with rfl | rfl | rfl | rfl | rfl <;> exact hs _ (by decide +kernel)) hz hq (hts _ (tb_in (i := 333) (by decide +kernel)))
  obtain ⟨k3, v3, x3, y3⟩ := ex_mk (en := 64) (n := 4) (ch := sch 3) (tx := "link") hA (by decide) (hs _ (by decide +kernel)) (hs _ (by decide +kernel)) (hs _ (by decide +kernel)) (hs _ (by decide +kernel)) (fun j hj => by rcases (show j = 0 ∨ j = 1 ∨ j = 2 ∨ j = 3 by omega) with rfl | rfl | rfl | rfl <;> exact hs _ (by decide +kernel)) hz hq (hts _ (tb_in (i := 338) (by decide +kernel)))
  exact ⟨adL [k0, k1, k2, k3], adL [v0, v1, v2, v3], ⟨x0, x1, x2, x3⟩, y0, y1, y2, y3⟩
set_option maxRecDepth 100000 in
set_option maxHeartbeats 4000000 in
theorem st_CX {args : Array Value} {s : State} (hts : ∀ w ∈ lw_tbl, w.before args s = true) : ∃ G : GG, CX G s := by
  have htA : ∀ w ∈ wA, w.before args s = true := fun w hw => hts w (List.mem_filter.mp hw).1
  obtain ⟨c0, i0, k0⟩ := u_known (C := RX0) (T := TX0) (N := 1) (n := 1) htA inA0 (htA _ kw_153)
  obtain ⟨c1, i1, k1⟩ := u_known (C := RX2) (T := TX2) (N := 3) (n := 3) htA inA2 (htA _ kw_133)
  obtain ⟨c2, i2, k2⟩ := u_known (C := RX3) (T := TX3) (N := 3) (n := 3) htA inA3 (htA _ kw_178)
  obtain ⟨c3, i3, k3⟩ := u_known (C := RX4) (T := TX4) (N := 12) (n := 12) htA inA4 (htA _ kw_57)
  obtain ⟨c4, i4, k4⟩ := u_known (C := RX5) (T := TX5) (N := 7) (n := 7) htA inA5 (htA _ kw_27)
  obtain ⟨c5, i5, k5⟩ := u_known (C := RX6) (T := TX6) (N := 2) (n := 2) htA inA6 (htA _ kw_159)
  obtain ⟨c6, i6, k6⟩ := u_known (C := RX7) (T := TX7) (N := 9) (n := 9) htA inA7 (htA _ kw_19)
  obtain ⟨c7, i7, k7⟩ := u_known (C := RX8) (T := TX8) (N := 17) (n := 17) htA inA8 (htA _ kw_675)
  obtain ⟨aI, kI, mI, f1, f2, f3⟩ := Cond.arrayClass_spec (htA _ kw_55)
  obtain ⟨aZ, kZ, mZ, g1, g2, g3⟩ := Cond.arrayClass_spec (htA _ kw_222)
  obtain ⟨aB, kB, mB, h1, h2, h3⟩ := Cond.arrayClass_spec (htA _ kw_381)
  obtain ⟨mT, aT, kT, j1, j2, j3, j4, j5⟩ := Cond.arrayOver_spec (hts (Cond.arrayOver (.object RX4)) (tb_in (i := 139) (by decide +kernel)))
  refine ⟨((fun k => if k = 0 then c0 else if k = 1 then c1 else if k = 2 then c2 else if k = 3 then c3 else if k = 4 then c4 else if k = 5 then c5 else if k = 6 then c6 else c7, fun k => if k = 0 then i0 else if k = 1 then i1 else if k = 2 then i2 else if k = 3 then i3 else if k = 4 then i4 else if k = 5 then i5 else if k = 6 then i6 else i7), fun k => if k = 0 then aI else if k = 1 then aZ else if k = 2 then aB else aT), ⟨?_, ?_⟩, ?_⟩
  · intro k q hq
    match k, hq with
    | 0, hq => cases hq; exact k0
    | 1, hq => cases hq; exact k1
    | 2, hq => cases hq; exact k2
    | 3, hq => cases hq; exact k3
    | 4, hq => cases hq; exact k4
    | 5, hq => cases hq; exact k5
    | 6, hq => cases hq; exact k6
    | 7, hq => cases hq; exact k7
    | k + 8, hq => simp [vwCl] at hq
  · intro k q hq
    match k, hq with
    | 0, hq => cases hq; exact ⟨fun n z => ⟨fun _ h => (by cases h), kI, f2, mI, f3⟩, f1⟩
    | 1, hq => cases hq; exact ⟨fun n z => ⟨fun _ h => (by cases h), kZ, g2, mZ, g3⟩, g1⟩
    | 2, hq => cases hq; exact ⟨fun n z => ⟨fun _ h => (by cases h), kB, h2, mB, h3⟩, h1⟩
    | 3, hq => cases hq; exact ⟨fun n z => ⟨fun _ h => (by cases h), kT, j3, mT, j4⟩, kT, mT, j3, j4, j1, j5⟩
    | k + 4, hq => simp [tyL] at hq
  · exact ⟨va_Nw.of rfl (hts _ (tb_in (i := 28) (by decide +kernel))), va_Nw.of rfl (hts _ (tb_in (i := 58) (by decide +kernel))), va_Nw.of rfl (hts _ (tb_in (i := 154) (by decide +kernel))), va_Nw.of rfl (hts _ (tb_in (i := 176) (by decide +kernel))), va_Nw.of rfl (hts _ (tb_in (i := 179) (by decide +kernel))), va_Nw.of rfl (hts _ (tb_in (i := 160) (by decide +kernel))), va_Nw.of rfl (hts _ (tb_in (i := 477) (by decide +kernel))), va_Nw.of rfl (hts _ (tb_in (i := 610) (by decide +kernel))), va_Nw.of rfl (hts _ (tb_in (i := 140) (by decide +kernel))), va_Nw.of rfl (hts _ (tb_in (i := 355) (by decide +kernel))), va_Nw.of rfl (hts _ (tb_in (i := 422) (by decide +kernel)))⟩
/-! the two objects at first -/
def x00 : CS := (fun _ => nI 0, (fun _ => 0, fun _ => 0), (tk0, rk0), (tk0, rk0), (0, 0, fun _ => tk0, fun _ => rk0), (fun _ => 0, 0), (fun _ => 0, 0), (fun _ => 0, fun _ => nI 0, 0), (tk0, rk0), (tk0, rk0))
def y00 : MS := (fun _ => 0, some 0, va_up (fun _ => 0) 0 2, fun _ => nI 0, fun _ => 0, fun _ => 0, fun _ => nI 0, fun _ => nI 0, fun _ => 0, fun _ => 0)
theorem tr00 : TR tk0 rk0 (va_up (fun _ => 0) 0 2) := by
  have hz : ∀ j, j ≠ 0 → va_up (fun _ => (0 : Nat)) 0 2 j = 0 := fun j hj => va_up_ne _ _ hj
  have hT : TB tk0 rk0 := ⟨by decide, by decide, by decide, by decide, by decide, fun _ => Nat.zero_lt_succ 6, fun _ => Nat.zero_lt_succ 6, fun _ => Nat.zero_le 9, by decide, by decide, by decide, by decide, fun _ => Nat.zero_lt_succ 6⟩
  refine ⟨⟨hT, ⟨hT.2.2.2.2.2.1, hT.2.2.2.2.2.2.1, by decide, by decide, by decide, by decide, fun k hk => absurd hk (Nat.not_lt_zero _)⟩, Gw.z _ _ _ _, fun k hk => (zb hk).elim, fun v hv => (zb hv).elim, fun i j hi => absurd hi (Nat.not_lt_zero _), fun i hi => absurd hi (Nat.not_lt_zero _)⟩, ⟨by decide, ?_, ?_, ?_, ?_⟩, by decide, fun k hk => absurd hk (Nat.not_lt_zero _), fun k hk => absurd hk (Nat.not_lt_zero _)⟩
  · intro j hj; rw [hz j (by omega)]; omega
  · intro j hj; rw [hz _ (by omega)]; omega
  · intro j hj; rw [hz _ (by omega)]; omega
  · intro j hj; rw [hz _ (by omega)]; omega
theorem rel00 : RTT x00 y00 := by
  refine ⟨⟨⟨rfl, rfl, ?_⟩, tr00, ⟨fun _ => Nat.zero_lt_succ 6, fun _ => Nat.zero_lt_succ 6, fun _ => Nat.zero_le 9, fun _ => Nat.zero_lt_succ 6⟩, ⟨rfl, by decide, by decide, fun t ht => absurd ht (Nat.not_lt_zero _)⟩, ⟨rfl, by decide, fun _ => Nat.zero_lt_succ 1, fun i hi => absurd hi (Nat.not_lt_zero _)⟩, ⟨rfl, rfl, Or.inl rfl, Or.inl rfl⟩⟩, fun _ => Nat.zero_le _⟩
  exact ⟨by decide, by decide, by decide, by decide, by decide, by decide, fun _ => Nat.zero_lt_succ 255⟩
theorem jj00 (l : Launch) (G : GG) (sk sv : Nat → Nat) : JJ l G sk sv RTT := ⟨j_type l G, j_clear l G, j_tells l G sk sv, j_joins l G, j_leaves l G, j_rearranges l G, j_cuts l G, j_mends l G, j_limits l G, j_undo l G, j_link l G, j_node l G, j_way l G, j_tree l G, j_sees l G, j_forget l G, j_which l G, j_keep l G, j_back l G, j_count l G⟩
set_option maxRecDepth 100000 in
set_option maxHeartbeats 8000000 in
theorem whole_start {p : Program} {e : Env} {s : State} {m : MethodId} {below : List Frame} {meth : Method} {c : Code} (l : Launch) (hflags : l.flags = flags0) {b L : Nat} {xs : Nat → Int32} (hL : L ≤ 1536) (C0 : lw_At p s m meth c b L xs) : W p l e room_1 s m #[Value.ref b] below meth c s.heap [] 0 0 (lw_Z below #[Value.ref b] s) (entryFrame m ([Value.ref b] : List Value).toArray 4) := by
  obtain ⟨hx, hb, hr, hml, hown, htl, hXs, hbl, hlocks, hgv⟩ := id C0
  have hts : ∀ w ∈ wA, w.before #[Value.ref b] s = true := fun w hw => htl w (List.mem_filter.mp hw).1
  have F : CallFix p m c cL_law 4 s #[Value.ref b] wA RL := ⟨hx, hb, hml, hown, hts⟩
  obtain ⟨G, hX⟩ := st_CX htl
  have hA : ∀ q : Nat, s.heap.size ≤ q → (fun q : Nat => s.heap.size ≤ q) q := fun _ h => h
  obtain ⟨sk, sv, hE⟩ := st_E4 htl hgv (A := fun q : Nat => s.heap.size ≤ q) (fun a h1 h2 => absurd h2 (Nat.not_le.mpr h1))
  have hEO : EO (fun q : Nat => s.heap.size ≤ q) s := va_AO.of (htl (Cond.arrayOver (.object RX4)) (tb_in (i := 139) (by decide +kernel)))
  have hS : va_S (fun q : Nat => s.heap.size ≤ q) s.heap s.heap [] := va_S.rf
  have hP : va_P G.1 vwCl [] s.heap := fun k q h => by simp at h
  have hD : va_D (fun q : Nat => s.heap.size ≤ q) [] := ⟨fun i j p q h => by simp at h, fun k q h => by simp at h⟩
  have hl := lv_entry ([.ref b]) (n := 4) (Nat.le_of_ble_eq_true rfl)
  rw [lg_entry_eq]
  generalize (lg_sl ([.ref b]) ++ List.replicate (4 - (lg_sl ([.ref b])).length) Slot.unset).toArray = ls at hl ⊢
  have hl : lv_has ls 4 [(0, .ref b)] := hl
  refine va_new (D := G.1) (cl := vwCl) (ci := 6) (fs := [.null, .null, .null, .null, .null, .null, .null, .null, .null]) (C := RX7) (T := TX7) (N := 9) hx hb hts inA7 tyX7 tyX7_ok hown (hts _ kw_18) (hts _ kw_19) (hts _ kw_1) hX.1 hP hD hS hA rfl (fun j hj => by rcases (show j = 0 ∨ j = 1 ∨ j = 2 ∨ j = 3 ∨ j = 4 ∨ j = 5 ∨ j = 6 ∨ j = 7 ∨ j = 8 by omega) with rfl | rfl | rfl | rfl | rfl | rfl | rfl | rfl | rfl <;> rfl) (Nat.le_of_ble_eq_true rfl) (Nat.le_of_ble_eq_true rfl) dL_law_0 (fun q0 H hP hD hS => ?_)
  have hP : va_P G.1 vwCl [(q0, .inr (6, [.null, .null, .null, .null, .null, .null, .null, .null, .null]))] H := hP
  have hD : va_D (fun q : Nat => s.heap.size ≤ q) [(q0, .inr (6, [.null, .null, .null, .null, .null, .null, .null, .null, .null]))] := hD
  refine lv_dup hx hb dL_law_3 rfl ?_
  refine ca_IvE (rest := [.ref q0]) (wr := ([] : va_W)) EO_st hEO F hX (mX7_init l G q0) ⟨cA_B hts kw_22 kw_1 kw_20 hdX7_init ⟨Nat.le_of_ble_eq_true rfl, Nat.le_of_ble_eq_true rfl⟩, rfl, hts _ kw_21⟩ rfl hl.1 rfl (Nat.le_of_ble_eq_true rfl) dL_law_4 ⟨Nat.le_of_ble_eq_true rfl, Nat.le_of_ble_eq_true rfl⟩ hP hD hS hA (pm_nil _) (fun u H locs hu hP2 hD2 hS => ?_)
  obtain ⟨ca, ads⟩ := u
  have hu : ca 0 0 = q0 := hu
  subst hu
  have hP : va_P G.1 vwCl (cw G ca ads x00) H := wp_pm (pm_nil _).symm hP2
  have hD : va_D (fun q : Nat => s.heap.size ≤ q) (cw G ca ads x00) := wd_pm (pm_nil _).symm hD2
  refine lv_astore_n (lv' := [(1, .ref (ca 0 0)), (0, .ref b)]) hx hb dL_law_7 rfl hl (by decide) rfl (fun ls hl => ?_)
  refine va_new (D := G.1) (cl := vwCl) (ci := 7) (fs := [.int (nI 0), .null, .null, .null, .int (nI 0), .null, .null, .null, .int (nI 0), .null, .int (nI 0), .int (nI 0), .int (nI 0), .int (nI 0), .int (nI 0), .null, .int (nI 0)]) (C := RX8) (T := TX8) (N := 17) hx hb hts inA8 tyX8 tyX8_ok hown (hts _ kw_674) (hts _ kw_675) (hts _ kw_8) hX.1 hP hD hS hA rfl (fun j hj => by rcases (show j = 0 ∨ j = 1 ∨ j = 2 ∨ j = 3 ∨ j = 4 ∨ j = 5 ∨ j = 6 ∨ j = 7 ∨ j = 8 ∨ j = 9 ∨ j = 10 ∨ j = 11 ∨ j = 12 ∨ j = 13 ∨ j = 14 ∨ j = 15 ∨ j = 16 by omega) with rfl | rfl | rfl | rfl | rfl | rfl | rfl | rfl | rfl | rfl | rfl | rfl | rfl | rfl | rfl | rfl | rfl <;> rfl) (Nat.le_of_ble_eq_true rfl) (Nat.le_of_ble_eq_true rfl) dL_law_8 (fun q1 H hP hD hS => ?_)
  have hP : va_P G.1 vwCl (cw G ca ads x00 ++ [(q1, .inr (7, [.int (nI 0), .null, .null, .null, .int (nI 0), .null, .null, .null, .int (nI 0), .null, .int (nI 0), .int (nI 0), .int (nI 0), .int (nI 0), .int (nI 0), .null, .int (nI 0)]))]) H := hP
  have hD : va_D (fun q : Nat => s.heap.size ≤ q) (cw G ca ads x00 ++ [(q1, .inr (7, [.int (nI 0), .null, .null, .null, .int (nI 0), .null, .null, .null, .int (nI 0), .null, .int (nI 0), .int (nI 0), .int (nI 0), .int (nI 0), .int (nI 0), .null, .int (nI 0)]))]) := hD
  refine lv_dup hx hb dL_law_11 rfl ?_
  refine ca_Iv (rest := [.ref q1]) (wr := cw G ca ads x00) F hX (mX8_init l G q1) ⟨cA_B hts kw_678 kw_8 kw_676 hdX8_init ⟨Nat.le_of_ble_eq_true rfl, Nat.le_of_ble_eq_true rfl⟩, rfl, hts _ kw_677⟩ rfl hl.1 rfl (Nat.le_of_ble_eq_true rfl) dL_law_12 ⟨Nat.le_of_ble_eq_true rfl, Nat.le_of_ble_eq_true rfl⟩ hP hD hS hA (List.perm_append_comm) (fun ad H locs hu hP3 hD3 hS => ?_)
  have hu : ad 0 = q1 := hu
  subst hu
  have hP : va_P G.1 vwCl (cw G ca ads x00 ++ mw G ad y00) H := wp_pm List.perm_append_comm hP3
  have hD : va_D (fun q : Nat => s.heap.size ≤ q) (cw G ca ads x00 ++ mw G ad y00) := wd_pm List.perm_append_comm hD3
  refine lv_astore_n (lv' := [(2, .ref (ad 0)), (1, .ref (ca 0 0)), (0, .ref b)]) hx hb dL_law_15 rfl hl (by decide) rfl (fun ls hl => ?_)
  refine lv_iconst (v := nI 0) hx hb dL_law_16 (by decide) ?_
  refine lv_istore_n (lv' := [(3, .int (nI 0)), (2, .ref (ad 0)), (1, .ref (ca 0 0)), (0, .ref b)]) hx hb dL_law_17 rfl hl (by decide) rfl (fun ls hl => ?_)
  refine W.widen (k := 74) (n := 1411) (by decide) (by decide) ?_
  exact law_loop l G sk sv RTT (jj00 l G sk sv) hL F hr hlocks hX hXs hbl hE ca ads ad (L + 4) 0 x00 y00 (by omega) (by omega) rel00 H locs hP hD hS ls (lv_sub hl [3, 2, 1, 0] rfl)
