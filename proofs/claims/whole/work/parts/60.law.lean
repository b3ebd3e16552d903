def JJ (l : Launch) (G : GG) (sk sv : Nat → Nat) (Rel : CS → MS → Prop) : Prop := (∀ v1 : Int32, JS l G Rel yX7_type cX7_type 2 yX8_type cX8_type 2 [.int v1]) ∧ (JS l G Rel yX7_clear cX7_clear 1 yX8_clear cX8_clear 2 []) ∧ (JSE (E4 sk sv) l G Rel yX7_tells cX7_tells 2 yX8_tells cX8_tells 3 []) ∧ (∀ v1 : Int32, JS l G Rel yX7_joins cX7_joins 2 yX8_joins cX8_joins 2 [.int v1]) ∧ (∀ v1 : Int32, JS l G Rel yX7_leaves cX7_leaves 2 yX8_leaves cX8_leaves 2 [.int v1]) ∧ (JS l G Rel yX7_rearranges cX7_rearranges 2 yX8_rearranges cX8_rearranges 3 []) ∧ (∀ v1 : Int32, JS l G Rel yX7_cuts cX7_cuts 2 yX8_cuts cX8_cuts 6 [.int v1]) ∧ (∀ v1 : Int32, JS l G Rel yX7_mends cX7_mends 2 yX8_mends cX8_mends 2 [.int v1]) ∧ (∀ v1 : Int32, JS l G Rel yX7_limits cX7_limits 3 yX8_limits cX8_limits 3 [.int v1]) ∧ (JS l G Rel yX7_undo cX7_undo 1 yX8_undo cX8_undo 2 []) ∧ (∀ v1 v2 : Int32, JS l G Rel yX7_link cX7_link 3 yX8_link cX8_link 3 [.int v1, .int v2]) ∧ (∀ v1 v2 : Int32, JS l G Rel yX7_node cX7_node 3 yX8_node cX8_node 3 [.int v1, .int v2]) ∧ (∀ v1 v2 : Int32, JS l G Rel yX7_way cX7_way 3 yX8_way cX8_way 5 [.int v1, .int v2]) ∧ (∀ v1 : Int32, JS l G Rel yX7_tree cX7_tree 2 yX8_tree cX8_tree 2 [.int v1]) ∧ (∀ v1 v2 : Int32, JS l G Rel yX7_sees cX7_sees 4 yX8_sees cX8_sees 3 [.int v1, .int v2]) ∧ (JS l G Rel yX7_forget cX7_forget 1 yX8_forget cX8_forget 2 []) ∧ (∀ v1 : Int32, JS l G Rel yX7_which cX7_which 3 yX8_which cX8_which 7 [.int v1]) ∧ (∀ v1 : Int32, JS l G Rel yX7_keep cX7_keep 2 yX8_keep cX8_keep 3 [.int v1]) ∧ (∀ v1 : Int32, JS l G Rel yX7_back cX7_back 2 yX8_back cX8_back 3 [.int v1]) ∧ (∀ v1 : Int32, JS l G Rel yX7_count cX7_count 2 yX8_count cX8_count 2 [.int v1])

set_option maxHeartbeats 8000000 in
set_option maxRecDepth 100000 in
theorem law_loop {p : Program} {e : Env} {s : State} {m : MethodId} {below : List Frame} {meth : Method} {c : Code} (l : Launch) (G : GG) (sk sv : Nat → Nat) (Rel : CS → MS → Prop) (hJ : JJ l G sk sv Rel) {b L : Nat} {xs : Nat → Int32} (hL : L ≤ 1536) (F : CallFix p m c cL_law 4 s #[Value.ref b] wA RL) (hr : meth.sig.returnType = ret) (hlocks : meth.locks = false) (hX : CX G s) (hXs : va_X b L xs s s.heap) (hbl : b < s.heap.size) (hE : E4 sk sv (fun q => s.heap.size ≤ q) s) (ca ads : Nat → Nat → Nat) (ad : Nat → Nat) : ∀ (n i : Nat) (x : CS) (y : MS), L + 3 - i < n → i ≤ L + 3 → Rel x y → ∀ (H : Heap) (locs : List Loc), va_P G.1 vwCl (cw G ca ads x ++ mw G ad y) H → va_D (fun q => s.heap.size ≤ q) (cw G ca ads x ++ mw G ad y) → va_S (fun q => s.heap.size ≤ q) s.heap H locs → ∀ (ls : Array Slot), lv_has ls 4 [(0, .ref b), (1, .ref (ca 0 0)), (2, .ref (ad 0)), (3, .int (nI i))] → W p l e room_1 s m #[Value.ref b] below meth c H locs 74 1411 (lw_Z below #[Value.ref b] s) (F0 m 18 ls []) := by
  obtain ⟨hx, hb, hml, hown, hts⟩ := id F
  have hbA : ¬ (s.heap.size ≤ b) := by omega
  have hA : ∀ q, s.heap.size ≤ q → (fun q => s.heap.size ≤ q) q := fun _ h => h
  intro n
  induction n with
  | zero => intro i x y h9; exact absurd h9 (Nat.not_lt_zero _)
  | succ n ih =>
    intro i x y hm hi hRel H locs hP hD hS ls hl
    refine lv_iload_n hx hb dL_law_18 rfl (lv_at hl 3 rfl) ?_
    refine lv_aload_n hx hb dL_law_19 rfl (lv_at hl 0 rfl) ?_
    refine va_slen hx hb hXs hbl hbA hS dL_law_20 ?_
    refine lv_iconst (v := nI 3) hx hb dL_law_21 (by decide) ?_
    refine lv_isub hx hb dL_law_22 ?_
    refine lv_icmp_gt (x := nI i) (y := nI L - nI 3) (tgt := 584) hx hb dL_law_23 (by decide) (fun c23 => ?_) (fun c23 => ?_)
    · refine lv_iconst (v := 1) hx hb dL_law_584 (by decide) ?_
      refine va_forget (fun q hq => hS.2.2 q hq) ?_
      refine W.widen (k := 600000) (n := 7302250) (by decide) (by decide) ?_
      exact lw_ret hx hb hr hlocks dL_law_585
    have hi3 : i + 3 ≤ L := by
      have h9 : ¬ (L < i + 3) := fun h8 => c23 ((gt3 (i := i) (L := L) (by omega) (by omega)).mpr h8)
      omega
    refine lv_aload_n hx hb dL_law_26 rfl (lv_at hl 0 rfl) ?_
    refine lv_iload_n hx hb dL_law_27 rfl (lv_at hl 3 rfl) ?_
    refine va_sld hx hb hXs hbl hbA hS (vp_in_nI (n := i) (N := L) (by omega) (by omega)) dL_law_28 ?_
    refine ti (y := xs i) (by rw [nI_clamp (by omega)]) ?_
    refine lv_bipush (v := nI 31) hx hb dL_law_29 (by decide) ?_
    refine lv_iand hx hb dL_law_31 ?_
    obtain ⟨k, hk, ek⟩ := i31 (xs i)
    refine ti (y := nI k) ek ?_
    have fin : ∀ (x : CS) (y : MS), Rel x y → ∀ (H : Heap) (locs : List Loc), va_P G.1 vwCl (cw G ca ads x ++ mw G ad y) H → va_D (fun q => s.heap.size ≤ q) (cw G ca ads x ++ mw G ad y) → va_S (fun q => s.heap.size ≤ q) s.heap H locs → W p l e room_1 s m #[Value.ref b] below meth c H locs 74 1411 (lw_Z below #[Value.ref b] s) (F0 m 578 ls []) := by
      intro x y hRel H locs hP hD hS
      refine lv_iinc (v := nI (i + 3)) (lv' := [(3, .int (nI (i + 3))), (0, .ref b), (1, .ref (ca 0 0)), (2, .ref (ad 0))]) hx hb dL_law_578 hl (k := 3) rfl (nI_add _ 3) (by decide) rfl (fun ls hl => ?_)
      refine lv_goto (tgt := 18) hx hb dL_law_581 (by decide) ?_
      exact ih (i + 3) x y (by omega) (by omega) hRel H locs hP hD hS ls (lv_sub hl [1, 2, 3, 0] rfl)
    rcases k21 k with rfl | rfl | rfl | rfl | rfl | rfl | rfl | rfl | rfl | rfl | rfl | rfl | rfl | rfl | rfl | rfl | rfl | rfl | rfl | rfl | hk20
    · refine lv_tableIn (off := 96) (tgt := 128) hx hb dL_law_32 (by decide) (by decide) (by decide +kernel) (by decide) ?_
      obtain ⟨r, PC, PM, hC, hM, hN⟩ := (hJ.1 (xs (i + 1))) ca ads ad x y hRel
      refine lv_aload_n hx hb dL_law_128 rfl (lv_at hl 1 rfl) ?_
      refine lv_aload_n hx hb dL_law_129 rfl (lv_at hl 0 rfl) ?_
      refine lv_iload_n hx hb dL_law_130 rfl (lv_at hl 3 rfl) ?_
      refine lv_iconst (v := nI 1) hx hb dL_law_131 (by decide) ?_
      refine lv_iadd hx hb dL_law_132 (ti (y := nI (i + 1)) (nI_add _ _) ?_)
      refine va_sld hx hb hXs hbl hbA hS (vp_in_nI (n := i + 1) (N := L) (by omega) (by omega)) dL_law_133 ?_
      refine ti (y := xs (i + 1)) (by rw [nI_clamp (by omega)]) ?_
      refine ca_CV (n := 1) (ci := 6) (q := (RX7, TX7, 9)) (rest := []) (w := cw G ca ads x) (wr := mw G ad y) F hX hC kw_226 kw_1 kw_223 kw_224 kw_225 hdX7_type rfl (by decide) ⟨by decide, by decide⟩ rfl hl.1 rfl (Nat.le_of_ble_eq_true rfl) dL_law_134 ⟨by decide, by decide⟩ hP hD hS hA (List.Perm.refl _) (fun r1 x1 H locs hp1 hP hD hS => ?_)
      obtain ⟨e0, hq0⟩ := hp1
      subst e0
      refine lv_aload_n hx hb dL_law_137 rfl (lv_at hl 2 rfl) ?_
      refine lv_aload_n hx hb dL_law_138 rfl (lv_at hl 0 rfl) ?_
      refine lv_iload_n hx hb dL_law_139 rfl (lv_at hl 3 rfl) ?_
      refine lv_iconst (v := nI 1) hx hb dL_law_140 (by decide) ?_
      refine lv_iadd hx hb dL_law_141 (ti (y := nI (i + 1)) (nI_add _ _) ?_)
      refine va_sld hx hb hXs hbl hbA hS (vp_in_nI (n := i + 1) (N := L) (by omega) (by omega)) dL_law_142 ?_
      refine ti (y := xs (i + 1)) (by rw [nI_clamp (by omega)]) ?_
      refine ca_CV (n := 1) (ci := 7) (q := (RX8, TX8, 17)) (rest := [.int r1]) (w := mw G ad y) (wr := cw G ca ads x1) F hX hM kw_735 kw_8 kw_732 kw_733 kw_734 hdX8_type rfl (by decide) ⟨by decide, by decide⟩ rfl hl.1 rfl (Nat.le_of_ble_eq_true rfl) dL_law_143 ⟨by decide, by decide⟩ hP hD hS hA (List.perm_append_comm) (fun r2 y1 H locs hp2 hP hD hS => ?_)
      obtain ⟨e1, hq1⟩ := hp2
      subst e1
      refine lv_icmp_eq (tgt := 578) hx hb dL_law_146 (by decide) (fun _ => ?_) (fun h9 => absurd rfl h9)
      exact fin x1 y1 (hN x1 y1 hq0 hq1) H locs (wp_pm List.perm_append_comm hP) (wd_pm List.perm_append_comm hD) hS
    · refine lv_tableIn (off := 119) (tgt := 151) hx hb dL_law_32 (by decide) (by decide) (by decide +kernel) (by decide) ?_
      obtain ⟨r, PC, PM, hC, hM, hN⟩ := (hJ.2.1) ca ads ad x y hRel
      refine lv_aload_n hx hb dL_law_151 rfl (lv_at hl 1 rfl) ?_
      refine ca_CV (n := 0) (ci := 6) (q := (RX7, TX7, 9)) (rest := []) (w := cw G ca ads x) (wr := mw G ad y) F hX hC kw_234 kw_1 kw_231 kw_232 kw_233 hdX7_clear rfl (by decide) ⟨by decide, by decide⟩ rfl hl.1 rfl (Nat.le_of_ble_eq_true rfl) dL_law_152 ⟨by decide, by decide⟩ hP hD hS hA (List.Perm.refl _) (fun r1 x1 H locs hp1 hP hD hS => ?_)
      obtain ⟨e0, hq0⟩ := hp1
      subst e0
      refine lv_aload_n hx hb dL_law_155 rfl (lv_at hl 2 rfl) ?_
      refine ca_CV (n := 0) (ci := 7) (q := (RX8, TX8, 17)) (rest := [.int r1]) (w := mw G ad y) (wr := cw G ca ads x1) F hX hM kw_742 kw_8 kw_739 kw_740 kw_741 hdX8_clear rfl (by decide) ⟨by decide, by decide⟩ rfl hl.1 rfl (Nat.le_of_ble_eq_true rfl) dL_law_156 ⟨by decide, by decide⟩ hP hD hS hA (List.perm_append_comm) (fun r2 y1 H locs hp2 hP hD hS => ?_)
      obtain ⟨e1, hq1⟩ := hp2
      subst e1
      refine lv_icmp_eq (tgt := 578) hx hb dL_law_159 (by decide) (fun _ => ?_) (fun h9 => absurd rfl h9)
      exact fin x1 y1 (hN x1 y1 hq0 hq1) H locs (wp_pm List.perm_append_comm hP) (wd_pm List.perm_append_comm hD) hS
    · refine lv_tableIn (off := 132) (tgt := 164) hx hb dL_law_32 (by decide) (by decide) (by decide +kernel) (by decide) ?_
      obtain ⟨r, PC, PM, hC, hM, hN⟩ := (hJ.2.2.1) ca ads ad x y hRel
      refine lv_aload_n hx hb dL_law_164 rfl (lv_at hl 1 rfl) ?_
      refine ca_CVE (n := 0) (ci := 6) (q := (RX7, TX7, 9)) (rest := []) (w := cw G ca ads x) (wr := mw G ad y) (E4_st sk sv) hE F hX hC kw_242 kw_1 kw_239 kw_240 kw_241 hdX7_tells rfl (by decide) ⟨by decide, by decide⟩ rfl hl.1 rfl (Nat.le_of_ble_eq_true rfl) dL_law_165 ⟨by decide, by decide⟩ hP hD hS hA (List.Perm.refl _) (fun r1 x1 H locs hp1 hP hD hS => ?_)
      obtain ⟨e0, hq0⟩ := hp1
      subst e0
      refine lv_aload_n hx hb dL_law_168 rfl (lv_at hl 2 rfl) ?_
      refine ca_CV (n := 0) (ci := 7) (q := (RX8, TX8, 17)) (rest := [.int r1]) (w := mw G ad y) (wr := cw G ca ads x1) F hX hM kw_746 kw_8 kw_743 kw_744 kw_745 hdX8_tells rfl (by decide) ⟨by decide, by decide⟩ rfl hl.1 rfl (Nat.le_of_ble_eq_true rfl) dL_law_169 ⟨by decide, by decide⟩ hP hD hS hA (List.perm_append_comm) (fun r2 y1 H locs hp2 hP hD hS => ?_)
      obtain ⟨e1, hq1⟩ := hp2
      subst e1
      refine lv_icmp_eq (tgt := 578) hx hb dL_law_172 (by decide) (fun _ => ?_) (fun h9 => absurd rfl h9)
      exact fin x1 y1 (hN x1 y1 hq0 hq1) H locs (wp_pm List.perm_append_comm hP) (wd_pm List.perm_append_comm hD) hS
    · refine lv_tableIn (off := 145) (tgt := 177) hx hb dL_law_32 (by decide) (by decide) (by decide +kernel) (by decide) ?_
      obtain ⟨r, PC, PM, hC, hM, hN⟩ := (hJ.2.2.2.1 (xs (i + 1))) ca ads ad x y hRel
      refine lv_aload_n hx hb dL_law_177 rfl (lv_at hl 1 rfl) ?_
      refine lv_aload_n hx hb dL_law_178 rfl (lv_at hl 0 rfl) ?_
      refine lv_iload_n hx hb dL_law_179 rfl (lv_at hl 3 rfl) ?_
      refine lv_iconst (v := nI 1) hx hb dL_law_180 (by decide) ?_
      refine lv_iadd hx hb dL_law_181 (ti (y := nI (i + 1)) (nI_add _ _) ?_)
      refine va_sld hx hb hXs hbl hbA hS (vp_in_nI (n := i + 1) (N := L) (by omega) (by omega)) dL_law_182 ?_
      refine ti (y := xs (i + 1)) (by rw [nI_clamp (by omega)]) ?_
      refine ca_CV (n := 1) (ci := 6) (q := (RX7, TX7, 9)) (rest := []) (w := cw G ca ads x) (wr := mw G ad y) F hX hC kw_385 kw_1 kw_382 kw_383 kw_384 hdX7_joins rfl (by decide) ⟨by decide, by decide⟩ rfl hl.1 rfl (Nat.le_of_ble_eq_true rfl) dL_law_183 ⟨by decide, by decide⟩ hP hD hS hA (List.Perm.refl _) (fun r1 x1 H locs hp1 hP hD hS => ?_)
      obtain ⟨e0, hq0⟩ := hp1
      subst e0
      refine lv_aload_n hx hb dL_law_186 rfl (lv_at hl 2 rfl) ?_
      refine lv_aload_n hx hb dL_law_187 rfl (lv_at hl 0 rfl) ?_
      refine lv_iload_n hx hb dL_law_188 rfl (lv_at hl 3 rfl) ?_
      refine lv_iconst (v := nI 1) hx hb dL_law_189 (by decide) ?_
      refine lv_iadd hx hb dL_law_190 (ti (y := nI (i + 1)) (nI_add _ _) ?_)
      refine va_sld hx hb hXs hbl hbA hS (vp_in_nI (n := i + 1) (N := L) (by omega) (by omega)) dL_law_191 ?_
      refine ti (y := xs (i + 1)) (by rw [nI_clamp (by omega)]) ?_
      refine ca_CV (n := 1) (ci := 7) (q := (RX8, TX8, 17)) (rest := [.int r1]) (w := mw G ad y) (wr := cw G ca ads x1) F hX hM kw_790 kw_8 kw_787 kw_788 kw_789 hdX8_joins rfl (by decide) ⟨by decide, by decide⟩ rfl hl.1 rfl (Nat.le_of_ble_eq_true rfl) dL_law_192 ⟨by decide, by decide⟩ hP hD hS hA (List.perm_append_comm) (fun r2 y1 H locs hp2 hP hD hS => ?_)
      obtain ⟨e1, hq1⟩ := hp2
      subst e1
      refine lv_icmp_eq (tgt := 578) hx hb dL_law_195 (by decide) (fun _ => ?_) (fun h9 => absurd rfl h9)
      exact fin x1 y1 (hN x1 y1 hq0 hq1) H locs (wp_pm List.perm_append_comm hP) (wd_pm List.perm_append_comm hD) hS
    · refine lv_tableIn (off := 168) (tgt := 200) hx hb dL_law_32 (by decide) (by decide) (by decide +kernel) (by decide) ?_
      obtain ⟨r, PC, PM, hC, hM, hN⟩ := (hJ.2.2.2.2.1 (xs (i + 1))) ca ads ad x y hRel
      refine lv_aload_n hx hb dL_law_200 rfl (lv_at hl 1 rfl) ?_
      refine lv_aload_n hx hb dL_law_201 rfl (lv_at hl 0 rfl) ?_
      refine lv_iload_n hx hb dL_law_202 rfl (lv_at hl 3 rfl) ?_
      refine lv_iconst (v := nI 1) hx hb dL_law_203 (by decide) ?_
      refine lv_iadd hx hb dL_law_204 (ti (y := nI (i + 1)) (nI_add _ _) ?_)
      refine va_sld hx hb hXs hbl hbA hS (vp_in_nI (n := i + 1) (N := L) (by omega) (by omega)) dL_law_205 ?_
      refine ti (y := xs (i + 1)) (by rw [nI_clamp (by omega)]) ?_
      refine ca_CV (n := 1) (ci := 6) (q := (RX7, TX7, 9)) (rest := []) (w := cw G ca ads x) (wr := mw G ad y) F hX hC kw_492 kw_1 kw_489 kw_490 kw_491 hdX7_leaves rfl (by decide) ⟨by decide, by decide⟩ rfl hl.1 rfl (Nat.le_of_ble_eq_true rfl) dL_law_206 ⟨by decide, by decide⟩ hP hD hS hA (List.Perm.refl _) (fun r1 x1 H locs hp1 hP hD hS => ?_)
      obtain ⟨e0, hq0⟩ := hp1
      subst e0
      refine lv_aload_n hx hb dL_law_209 rfl (lv_at hl 2 rfl) ?_
      refine lv_aload_n hx hb dL_law_210 rfl (lv_at hl 0 rfl) ?_
      refine lv_iload_n hx hb dL_law_211 rfl (lv_at hl 3 rfl) ?_
      refine lv_iconst (v := nI 1) hx hb dL_law_212 (by decide) ?_
      refine lv_iadd hx hb dL_law_213 (ti (y := nI (i + 1)) (nI_add _ _) ?_)
      refine va_sld hx hb hXs hbl hbA hS (vp_in_nI (n := i + 1) (N := L) (by omega) (by omega)) dL_law_214 ?_
      refine ti (y := xs (i + 1)) (by rw [nI_clamp (by omega)]) ?_
      refine ca_CV (n := 1) (ci := 7) (q := (RX8, TX8, 17)) (rest := [.int r1]) (w := mw G ad y) (wr := cw G ca ads x1) F hX hM kw_842 kw_8 kw_839 kw_840 kw_841 hdX8_leaves rfl (by decide) ⟨by decide, by decide⟩ rfl hl.1 rfl (Nat.le_of_ble_eq_true rfl) dL_law_215 ⟨by decide, by decide⟩ hP hD hS hA (List.perm_append_comm) (fun r2 y1 H locs hp2 hP hD hS => ?_)
      obtain ⟨e1, hq1⟩ := hp2
      subst e1
      refine lv_icmp_eq (tgt := 578) hx hb dL_law_218 (by decide) (fun _ => ?_) (fun h9 => absurd rfl h9)
      exact fin x1 y1 (hN x1 y1 hq0 hq1) H locs (wp_pm List.perm_append_comm hP) (wd_pm List.perm_append_comm hD) hS
    · refine lv_tableIn (off := 191) (tgt := 223) hx hb dL_law_32 (by decide) (by decide) (by decide +kernel) (by decide) ?_
      obtain ⟨r, PC, PM, hC, hM, hN⟩ := (hJ.2.2.2.2.2.1) ca ads ad x y hRel
      refine lv_aload_n hx hb dL_law_223 rfl (lv_at hl 1 rfl) ?_
      refine ca_CV (n := 0) (ci := 6) (q := (RX7, TX7, 9)) (rest := []) (w := cw G ca ads x) (wr := mw G ad y) F hX hC kw_510 kw_1 kw_507 kw_508 kw_509 hdX7_rearranges rfl (by decide) ⟨by decide, by decide⟩ rfl hl.1 rfl (Nat.le_of_ble_eq_true rfl) dL_law_224 ⟨by decide, by decide⟩ hP hD hS hA (List.Perm.refl _) (fun r1 x1 H locs hp1 hP hD hS => ?_)
      obtain ⟨e0, hq0⟩ := hp1
      subst e0
      refine lv_aload_n hx hb dL_law_227 rfl (lv_at hl 2 rfl) ?_
      refine ca_CV (n := 0) (ci := 7) (q := (RX8, TX8, 17)) (rest := [.int r1]) (w := mw G ad y) (wr := cw G ca ads x1) F hX hM kw_850 kw_8 kw_847 kw_848 kw_849 hdX8_rearranges rfl (by decide) ⟨by decide, by decide⟩ rfl hl.1 rfl (Nat.le_of_ble_eq_true rfl) dL_law_228 ⟨by decide, by decide⟩ hP hD hS hA (List.perm_append_comm) (fun r2 y1 H locs hp2 hP hD hS => ?_)
      obtain ⟨e1, hq1⟩ := hp2
      subst e1
      refine lv_icmp_eq (tgt := 578) hx hb dL_law_231 (by decide) (fun _ => ?_) (fun h9 => absurd rfl h9)
      exact fin x1 y1 (hN x1 y1 hq0 hq1) H locs (wp_pm List.perm_append_comm hP) (wd_pm List.perm_append_comm hD) hS
    · refine lv_tableIn (off := 204) (tgt := 236) hx hb dL_law_32 (by decide) (by decide) (by decide +kernel) (by decide) ?_
      obtain ⟨r, PC, PM, hC, hM, hN⟩ := (hJ.2.2.2.2.2.2.1 (xs (i + 1))) ca ads ad x y hRel
      refine lv_aload_n hx hb dL_law_236 rfl (lv_at hl 1 rfl) ?_
      refine lv_aload_n hx hb dL_law_237 rfl (lv_at hl 0 rfl) ?_
      refine lv_iload_n hx hb dL_law_238 rfl (lv_at hl 3 rfl) ?_
      refine lv_iconst (v := nI 1) hx hb dL_law_239 (by decide) ?_
      refine lv_iadd hx hb dL_law_240 (ti (y := nI (i + 1)) (nI_add _ _) ?_)
      refine va_sld hx hb hXs hbl hbA hS (vp_in_nI (n := i + 1) (N := L) (by omega) (by omega)) dL_law_241 ?_
      refine ti (y := xs (i + 1)) (by rw [nI_clamp (by omega)]) ?_
      refine ca_CV (n := 1) (ci := 6) (q := (RX7, TX7, 9)) (rest := []) (w := cw G ca ads x) (wr := mw G ad y) F hX hC kw_516 kw_1 kw_513 kw_514 kw_515 hdX7_cuts rfl (by decide) ⟨by decide, by decide⟩ rfl hl.1 rfl (Nat.le_of_ble_eq_true rfl) dL_law_242 ⟨by decide, by decide⟩ hP hD hS hA (List.Perm.refl _) (fun r1 x1 H locs hp1 hP hD hS => ?_)
      obtain ⟨e0, hq0⟩ := hp1
      subst e0
      refine lv_aload_n hx hb dL_law_245 rfl (lv_at hl 2 rfl) ?_
      refine lv_aload_n hx hb dL_law_246 rfl (lv_at hl 0 rfl) ?_
      refine lv_iload_n hx hb dL_law_247 rfl (lv_at hl 3 rfl) ?_
      refine lv_iconst (v := nI 1) hx hb dL_law_248 (by decide) ?_
      refine lv_iadd hx hb dL_law_249 (ti (y := nI (i + 1)) (nI_add _ _) ?_)
      refine va_sld hx hb hXs hbl hbA hS (vp_in_nI (n := i + 1) (N := L) (by omega) (by omega)) dL_law_250 ?_
      refine ti (y := xs (i + 1)) (by rw [nI_clamp (by omega)]) ?_
      refine ca_CV (n := 1) (ci := 7) (q := (RX8, TX8, 17)) (rest := [.int r1]) (w := mw G ad y) (wr := cw G ca ads x1) F hX hM kw_854 kw_8 kw_851 kw_852 kw_853 hdX8_cuts rfl (by decide) ⟨by decide, by decide⟩ rfl hl.1 rfl (Nat.le_of_ble_eq_true rfl) dL_law_251 ⟨by decide, by decide⟩ hP hD hS hA (List.perm_append_comm) (fun r2 y1 H locs hp2 hP hD hS => ?_)
      obtain ⟨e1, hq1⟩ := hp2
      subst e1
      refine lv_icmp_eq (tgt := 578) hx hb dL_law_254 (by decide) (fun _ => ?_) (fun h9 => absurd rfl h9)
      exact fin x1 y1 (hN x1 y1 hq0 hq1) H locs (wp_pm List.perm_append_comm hP) (wd_pm List.perm_append_comm hD) hS
    · refine lv_tableIn (off := 227) (tgt := 259) hx hb dL_law_32 (by decide) (by decide) (by decide +kernel) (by decide) ?_
      obtain ⟨r, PC, PM, hC, hM, hN⟩ := (hJ.2.2.2.2.2.2.2.1 (xs (i + 1))) ca ads ad x y hRel
      refine lv_aload_n hx hb dL_law_259 rfl (lv_at hl 1 rfl) ?_
      refine lv_aload_n hx hb dL_law_260 rfl (lv_at hl 0 rfl) ?_
      refine lv_iload_n hx hb dL_law_261 rfl (lv_at hl 3 rfl) ?_
      refine lv_iconst (v := nI 1) hx hb dL_law_262 (by decide) ?_
      refine lv_iadd hx hb dL_law_263 (ti (y := nI (i + 1)) (nI_add _ _) ?_)
      refine va_sld hx hb hXs hbl hbA hS (vp_in_nI (n := i + 1) (N := L) (by omega) (by omega)) dL_law_264 ?_
      refine ti (y := xs (i + 1)) (by rw [nI_clamp (by omega)]) ?_
      refine ca_CV (n := 1) (ci := 6) (q := (RX7, TX7, 9)) (rest := []) (w := cw G ca ads x) (wr := mw G ad y) F hX hC kw_543 kw_1 kw_540 kw_541 kw_542 hdX7_mends rfl (by decide) ⟨by decide, by decide⟩ rfl hl.1 rfl (Nat.le_of_ble_eq_true rfl) dL_law_265 ⟨by decide, by decide⟩ hP hD hS hA (List.Perm.refl _) (fun r1 x1 H locs hp1 hP hD hS => ?_)
      obtain ⟨e0, hq0⟩ := hp1
      subst e0
      refine lv_aload_n hx hb dL_law_268 rfl (lv_at hl 2 rfl) ?_
      refine lv_aload_n hx hb dL_law_269 rfl (lv_at hl 0 rfl) ?_
      refine lv_iload_n hx hb dL_law_270 rfl (lv_at hl 3 rfl) ?_
      refine lv_iconst (v := nI 1) hx hb dL_law_271 (by decide) ?_
      refine lv_iadd hx hb dL_law_272 (ti (y := nI (i + 1)) (nI_add _ _) ?_)
      refine va_sld hx hb hXs hbl hbA hS (vp_in_nI (n := i + 1) (N := L) (by omega) (by omega)) dL_law_273 ?_
      refine ti (y := xs (i + 1)) (by rw [nI_clamp (by omega)]) ?_
      refine ca_CV (n := 1) (ci := 7) (q := (RX8, TX8, 17)) (rest := [.int r1]) (w := mw G ad y) (wr := cw G ca ads x1) F hX hM kw_866 kw_8 kw_863 kw_864 kw_865 hdX8_mends rfl (by decide) ⟨by decide, by decide⟩ rfl hl.1 rfl (Nat.le_of_ble_eq_true rfl) dL_law_274 ⟨by decide, by decide⟩ hP hD hS hA (List.perm_append_comm) (fun r2 y1 H locs hp2 hP hD hS => ?_)
      obtain ⟨e1, hq1⟩ := hp2
      subst e1
      refine lv_icmp_eq (tgt := 578) hx hb dL_law_277 (by decide) (fun _ => ?_) (fun h9 => absurd rfl h9)
      exact fin x1 y1 (hN x1 y1 hq0 hq1) H locs (wp_pm List.perm_append_comm hP) (wd_pm List.perm_append_comm hD) hS
    · refine lv_tableIn (off := 250) (tgt := 282) hx hb dL_law_32 (by decide) (by decide) (by decide +kernel) (by decide) ?_
      obtain ⟨r, PC, PM, hC, hM, hN⟩ := (hJ.2.2.2.2.2.2.2.2.1 (xs (i + 1))) ca ads ad x y hRel
      refine lv_aload_n hx hb dL_law_282 rfl (lv_at hl 1 rfl) ?_
      refine lv_aload_n hx hb dL_law_283 rfl (lv_at hl 0 rfl) ?_
      refine lv_iload_n hx hb dL_law_284 rfl (lv_at hl 3 rfl) ?_
      refine lv_iconst (v := nI 1) hx hb dL_law_285 (by decide) ?_
      refine lv_iadd hx hb dL_law_286 (ti (y := nI (i + 1)) (nI_add _ _) ?_)
      refine va_sld hx hb hXs hbl hbA hS (vp_in_nI (n := i + 1) (N := L) (by omega) (by omega)) dL_law_287 ?_
      refine ti (y := xs (i + 1)) (by rw [nI_clamp (by omega)]) ?_
      refine ca_CV (n := 1) (ci := 6) (q := (RX7, TX7, 9)) (rest := []) (w := cw G ca ads x) (wr := mw G ad y) F hX hC kw_548 kw_1 kw_545 kw_546 kw_547 hdX7_limits rfl (by decide) ⟨by decide, by decide⟩ rfl hl.1 rfl (Nat.le_of_ble_eq_true rfl) dL_law_288 ⟨by decide, by decide⟩ hP hD hS hA (List.Perm.refl _) (fun r1 x1 H locs hp1 hP hD hS => ?_)
      obtain ⟨e0, hq0⟩ := hp1
      subst e0
      refine lv_aload_n hx hb dL_law_291 rfl (lv_at hl 2 rfl) ?_
      refine lv_aload_n hx hb dL_law_292 rfl (lv_at hl 0 rfl) ?_
      refine lv_iload_n hx hb dL_law_293 rfl (lv_at hl 3 rfl) ?_
      refine lv_iconst (v := nI 1) hx hb dL_law_294 (by decide) ?_
      refine lv_iadd hx hb dL_law_295 (ti (y := nI (i + 1)) (nI_add _ _) ?_)
      refine va_sld hx hb hXs hbl hbA hS (vp_in_nI (n := i + 1) (N := L) (by omega) (by omega)) dL_law_296 ?_
      refine ti (y := xs (i + 1)) (by rw [nI_clamp (by omega)]) ?_
      refine ca_CV (n := 1) (ci := 7) (q := (RX8, TX8, 17)) (rest := [.int r1]) (w := mw G ad y) (wr := cw G ca ads x1) F hX hM kw_873 kw_8 kw_870 kw_871 kw_872 hdX8_limits rfl (by decide) ⟨by decide, by decide⟩ rfl hl.1 rfl (Nat.le_of_ble_eq_true rfl) dL_law_297 ⟨by decide, by decide⟩ hP hD hS hA (List.perm_append_comm) (fun r2 y1 H locs hp2 hP hD hS => ?_)
      obtain ⟨e1, hq1⟩ := hp2
      subst e1
      refine lv_icmp_eq (tgt := 578) hx hb dL_law_300 (by decide) (fun _ => ?_) (fun h9 => absurd rfl h9)
      exact fin x1 y1 (hN x1 y1 hq0 hq1) H locs (wp_pm List.perm_append_comm hP) (wd_pm List.perm_append_comm hD) hS
    · refine lv_tableIn (off := 273) (tgt := 305) hx hb dL_law_32 (by decide) (by decide) (by decide +kernel) (by decide) ?_
      obtain ⟨r, PC, PM, hC, hM, hN⟩ := (hJ.2.2.2.2.2.2.2.2.2.1) ca ads ad x y hRel
      refine lv_aload_n hx hb dL_law_305 rfl (lv_at hl 1 rfl) ?_
      refine ca_CV (n := 0) (ci := 6) (q := (RX7, TX7, 9)) (rest := []) (w := cw G ca ads x) (wr := mw G ad y) F hX hC kw_552 kw_1 kw_549 kw_550 kw_551 hdX7_undo rfl (by decide) ⟨by decide, by decide⟩ rfl hl.1 rfl (Nat.le_of_ble_eq_true rfl) dL_law_306 ⟨by decide, by decide⟩ hP hD hS hA (List.Perm.refl _) (fun r1 x1 H locs hp1 hP hD hS => ?_)
      obtain ⟨e0, hq0⟩ := hp1
      subst e0
      refine lv_aload_n hx hb dL_law_309 rfl (lv_at hl 2 rfl) ?_
      refine ca_CV (n := 0) (ci := 7) (q := (RX8, TX8, 17)) (rest := [.int r1]) (w := mw G ad y) (wr := cw G ca ads x1) F hX hM kw_877 kw_8 kw_874 kw_875 kw_876 hdX8_undo rfl (by decide) ⟨by decide, by decide⟩ rfl hl.1 rfl (Nat.le_of_ble_eq_true rfl) dL_law_310 ⟨by decide, by decide⟩ hP hD hS hA (List.perm_append_comm) (fun r2 y1 H locs hp2 hP hD hS => ?_)
      obtain ⟨e1, hq1⟩ := hp2
      subst e1
      refine lv_icmp_eq (tgt := 578) hx hb dL_law_313 (by decide) (fun _ => ?_) (fun h9 => absurd rfl h9)
      exact fin x1 y1 (hN x1 y1 hq0 hq1) H locs (wp_pm List.perm_append_comm hP) (wd_pm List.perm_append_comm hD) hS
    · refine lv_tableIn (off := 286) (tgt := 318) hx hb dL_law_32 (by decide) (by decide) (by decide +kernel) (by decide) ?_
      obtain ⟨r, PC, PM, hC, hM, hN⟩ := (hJ.2.2.2.2.2.2.2.2.2.2.1 (xs (i + 1)) (xs (i + 2))) ca ads ad x y hRel
      refine lv_aload_n hx hb dL_law_318 rfl (lv_at hl 1 rfl) ?_
      refine lv_aload_n hx hb dL_law_319 rfl (lv_at hl 0 rfl) ?_
      refine lv_iload_n hx hb dL_law_320 rfl (lv_at hl 3 rfl) ?_
      refine lv_iconst (v := nI 1) hx hb dL_law_321 (by decide) ?_
      refine lv_iadd hx hb dL_law_322 (ti (y := nI (i + 1)) (nI_add _ _) ?_)
      refine va_sld hx hb hXs hbl hbA hS (vp_in_nI (n := i + 1) (N := L) (by omega) (by omega)) dL_law_323 ?_
      refine ti (y := xs (i + 1)) (by rw [nI_clamp (by omega)]) ?_
      refine lv_aload_n hx hb dL_law_324 rfl (lv_at hl 0 rfl) ?_
      refine lv_iload_n hx hb dL_law_325 rfl (lv_at hl 3 rfl) ?_
      refine lv_iconst (v := nI 2) hx hb dL_law_326 (by decide) ?_
      refine lv_iadd hx hb dL_law_327 (ti (y := nI (i + 2)) (nI_add _ _) ?_)
      refine va_sld hx hb hXs hbl hbA hS (vp_in_nI (n := i + 2) (N := L) (by omega) (by omega)) dL_law_328 ?_
      refine ti (y := xs (i + 2)) (by rw [nI_clamp (by omega)]) ?_
      refine ca_CV (n := 2) (ci := 6) (q := (RX7, TX7, 9)) (rest := []) (w := cw G ca ads x) (wr := mw G ad y) F hX hC kw_560 kw_1 kw_557 kw_558 kw_559 hdX7_link rfl (by decide) ⟨by decide, by decide⟩ rfl hl.1 rfl (Nat.le_of_ble_eq_true rfl) dL_law_329 ⟨by decide, by decide⟩ hP hD hS hA (List.Perm.refl _) (fun r1 x1 H locs hp1 hP hD hS => ?_)
      obtain ⟨e0, hq0⟩ := hp1
      subst e0
      refine lv_aload_n hx hb dL_law_332 rfl (lv_at hl 2 rfl) ?_
      refine lv_aload_n hx hb dL_law_333 rfl (lv_at hl 0 rfl) ?_
      refine lv_iload_n hx hb dL_law_334 rfl (lv_at hl 3 rfl) ?_
      refine lv_iconst (v := nI 1) hx hb dL_law_335 (by decide) ?_
      refine lv_iadd hx hb dL_law_336 (ti (y := nI (i + 1)) (nI_add _ _) ?_)
      refine va_sld hx hb hXs hbl hbA hS (vp_in_nI (n := i + 1) (N := L) (by omega) (by omega)) dL_law_337 ?_
      refine ti (y := xs (i + 1)) (by rw [nI_clamp (by omega)]) ?_
      refine lv_aload_n hx hb dL_law_338 rfl (lv_at hl 0 rfl) ?_
      refine lv_iload_n hx hb dL_law_339 rfl (lv_at hl 3 rfl) ?_
      refine lv_iconst (v := nI 2) hx hb dL_law_340 (by decide) ?_
      refine lv_iadd hx hb dL_law_341 (ti (y := nI (i + 2)) (nI_add _ _) ?_)
      refine va_sld hx hb hXs hbl hbA hS (vp_in_nI (n := i + 2) (N := L) (by omega) (by omega)) dL_law_342 ?_
      refine ti (y := xs (i + 2)) (by rw [nI_clamp (by omega)]) ?_
      refine ca_CV (n := 2) (ci := 7) (q := (RX8, TX8, 17)) (rest := [.int r1]) (w := mw G ad y) (wr := cw G ca ads x1) F hX hM kw_881 kw_8 kw_878 kw_879 kw_880 hdX8_link rfl (by decide) ⟨by decide, by decide⟩ rfl hl.1 rfl (Nat.le_of_ble_eq_true rfl) dL_law_343 ⟨by decide, by decide⟩ hP hD hS hA (List.perm_append_comm) (fun r2 y1 H locs hp2 hP hD hS => ?_)
      obtain ⟨e1, hq1⟩ := hp2
      subst e1
      refine lv_icmp_eq (tgt := 578) hx hb dL_law_346 (by decide) (fun _ => ?_) (fun h9 => absurd rfl h9)
      exact fin x1 y1 (hN x1 y1 hq0 hq1) H locs (wp_pm List.perm_append_comm hP) (wd_pm List.perm_append_comm hD) hS
    · refine lv_tableIn (off := 319) (tgt := 351) hx hb dL_law_32 (by decide) (by decide) (by decide +kernel) (by decide) ?_
      obtain ⟨r, PC, PM, hC, hM, hN⟩ := (hJ.2.2.2.2.2.2.2.2.2.2.2.1 (xs (i + 1)) (xs (i + 2))) ca ads ad x y hRel
      refine lv_aload_n hx hb dL_law_351 rfl (lv_at hl 1 rfl) ?_
      refine lv_aload_n hx hb dL_law_352 rfl (lv_at hl 0 rfl) ?_
      refine lv_iload_n hx hb dL_law_353 rfl (lv_at hl 3 rfl) ?_
      refine lv_iconst (v := nI 1) hx hb dL_law_354 (by decide) ?_
      refine lv_iadd hx hb dL_law_355 (ti (y := nI (i + 1)) (nI_add _ _) ?_)
      refine va_sld hx hb hXs hbl hbA hS (vp_in_nI (n := i + 1) (N := L) (by omega) (by omega)) dL_law_356 ?_
      refine ti (y := xs (i + 1)) (by rw [nI_clamp (by omega)]) ?_
      refine lv_aload_n hx hb dL_law_357 rfl (lv_at hl 0 rfl) ?_
      refine lv_iload_n hx hb dL_law_358 rfl (lv_at hl 3 rfl) ?_
      refine lv_iconst (v := nI 2) hx hb dL_law_359 (by decide) ?_
      refine lv_iadd hx hb dL_law_360 (ti (y := nI (i + 2)) (nI_add _ _) ?_)
      refine va_sld hx hb hXs hbl hbA hS (vp_in_nI (n := i + 2) (N := L) (by omega) (by omega)) dL_law_361 ?_
      refine ti (y := xs (i + 2)) (by rw [nI_clamp (by omega)]) ?_
      refine ca_CV (n := 2) (ci := 6) (q := (RX7, TX7, 9)) (rest := []) (w := cw G ca ads x) (wr := mw G ad y) F hX hC kw_573 kw_1 kw_570 kw_571 kw_572 hdX7_node rfl (by decide) ⟨by decide, by decide⟩ rfl hl.1 rfl (Nat.le_of_ble_eq_true rfl) dL_law_362 ⟨by decide, by decide⟩ hP hD hS hA (List.Perm.refl _) (fun r1 x1 H locs hp1 hP hD hS => ?_)
      obtain ⟨e0, hq0⟩ := hp1
      subst e0
      refine lv_aload_n hx hb dL_law_365 rfl (lv_at hl 2 rfl) ?_
      refine lv_aload_n hx hb dL_law_366 rfl (lv_at hl 0 rfl) ?_
      refine lv_iload_n hx hb dL_law_367 rfl (lv_at hl 3 rfl) ?_
      refine lv_iconst (v := nI 1) hx hb dL_law_368 (by decide) ?_
      refine lv_iadd hx hb dL_law_369 (ti (y := nI (i + 1)) (nI_add _ _) ?_)
      refine va_sld hx hb hXs hbl hbA hS (vp_in_nI (n := i + 1) (N := L) (by omega) (by omega)) dL_law_370 ?_
      refine ti (y := xs (i + 1)) (by rw [nI_clamp (by omega)]) ?_
      refine lv_aload_n hx hb dL_law_371 rfl (lv_at hl 0 rfl) ?_
      refine lv_iload_n hx hb dL_law_372 rfl (lv_at hl 3 rfl) ?_
      refine lv_iconst (v := nI 2) hx hb dL_law_373 (by decide) ?_
      refine lv_iadd hx hb dL_law_374 (ti (y := nI (i + 2)) (nI_add _ _) ?_)
      refine va_sld hx hb hXs hbl hbA hS (vp_in_nI (n := i + 2) (N := L) (by omega) (by omega)) dL_law_375 ?_
      refine ti (y := xs (i + 2)) (by rw [nI_clamp (by omega)]) ?_
      refine ca_CV (n := 2) (ci := 7) (q := (RX8, TX8, 17)) (rest := [.int r1]) (w := mw G ad y) (wr := cw G ca ads x1) F hX hM kw_889 kw_8 kw_886 kw_887 kw_888 hdX8_node rfl (by decide) ⟨by decide, by decide⟩ rfl hl.1 rfl (Nat.le_of_ble_eq_true rfl) dL_law_376 ⟨by decide, by decide⟩ hP hD hS hA (List.perm_append_comm) (fun r2 y1 H locs hp2 hP hD hS => ?_)
      obtain ⟨e1, hq1⟩ := hp2
      subst e1
      refine lv_icmp_eq (tgt := 578) hx hb dL_law_379 (by decide) (fun _ => ?_) (fun h9 => absurd rfl h9)
      exact fin x1 y1 (hN x1 y1 hq0 hq1) H locs (wp_pm List.perm_append_comm hP) (wd_pm List.perm_append_comm hD) hS
    · refine lv_tableIn (off := 352) (tgt := 384) hx hb dL_law_32 (by decide) (by decide) (by decide +kernel) (by decide) ?_
      obtain ⟨r, PC, PM, hC, hM, hN⟩ := (hJ.2.2.2.2.2.2.2.2.2.2.2.2.1 (xs (i + 1)) (xs (i + 2))) ca ads ad x y hRel
      refine lv_aload_n hx hb dL_law_384 rfl (lv_at hl 1 rfl) ?_
      refine lv_aload_n hx hb dL_law_385 rfl (lv_at hl 0 rfl) ?_
      refine lv_iload_n hx hb dL_law_386 rfl (lv_at hl 3 rfl) ?_
      refine lv_iconst (v := nI 1) hx hb dL_law_387 (by decide) ?_
      refine lv_iadd hx hb dL_law_388 (ti (y := nI (i + 1)) (nI_add _ _) ?_)
      refine va_sld hx hb hXs hbl hbA hS (vp_in_nI (n := i + 1) (N := L) (by omega) (by omega)) dL_law_389 ?_
      refine ti (y := xs (i + 1)) (by rw [nI_clamp (by omega)]) ?_
      refine lv_aload_n hx hb dL_law_390 rfl (lv_at hl 0 rfl) ?_
      refine lv_iload_n hx hb dL_law_391 rfl (lv_at hl 3 rfl) ?_
      refine lv_iconst (v := nI 2) hx hb dL_law_392 (by decide) ?_
      refine lv_iadd hx hb dL_law_393 (ti (y := nI (i + 2)) (nI_add _ _) ?_)
      refine va_sld hx hb hXs hbl hbA hS (vp_in_nI (n := i + 2) (N := L) (by omega) (by omega)) dL_law_394 ?_
      refine ti (y := xs (i + 2)) (by rw [nI_clamp (by omega)]) ?_
      refine ca_CV (n := 2) (ci := 6) (q := (RX7, TX7, 9)) (rest := []) (w := cw G ca ads x) (wr := mw G ad y) F hX hC kw_590 kw_1 kw_587 kw_588 kw_589 hdX7_way rfl (by decide) ⟨by decide, by decide⟩ rfl hl.1 rfl (Nat.le_of_ble_eq_true rfl) dL_law_395 ⟨by decide, by decide⟩ hP hD hS hA (List.Perm.refl _) (fun r1 x1 H locs hp1 hP hD hS => ?_)
      obtain ⟨e0, hq0⟩ := hp1
      subst e0
      refine lv_aload_n hx hb dL_law_398 rfl (lv_at hl 2 rfl) ?_
      refine lv_aload_n hx hb dL_law_399 rfl (lv_at hl 0 rfl) ?_
      refine lv_iload_n hx hb dL_law_400 rfl (lv_at hl 3 rfl) ?_
      refine lv_iconst (v := nI 1) hx hb dL_law_401 (by decide) ?_
      refine lv_iadd hx hb dL_law_402 (ti (y := nI (i + 1)) (nI_add _ _) ?_)
      refine va_sld hx hb hXs hbl hbA hS (vp_in_nI (n := i + 1) (N := L) (by omega) (by omega)) dL_law_403 ?_
      refine ti (y := xs (i + 1)) (by rw [nI_clamp (by omega)]) ?_
      refine lv_aload_n hx hb dL_law_404 rfl (lv_at hl 0 rfl) ?_
      refine lv_iload_n hx hb dL_law_405 rfl (lv_at hl 3 rfl) ?_
      refine lv_iconst (v := nI 2) hx hb dL_law_406 (by decide) ?_
      refine lv_iadd hx hb dL_law_407 (ti (y := nI (i + 2)) (nI_add _ _) ?_)
      refine va_sld hx hb hXs hbl hbA hS (vp_in_nI (n := i + 2) (N := L) (by omega) (by omega)) dL_law_408 ?_
      refine ti (y := xs (i + 2)) (by rw [nI_clamp (by omega)]) ?_
      refine ca_CV (n := 2) (ci := 7) (q := (RX8, TX8, 17)) (rest := [.int r1]) (w := mw G ad y) (wr := cw G ca ads x1) F hX hM kw_905 kw_8 kw_902 kw_903 kw_904 hdX8_way rfl (by decide) ⟨by decide, by decide⟩ rfl hl.1 rfl (Nat.le_of_ble_eq_true rfl) dL_law_409 ⟨by decide, by decide⟩ hP hD hS hA (List.perm_append_comm) (fun r2 y1 H locs hp2 hP hD hS => ?_)
      obtain ⟨e1, hq1⟩ := hp2
      subst e1
      refine lv_icmp_eq (tgt := 578) hx hb dL_law_412 (by decide) (fun _ => ?_) (fun h9 => absurd rfl h9)
      exact fin x1 y1 (hN x1 y1 hq0 hq1) H locs (wp_pm List.perm_append_comm hP) (wd_pm List.perm_append_comm hD) hS
    · refine lv_tableIn (off := 385) (tgt := 417) hx hb dL_law_32 (by decide) (by decide) (by decide +kernel) (by decide) ?_
      obtain ⟨r, PC, PM, hC, hM, hN⟩ := (hJ.2.2.2.2.2.2.2.2.2.2.2.2.2.1 (xs (i + 1))) ca ads ad x y hRel
      refine lv_aload_n hx hb dL_law_417 rfl (lv_at hl 1 rfl) ?_
      refine lv_aload_n hx hb dL_law_418 rfl (lv_at hl 0 rfl) ?_
      refine lv_iload_n hx hb dL_law_419 rfl (lv_at hl 3 rfl) ?_
      refine lv_iconst (v := nI 1) hx hb dL_law_420 (by decide) ?_
      refine lv_iadd hx hb dL_law_421 (ti (y := nI (i + 1)) (nI_add _ _) ?_)
      refine va_sld hx hb hXs hbl hbA hS (vp_in_nI (n := i + 1) (N := L) (by omega) (by omega)) dL_law_422 ?_
      refine ti (y := xs (i + 1)) (by rw [nI_clamp (by omega)]) ?_
      refine ca_CV (n := 1) (ci := 6) (q := (RX7, TX7, 9)) (rest := []) (w := cw G ca ads x) (wr := mw G ad y) F hX hC kw_598 kw_1 kw_595 kw_596 kw_597 hdX7_tree rfl (by decide) ⟨by decide, by decide⟩ rfl hl.1 rfl (Nat.le_of_ble_eq_true rfl) dL_law_423 ⟨by decide, by decide⟩ hP hD hS hA (List.Perm.refl _) (fun r1 x1 H locs hp1 hP hD hS => ?_)
      obtain ⟨e0, hq0⟩ := hp1
      subst e0
      refine lv_aload_n hx hb dL_law_426 rfl (lv_at hl 2 rfl) ?_
      refine lv_aload_n hx hb dL_law_427 rfl (lv_at hl 0 rfl) ?_
      refine lv_iload_n hx hb dL_law_428 rfl (lv_at hl 3 rfl) ?_
      refine lv_iconst (v := nI 1) hx hb dL_law_429 (by decide) ?_
      refine lv_iadd hx hb dL_law_430 (ti (y := nI (i + 1)) (nI_add _ _) ?_)
      refine va_sld hx hb hXs hbl hbA hS (vp_in_nI (n := i + 1) (N := L) (by omega) (by omega)) dL_law_431 ?_
      refine ti (y := xs (i + 1)) (by rw [nI_clamp (by omega)]) ?_
      refine ca_CV (n := 1) (ci := 7) (q := (RX8, TX8, 17)) (rest := [.int r1]) (w := mw G ad y) (wr := cw G ca ads x1) F hX hM kw_909 kw_8 kw_906 kw_907 kw_908 hdX8_tree rfl (by decide) ⟨by decide, by decide⟩ rfl hl.1 rfl (Nat.le_of_ble_eq_true rfl) dL_law_432 ⟨by decide, by decide⟩ hP hD hS hA (List.perm_append_comm) (fun r2 y1 H locs hp2 hP hD hS => ?_)
      obtain ⟨e1, hq1⟩ := hp2
      subst e1
      refine lv_icmp_eq (tgt := 578) hx hb dL_law_435 (by decide) (fun _ => ?_) (fun h9 => absurd rfl h9)
      exact fin x1 y1 (hN x1 y1 hq0 hq1) H locs (wp_pm List.perm_append_comm hP) (wd_pm List.perm_append_comm hD) hS
    · refine lv_tableIn (off := 408) (tgt := 440) hx hb dL_law_32 (by decide) (by decide) (by decide +kernel) (by decide) ?_
      obtain ⟨r, PC, PM, hC, hM, hN⟩ := (hJ.2.2.2.2.2.2.2.2.2.2.2.2.2.2.1 (xs (i + 1)) (xs (i + 2))) ca ads ad x y hRel
      refine lv_aload_n hx hb dL_law_440 rfl (lv_at hl 1 rfl) ?_
      refine lv_aload_n hx hb dL_law_441 rfl (lv_at hl 0 rfl) ?_
      refine lv_iload_n hx hb dL_law_442 rfl (lv_at hl 3 rfl) ?_
      refine lv_iconst (v := nI 1) hx hb dL_law_443 (by decide) ?_
      refine lv_iadd hx hb dL_law_444 (ti (y := nI (i + 1)) (nI_add _ _) ?_)
      refine va_sld hx hb hXs hbl hbA hS (vp_in_nI (n := i + 1) (N := L) (by omega) (by omega)) dL_law_445 ?_
      refine ti (y := xs (i + 1)) (by rw [nI_clamp (by omega)]) ?_
      refine lv_aload_n hx hb dL_law_446 rfl (lv_at hl 0 rfl) ?_
      refine lv_iload_n hx hb dL_law_447 rfl (lv_at hl 3 rfl) ?_
      refine lv_iconst (v := nI 2) hx hb dL_law_448 (by decide) ?_
      refine lv_iadd hx hb dL_law_449 (ti (y := nI (i + 2)) (nI_add _ _) ?_)
      refine va_sld hx hb hXs hbl hbA hS (vp_in_nI (n := i + 2) (N := L) (by omega) (by omega)) dL_law_450 ?_
      refine ti (y := xs (i + 2)) (by rw [nI_clamp (by omega)]) ?_
      refine ca_CV (n := 2) (ci := 6) (q := (RX7, TX7, 9)) (rest := []) (w := cw G ca ads x) (wr := mw G ad y) F hX hC kw_629 kw_1 kw_626 kw_627 kw_628 hdX7_sees rfl (by decide) ⟨by decide, by decide⟩ rfl hl.1 rfl (Nat.le_of_ble_eq_true rfl) dL_law_451 ⟨by decide, by decide⟩ hP hD hS hA (List.Perm.refl _) (fun r1 x1 H locs hp1 hP hD hS => ?_)
      obtain ⟨e0, hq0⟩ := hp1
      subst e0
      refine lv_aload_n hx hb dL_law_454 rfl (lv_at hl 2 rfl) ?_
      refine lv_aload_n hx hb dL_law_455 rfl (lv_at hl 0 rfl) ?_
      refine lv_iload_n hx hb dL_law_456 rfl (lv_at hl 3 rfl) ?_
      refine lv_iconst (v := nI 1) hx hb dL_law_457 (by decide) ?_
      refine lv_iadd hx hb dL_law_458 (ti (y := nI (i + 1)) (nI_add _ _) ?_)
      refine va_sld hx hb hXs hbl hbA hS (vp_in_nI (n := i + 1) (N := L) (by omega) (by omega)) dL_law_459 ?_
      refine ti (y := xs (i + 1)) (by rw [nI_clamp (by omega)]) ?_
      refine lv_aload_n hx hb dL_law_460 rfl (lv_at hl 0 rfl) ?_
      refine lv_iload_n hx hb dL_law_461 rfl (lv_at hl 3 rfl) ?_
      refine lv_iconst (v := nI 2) hx hb dL_law_462 (by decide) ?_
      refine lv_iadd hx hb dL_law_463 (ti (y := nI (i + 2)) (nI_add _ _) ?_)
      refine va_sld hx hb hXs hbl hbA hS (vp_in_nI (n := i + 2) (N := L) (by omega) (by omega)) dL_law_464 ?_
      refine ti (y := xs (i + 2)) (by rw [nI_clamp (by omega)]) ?_
      refine ca_CV (n := 2) (ci := 7) (q := (RX8, TX8, 17)) (rest := [.int r1]) (w := mw G ad y) (wr := cw G ca ads x1) F hX hM kw_925 kw_8 kw_922 kw_923 kw_924 hdX8_sees rfl (by decide) ⟨by decide, by decide⟩ rfl hl.1 rfl (Nat.le_of_ble_eq_true rfl) dL_law_465 ⟨by decide, by decide⟩ hP hD hS hA (List.perm_append_comm) (fun r2 y1 H locs hp2 hP hD hS => ?_)
      obtain ⟨e1, hq1⟩ := hp2
      subst e1
      refine lv_icmp_eq (tgt := 578) hx hb dL_law_468 (by decide) (fun _ => ?_) (fun h9 => absurd rfl h9)
      exact fin x1 y1 (hN x1 y1 hq0 hq1) H locs (wp_pm List.perm_append_comm hP) (wd_pm List.perm_append_comm hD) hS
    · refine lv_tableIn (off := 441) (tgt := 473) hx hb dL_law_32 (by decide) (by decide) (by decide +kernel) (by decide) ?_
      obtain ⟨r, PC, PM, hC, hM, hN⟩ := (hJ.2.2.2.2.2.2.2.2.2.2.2.2.2.2.2.1) ca ads ad x y hRel
      refine lv_aload_n hx hb dL_law_473 rfl (lv_at hl 1 rfl) ?_
      refine ca_CV (n := 0) (ci := 6) (q := (RX7, TX7, 9)) (rest := []) (w := cw G ca ads x) (wr := mw G ad y) F hX hC kw_637 kw_1 kw_634 kw_635 kw_636 hdX7_forget rfl (by decide) ⟨by decide, by decide⟩ rfl hl.1 rfl (Nat.le_of_ble_eq_true rfl) dL_law_474 ⟨by decide, by decide⟩ hP hD hS hA (List.Perm.refl _) (fun r1 x1 H locs hp1 hP hD hS => ?_)
      obtain ⟨e0, hq0⟩ := hp1
      subst e0
      refine lv_aload_n hx hb dL_law_477 rfl (lv_at hl 2 rfl) ?_
      refine ca_CV (n := 0) (ci := 7) (q := (RX8, TX8, 17)) (rest := [.int r1]) (w := mw G ad y) (wr := cw G ca ads x1) F hX hM kw_929 kw_8 kw_926 kw_927 kw_928 hdX8_forget rfl (by decide) ⟨by decide, by decide⟩ rfl hl.1 rfl (Nat.le_of_ble_eq_true rfl) dL_law_478 ⟨by decide, by decide⟩ hP hD hS hA (List.perm_append_comm) (fun r2 y1 H locs hp2 hP hD hS => ?_)
      obtain ⟨e1, hq1⟩ := hp2
      subst e1
      refine lv_icmp_eq (tgt := 578) hx hb dL_law_481 (by decide) (fun _ => ?_) (fun h9 => absurd rfl h9)
      exact fin x1 y1 (hN x1 y1 hq0 hq1) H locs (wp_pm List.perm_append_comm hP) (wd_pm List.perm_append_comm hD) hS
    · refine lv_tableIn (off := 454) (tgt := 486) hx hb dL_law_32 (by decide) (by decide) (by decide +kernel) (by decide) ?_
      obtain ⟨r, PC, PM, hC, hM, hN⟩ := (hJ.2.2.2.2.2.2.2.2.2.2.2.2.2.2.2.2.1 (xs (i + 1))) ca ads ad x y hRel
      refine lv_aload_n hx hb dL_law_486 rfl (lv_at hl 1 rfl) ?_
      refine lv_aload_n hx hb dL_law_487 rfl (lv_at hl 0 rfl) ?_
      refine lv_iload_n hx hb dL_law_488 rfl (lv_at hl 3 rfl) ?_
      refine lv_iconst (v := nI 1) hx hb dL_law_489 (by decide) ?_
      refine lv_iadd hx hb dL_law_490 (ti (y := nI (i + 1)) (nI_add _ _) ?_)
      refine va_sld hx hb hXs hbl hbA hS (vp_in_nI (n := i + 1) (N := L) (by omega) (by omega)) dL_law_491 ?_
      refine ti (y := xs (i + 1)) (by rw [nI_clamp (by omega)]) ?_
      refine ca_CV (n := 1) (ci := 6) (q := (RX7, TX7, 9)) (rest := []) (w := cw G ca ads x) (wr := mw G ad y) F hX hC kw_645 kw_1 kw_642 kw_643 kw_644 hdX7_which rfl (by decide) ⟨by decide, by decide⟩ rfl hl.1 rfl (Nat.le_of_ble_eq_true rfl) dL_law_492 ⟨by decide, by decide⟩ hP hD hS hA (List.Perm.refl _) (fun r1 x1 H locs hp1 hP hD hS => ?_)
      obtain ⟨e0, hq0⟩ := hp1
      subst e0
      refine lv_aload_n hx hb dL_law_495 rfl (lv_at hl 2 rfl) ?_
      refine lv_aload_n hx hb dL_law_496 rfl (lv_at hl 0 rfl) ?_
      refine lv_iload_n hx hb dL_law_497 rfl (lv_at hl 3 rfl) ?_
      refine lv_iconst (v := nI 1) hx hb dL_law_498 (by decide) ?_
      refine lv_iadd hx hb dL_law_499 (ti (y := nI (i + 1)) (nI_add _ _) ?_)
      refine va_sld hx hb hXs hbl hbA hS (vp_in_nI (n := i + 1) (N := L) (by omega) (by omega)) dL_law_500 ?_
      refine ti (y := xs (i + 1)) (by rw [nI_clamp (by omega)]) ?_
      refine ca_CV (n := 1) (ci := 7) (q := (RX8, TX8, 17)) (rest := [.int r1]) (w := mw G ad y) (wr := cw G ca ads x1) F hX hM kw_933 kw_8 kw_930 kw_931 kw_932 hdX8_which rfl (by decide) ⟨by decide, by decide⟩ rfl hl.1 rfl (Nat.le_of_ble_eq_true rfl) dL_law_501 ⟨by decide, by decide⟩ hP hD hS hA (List.perm_append_comm) (fun r2 y1 H locs hp2 hP hD hS => ?_)
      obtain ⟨e1, hq1⟩ := hp2
      subst e1
      refine lv_icmp_eq (tgt := 578) hx hb dL_law_504 (by decide) (fun _ => ?_) (fun h9 => absurd rfl h9)
      exact fin x1 y1 (hN x1 y1 hq0 hq1) H locs (wp_pm List.perm_append_comm hP) (wd_pm List.perm_append_comm hD) hS
    · refine lv_tableIn (off := 477) (tgt := 509) hx hb dL_law_32 (by decide) (by decide) (by decide +kernel) (by decide) ?_
      obtain ⟨r, PC, PM, hC, hM, hN⟩ := (hJ.2.2.2.2.2.2.2.2.2.2.2.2.2.2.2.2.2.1 (xs (i + 1))) ca ads ad x y hRel
      refine lv_aload_n hx hb dL_law_509 rfl (lv_at hl 1 rfl) ?_
      refine lv_aload_n hx hb dL_law_510 rfl (lv_at hl 0 rfl) ?_
      refine lv_iload_n hx hb dL_law_511 rfl (lv_at hl 3 rfl) ?_
      refine lv_iconst (v := nI 1) hx hb dL_law_512 (by decide) ?_
      refine lv_iadd hx hb dL_law_513 (ti (y := nI (i + 1)) (nI_add _ _) ?_)
      refine va_sld hx hb hXs hbl hbA hS (vp_in_nI (n := i + 1) (N := L) (by omega) (by omega)) dL_law_514 ?_
      refine ti (y := xs (i + 1)) (by rw [nI_clamp (by omega)]) ?_
      refine ca_CV (n := 1) (ci := 6) (q := (RX7, TX7, 9)) (rest := []) (w := cw G ca ads x) (wr := mw G ad y) F hX hC kw_661 kw_1 kw_658 kw_659 kw_660 hdX7_keep rfl (by decide) ⟨by decide, by decide⟩ rfl hl.1 rfl (Nat.le_of_ble_eq_true rfl) dL_law_515 ⟨by decide, by decide⟩ hP hD hS hA (List.Perm.refl _) (fun r1 x1 H locs hp1 hP hD hS => ?_)
      obtain ⟨e0, hq0⟩ := hp1
      subst e0
      refine lv_aload_n hx hb dL_law_518 rfl (lv_at hl 2 rfl) ?_
      refine lv_aload_n hx hb dL_law_519 rfl (lv_at hl 0 rfl) ?_
      refine lv_iload_n hx hb dL_law_520 rfl (lv_at hl 3 rfl) ?_
      refine lv_iconst (v := nI 1) hx hb dL_law_521 (by decide) ?_
      refine lv_iadd hx hb dL_law_522 (ti (y := nI (i + 1)) (nI_add _ _) ?_)
      refine va_sld hx hb hXs hbl hbA hS (vp_in_nI (n := i + 1) (N := L) (by omega) (by omega)) dL_law_523 ?_
      refine ti (y := xs (i + 1)) (by rw [nI_clamp (by omega)]) ?_
      refine ca_CV (n := 1) (ci := 7) (q := (RX8, TX8, 17)) (rest := [.int r1]) (w := mw G ad y) (wr := cw G ca ads x1) F hX hM kw_937 kw_8 kw_934 kw_935 kw_936 hdX8_keep rfl (by decide) ⟨by decide, by decide⟩ rfl hl.1 rfl (Nat.le_of_ble_eq_true rfl) dL_law_524 ⟨by decide, by decide⟩ hP hD hS hA (List.perm_append_comm) (fun r2 y1 H locs hp2 hP hD hS => ?_)
      obtain ⟨e1, hq1⟩ := hp2
      subst e1
      refine lv_icmp_eq (tgt := 578) hx hb dL_law_527 (by decide) (fun _ => ?_) (fun h9 => absurd rfl h9)
      exact fin x1 y1 (hN x1 y1 hq0 hq1) H locs (wp_pm List.perm_append_comm hP) (wd_pm List.perm_append_comm hD) hS
    · refine lv_tableIn (off := 500) (tgt := 532) hx hb dL_law_32 (by decide) (by decide) (by decide +kernel) (by decide) ?_
      obtain ⟨r, PC, PM, hC, hM, hN⟩ := (hJ.2.2.2.2.2.2.2.2.2.2.2.2.2.2.2.2.2.2.1 (xs (i + 1))) ca ads ad x y hRel
      refine lv_aload_n hx hb dL_law_532 rfl (lv_at hl 1 rfl) ?_
      refine lv_aload_n hx hb dL_law_533 rfl (lv_at hl 0 rfl) ?_
      refine lv_iload_n hx hb dL_law_534 rfl (lv_at hl 3 rfl) ?_
      refine lv_iconst (v := nI 1) hx hb dL_law_535 (by decide) ?_
      refine lv_iadd hx hb dL_law_536 (ti (y := nI (i + 1)) (nI_add _ _) ?_)
      refine va_sld hx hb hXs hbl hbA hS (vp_in_nI (n := i + 1) (N := L) (by omega) (by omega)) dL_law_537 ?_
      refine ti (y := xs (i + 1)) (by rw [nI_clamp (by omega)]) ?_
      refine ca_CV (n := 1) (ci := 6) (q := (RX7, TX7, 9)) (rest := []) (w := cw G ca ads x) (wr := mw G ad y) F hX hC kw_665 kw_1 kw_662 kw_663 kw_664 hdX7_back rfl (by decide) ⟨by decide, by decide⟩ rfl hl.1 rfl (Nat.le_of_ble_eq_true rfl) dL_law_538 ⟨by decide, by decide⟩ hP hD hS hA (List.Perm.refl _) (fun r1 x1 H locs hp1 hP hD hS => ?_)
      obtain ⟨e0, hq0⟩ := hp1
      subst e0
      refine lv_aload_n hx hb dL_law_541 rfl (lv_at hl 2 rfl) ?_
      refine lv_aload_n hx hb dL_law_542 rfl (lv_at hl 0 rfl) ?_
      refine lv_iload_n hx hb dL_law_543 rfl (lv_at hl 3 rfl) ?_
      refine lv_iconst (v := nI 1) hx hb dL_law_544 (by decide) ?_
      refine lv_iadd hx hb dL_law_545 (ti (y := nI (i + 1)) (nI_add _ _) ?_)
      refine va_sld hx hb hXs hbl hbA hS (vp_in_nI (n := i + 1) (N := L) (by omega) (by omega)) dL_law_546 ?_
      refine ti (y := xs (i + 1)) (by rw [nI_clamp (by omega)]) ?_
      refine ca_CV (n := 1) (ci := 7) (q := (RX8, TX8, 17)) (rest := [.int r1]) (w := mw G ad y) (wr := cw G ca ads x1) F hX hM kw_941 kw_8 kw_938 kw_939 kw_940 hdX8_back rfl (by decide) ⟨by decide, by decide⟩ rfl hl.1 rfl (Nat.le_of_ble_eq_true rfl) dL_law_547 ⟨by decide, by decide⟩ hP hD hS hA (List.perm_append_comm) (fun r2 y1 H locs hp2 hP hD hS => ?_)
      obtain ⟨e1, hq1⟩ := hp2
      subst e1
      refine lv_icmp_eq (tgt := 578) hx hb dL_law_550 (by decide) (fun _ => ?_) (fun h9 => absurd rfl h9)
      exact fin x1 y1 (hN x1 y1 hq0 hq1) H locs (wp_pm List.perm_append_comm hP) (wd_pm List.perm_append_comm hD) hS
    · refine lv_tableIn (off := 523) (tgt := 555) hx hb dL_law_32 (by decide) (by decide) (by decide +kernel) (by decide) ?_
      obtain ⟨r, PC, PM, hC, hM, hN⟩ := (hJ.2.2.2.2.2.2.2.2.2.2.2.2.2.2.2.2.2.2.2 (xs (i + 1))) ca ads ad x y hRel
      refine lv_aload_n hx hb dL_law_555 rfl (lv_at hl 1 rfl) ?_
      refine lv_aload_n hx hb dL_law_556 rfl (lv_at hl 0 rfl) ?_
      refine lv_iload_n hx hb dL_law_557 rfl (lv_at hl 3 rfl) ?_
      refine lv_iconst (v := nI 1) hx hb dL_law_558 (by decide) ?_
      refine lv_iadd hx hb dL_law_559 (ti (y := nI (i + 1)) (nI_add _ _) ?_)
      refine va_sld hx hb hXs hbl hbA hS (vp_in_nI (n := i + 1) (N := L) (by omega) (by omega)) dL_law_560 ?_
      refine ti (y := xs (i + 1)) (by rw [nI_clamp (by omega)]) ?_
      refine ca_CV (n := 1) (ci := 6) (q := (RX7, TX7, 9)) (rest := []) (w := cw G ca ads x) (wr := mw G ad y) F hX hC kw_673 kw_1 kw_670 kw_671 kw_672 hdX7_count rfl (by decide) ⟨by decide, by decide⟩ rfl hl.1 rfl (Nat.le_of_ble_eq_true rfl) dL_law_561 ⟨by decide, by decide⟩ hP hD hS hA (List.Perm.refl _) (fun r1 x1 H locs hp1 hP hD hS => ?_)
      obtain ⟨e0, hq0⟩ := hp1
      subst e0
      refine lv_aload_n hx hb dL_law_564 rfl (lv_at hl 2 rfl) ?_
      refine lv_aload_n hx hb dL_law_565 rfl (lv_at hl 0 rfl) ?_
      refine lv_iload_n hx hb dL_law_566 rfl (lv_at hl 3 rfl) ?_
      refine lv_iconst (v := nI 1) hx hb dL_law_567 (by decide) ?_
      refine lv_iadd hx hb dL_law_568 (ti (y := nI (i + 1)) (nI_add _ _) ?_)
      refine va_sld hx hb hXs hbl hbA hS (vp_in_nI (n := i + 1) (N := L) (by omega) (by omega)) dL_law_569 ?_
      refine ti (y := xs (i + 1)) (by rw [nI_clamp (by omega)]) ?_
      refine ca_CV (n := 1) (ci := 7) (q := (RX8, TX8, 17)) (rest := [.int r1]) (w := mw G ad y) (wr := cw G ca ads x1) F hX hM kw_945 kw_8 kw_942 kw_943 kw_944 hdX8_count rfl (by decide) ⟨by decide, by decide⟩ rfl hl.1 rfl (Nat.le_of_ble_eq_true rfl) dL_law_570 ⟨by decide, by decide⟩ hP hD hS hA (List.perm_append_comm) (fun r2 y1 H locs hp2 hP hD hS => ?_)
      obtain ⟨e1, hq1⟩ := hp2
      subst e1
      refine lv_icmp_eq (tgt := 578) hx hb dL_law_573 (by decide) (fun _ => ?_) (fun h9 => absurd rfl h9)
      exact fin x1 y1 (hN x1 y1 hq0 hq1) H locs (wp_pm List.perm_append_comm hP) (wd_pm List.perm_append_comm hD) hS
    · refine lv_tableOut (tgt := 578) hx hb dL_law_32 (by rw [nI_toInt (by omega)]; omega) (by decide) ?_
      exact fin x y hRel H locs hP hD hS

