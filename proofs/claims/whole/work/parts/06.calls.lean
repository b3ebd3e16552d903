/-! worlds up to order; calls with their frame -/
theorem wp_mem {D : va_G} {cl : List vw_C} {ws : va_W} {H : Heap} : va_P D cl ws H ↔ ∀ q ∈ ws, va_at D cl q H := by
  constructor
  · intro h q hq
    obtain ⟨i, hi⟩ := List.getElem?_of_mem hq
    exact h i q hi
  · intro h k q hk
    exact h q (List.mem_of_getElem? hk)
theorem wd_iff {A : Nat → Prop} {ws : va_W} : va_D A ws ↔ (ws.map Prod.fst).Nodup ∧ ∀ q ∈ ws, A q.1 := by
  constructor
  · intro h
    refine ⟨?_, ?_⟩
    · rw [List.Nodup, List.pairwise_map, List.pairwise_iff_getElem]
      intro i j hi hj hij e
      have := h.1 i j ws[i] ws[j] (by simp [hi]) (by simp [hj]) e
      omega
    · intro q hq
      obtain ⟨i, hi⟩ := List.getElem?_of_mem hq
      exact h.2 i q hi
  · intro h
    refine ⟨?_, fun k q hk => h.2 q (List.mem_of_getElem? hk)⟩
    have h1 := h.1
    rw [List.Nodup, List.pairwise_map, List.pairwise_iff_getElem] at h1
    intro i j x y hi hj e
    obtain ⟨hi', rfl⟩ := List.getElem?_eq_some_iff.mp hi
    obtain ⟨hj', rfl⟩ := List.getElem?_eq_some_iff.mp hj
    rcases Nat.lt_trichotomy i j with h9 | h9 | h9
    · exact absurd e (h1 i j hi' hj' h9)
    · exact h9
    · exact absurd e.symm (h1 j i hj' hi' h9)
theorem wp_pm {D : va_G} {cl : List vw_C} {ws wt : va_W} {H : Heap} (hp : ws.Perm wt) (h : va_P D cl ws H) : va_P D cl wt H := wp_mem.mpr fun q hq => wp_mem.mp h q (hp.mem_iff.mpr hq)
theorem wd_pm {A : Nat → Prop} {ws wt : va_W} (hp : ws.Perm wt) (h : va_D A ws) : va_D A wt := by
  have h := wd_iff.mp h
  exact wd_iff.mpr ⟨(hp.map Prod.fst).nodup_iff.mp h.1, fun q hq => h.2 q (hp.mem_iff.mpr hq)⟩
theorem wp_l {D : va_G} {cl : List vw_C} {ws wt : va_W} {H : Heap} (h : va_P D cl (ws ++ wt) H) : va_P D cl ws H := wp_mem.mpr fun q hq => wp_mem.mp h q (List.mem_append_left _ hq)
theorem wp_r {D : va_G} {cl : List vw_C} {ws wt : va_W} {H : Heap} (h : va_P D cl (ws ++ wt) H) : va_P D cl wt H := wp_mem.mpr fun q hq => wp_mem.mp h q (List.mem_append_right _ hq)
theorem wd_l {A : Nat → Prop} {ws wt : va_W} (h : va_D A (ws ++ wt)) : va_D A ws := by
  have h := wd_iff.mp h
  rw [List.map_append, List.nodup_append] at h
  exact wd_iff.mpr ⟨h.1.1, fun q hq => h.2 q (List.mem_append_left _ hq)⟩
theorem wa_mem {ws : va_W} {sz q : Nat} : va_A ws sz q ↔ (∃ x ∈ ws, x.1 = q) ∨ sz ≤ q := by
  unfold va_A
  constructor
  · rintro (⟨k, e, h⟩ | h)
    · exact Or.inl ⟨(q, e), List.mem_of_getElem? h, rfl⟩
    · exact Or.inr h
  · rintro (⟨x, hx, rfl⟩ | h)
    · obtain ⟨i, hi⟩ := List.getElem?_of_mem hx
      exact Or.inl ⟨i, x.2, hi⟩
    · exact Or.inr h
/-- what a callee has changed, beside the rest -/
theorem wj_both {A : Nat → Prop} {D : va_G} {cl : List vw_C} {wc wr w1 : va_W} {H H1 : Heap} (hP : va_P D cl (wc ++ wr) H) (hD : va_D A (wc ++ wr)) (hF : ∀ q, va_A wc H.size q → A q) (hk : ∀ q : Nat, q < H.size → ¬ va_A wc H.size q → H1[q]? = H[q]?) (hP1 : va_P D cl w1 H1) (hD1 : va_D (va_A wc H.size) w1) : va_P D cl (w1 ++ wr) H1 ∧ va_D A (w1 ++ wr) := by
  have hD' := wd_iff.mp hD
  have hD1' := wd_iff.mp hD1
  rw [List.map_append, List.nodup_append] at hD'
  have apart : ∀ q ∈ wr, q.1 < H.size ∧ ¬ va_A wc H.size q.1 := by
    intro q hq
    have hl := (wp_mem.mp hP q (List.mem_append_right _ hq)).lt
    refine ⟨hl, fun h => ?_⟩
    rcases wa_mem.mp h with ⟨x, hx, e⟩ | h
    · exact hD'.1.2.2 x.1 (List.mem_map_of_mem hx) q.1 (List.mem_map_of_mem hq) e
    · omega
  refine ⟨wp_mem.mpr fun q hq => ?_, wd_iff.mpr ⟨?_, fun q hq => ?_⟩⟩
  · rcases List.mem_append.mp hq with h | h
    · exact wp_mem.mp hP1 q h
    · exact (wp_mem.mp hP q (List.mem_append_right _ h)).kept (hk q.1 (apart q h).1 (apart q h).2)
  · rw [List.map_append, List.nodup_append]
    refine ⟨hD1'.1, hD'.1.2.1, ?_⟩
    intro x hx y hy e
    obtain ⟨x', hx', rfl⟩ := List.mem_map.mp hx
    obtain ⟨y', hy', rfl⟩ := List.mem_map.mp hy
    exact (apart y' hy').2 (by rw [← e]; exact hD1'.2 x' hx')
  · rcases List.mem_append.mp hq with h | h
    · exact hF _ (hD1'.2 q h)
    · exact hD'.2 q (List.mem_append_right _ h)
theorem gA_in {c : Cond} (hc : c ∈ wA) : GoodIn wA (c :: wA) := by
  intro w h
  rcases List.mem_cons.mp h with rfl | h
  · exact ⟨hc, good_of_word (wA_good _ hc)⟩
  · exact ⟨h, good_of_word (wA_good _ h)⟩
abbrev hdOK (y : MethodName) (n : Nat) : Prop := y.cls ≠ "java/lang/invoke/MethodHandle" ∧ y.cls ≠ "java/lang/invoke/VarHandle" ∧ (parseMethodDescriptor y.desc).map (fun d => d.parameters.length) = some n
section QC
variable {p : Program} {l : Launch} {e : Env} {R : Room} {s : State} {m : MethodId} {args : Array Value} {below : List Frame} {meth : Method} {c : Code} {H : Heap} {locs : List Loc} {cells slots : Nat} {Q : State → Prop}
variable {cc : ByteArray} {pc nL : Nat} {ls : Array Slot} {rest st0 : List Value} {G : GG} {A : Nat → Prop} {ws wc wr : va_W} {own : String}
variable {S : Type} {y : MethodName} {bytes : ByteArray} {maxL n index b ci : Nat} {ret : Option FieldType} {rm : Room} {as : List Value} {w' : S → va_W} {C host : String}
theorem fr_i {post : Int32 → S → Prop} (hr : va_Run p l e R s m args below meth c H locs cells slots rm.cells rm.slots (F0 m pc ls st0) rest (va_Qi post (bW G (va_A wc H.size) w') (va_A wc H.size) as.toArray) (va_A wc H.size)) (hP : va_P G.1 vwCl (wc ++ wr) H) (hD : va_D A (wc ++ wr)) (hS : va_S A s.heap H locs) (hA : ∀ q, s.heap.size ≤ q → A q)
    (kk : ∀ (r : Int32) (u : S) (H1 : Heap) (locs1 : List Loc), post r u → va_P G.1 vwCl (w' u ++ wr) H1 → va_D A (w' u ++ wr) → va_S A s.heap H1 locs1 → W p l e R s m args below meth c H1 locs1 (cells + rm.cells) (slots + rm.slots) Q (F0 m (pc + 3) ls (.int r :: rest))) : W p l e R s m args below meth c H locs cells slots Q (F0 m pc ls st0) := by
  have hF : ∀ q, va_A wc H.size q → A q := by
    intro q h
    rcases wa_mem.mp h with ⟨x, hx, rfl⟩ | h
    · exact (wd_iff.mp hD).2 x (List.mem_append_left _ hx)
    · exact hA q (Nat.le_trans hS.1 h)
  refine va_calli hr hS (fun q _ h => hF q h) hF (fun r u t H1 locs1 ht hvm hw hB hz1 hk1 hS1 => ?_)
  obtain ⟨hP1, hD1⟩ := hB
  rw [ht] at hP1
  obtain ⟨g1, g2⟩ := wj_both hP hD hF hk1 hP1 hD1
  exact kk r u H1 locs1 hw g1 g2 hS1
theorem fr_v {post : S → Prop} (hr : va_Run p l e R s m args below meth c H locs cells slots rm.cells rm.slots (F0 m pc ls st0) rest (va_Qv post (bW G (va_A wc H.size) w') (va_A wc H.size) as.toArray) (va_A wc H.size)) (hP : va_P G.1 vwCl (wc ++ wr) H) (hD : va_D A (wc ++ wr)) (hS : va_S A s.heap H locs) (hA : ∀ q, s.heap.size ≤ q → A q)
    (kk : ∀ (u : S) (H1 : Heap) (locs1 : List Loc), post u → va_P G.1 vwCl (w' u ++ wr) H1 → va_D A (w' u ++ wr) → va_S A s.heap H1 locs1 → W p l e R s m args below meth c H1 locs1 (cells + rm.cells) (slots + rm.slots) Q (F0 m (pc + 3) ls rest)) : W p l e R s m args below meth c H locs cells slots Q (F0 m pc ls st0) := by
  have hF : ∀ q, va_A wc H.size q → A q := by
    intro q h
    rcases wa_mem.mp h with ⟨x, hx, rfl⟩ | h
    · exact (wd_iff.mp hD).2 x (List.mem_append_left _ hx)
    · exact hA q (Nat.le_trans hS.1 h)
  refine va_callv hr hS (fun q _ h => hF q h) hF (fun u t H1 locs1 ht hvm hw hB hz1 hk1 hS1 => ?_)
  obtain ⟨hP1, hD1⟩ := hB
  rw [ht] at hP1
  obtain ⟨g1, g2⟩ := wj_both hP hD hF hk1 hP1 hD1
  exact kk u H1 locs1 hw g1 g2 hS1
/-- the words of a call -/
theorem cA_B (hts : ∀ w ∈ wA, w.before args s = true) (hc : Cond.code y bytes maxL ret ∈ wA) (hini : Cond.initialized y.cls ∈ wA) (hl : Cond.methodLink own index y ∈ wA) (hd : hdOK y n) (hR : rm.frames + 1 ≤ R.frames ∧ 8 + (maxL + 11) + rm.locals ≤ R.locals) : CallB R s args own index y bytes maxL ret (wM y bytes maxL ret) rm rm.cells rm.slots n :=
  callB_of n hts (gA_in hc) rfl rfl rfl (hts _ hini) (hts _ hl) hd hR
theorem cA_V (hts : ∀ w ∈ wA, w.before args s = true) (hc : Cond.code y bytes maxL ret ∈ wA) (hini : Cond.initialized y.cls ∈ wA) (hl : Cond.methodLink own index y ∈ wA) (hi : Cond.instanceMethod y ∈ wA) (hse : Cond.selects C y y ∈ wA) (hd : hdOK y n) (hR : rm.frames + 1 ≤ R.frames ∧ 8 + (maxL + 11) + rm.locals ≤ R.locals) : CallW R s args own C index y bytes maxL ret (wM y bytes maxL ret) rm rm.cells rm.slots n :=
  ⟨cA_B hts hc hini hl hd hR, hts _ hi, hts _ hse⟩
theorem cA_S (hts : ∀ w ∈ wA, w.before args s = true) (hc : Cond.code y bytes maxL ret ∈ wA) (hini : Cond.initialized y.cls ∈ wA) (hl : Cond.methodLink own index y ∈ wA) (hst : Cond.static y ∈ wA) (hd : hdOK y n) (hR : rm.frames + 1 ≤ R.frames ∧ 8 + (maxL + 11) + rm.locals ≤ R.locals) : CallB R s args own index y bytes maxL ret (wM y bytes maxL ret) rm rm.cells rm.slots n ∧ (Cond.static y).before args s = true :=
  ⟨cA_B hts hc hini hl hd hR, hts _ hst⟩
theorem cA_N (hts : ∀ w ∈ wA, w.before args s = true) (hc : Cond.code y bytes maxL ret ∈ wA) (hini : Cond.initialized y.cls ∈ wA) (hl : va_Nw (.methodLinkNest own index y host) s) (hd : hdOK y n) (hR : rm.frames + 1 ≤ R.frames ∧ 8 + (maxL + 11) + rm.locals ≤ R.locals) : va_CN R s args own index y host bytes maxL ret (wM y bytes maxL ret) rm rm.cells rm.slots n :=
  va_cnB n hts (gA_in hc) rfl rfl rfl hl (hts _ hini) hd hR
theorem pr_S (hX : CX G s) (hP : va_P G.1 vwCl wc H) (hD : va_D A wc) : PreS s H (pC G as wc H.size) as := ⟨pC_blind, fun U hU hW => ⟨rfl, by rw [hU], by rw [hU]; exact hP, hX.warm hW, hD.weaken (fun _ _ _ _ => trivial)⟩⟩
theorem pr_V {q : vw_C} {fs : List Value} (hX : CX G s) (hP : va_P G.1 vwCl wc H) (hD : va_D A wc) (hc : vwCl[ci]? = some q) (he : wc[0]? = some (b, .inr (ci, fs))) : PreV s H q.1 b (pC G (.ref b :: as) wc H.size) as := ⟨pC_blind, va_recv hX.1 hP hc he, fun U hU hW => ⟨rfl, by rw [hU], by rw [hU]; exact hP, hX.warm hW, hD.weaken (fun _ _ _ _ => trivial)⟩⟩
/-- calls: of an instance's method -/
theorem ca_Vi {post : Int32 → S → Prop} {q : vw_C} {fs : List Value} (F : CallFix p m c cc nL s args wA own) (hX : CX G s) (hM : Mi l y bytes maxL ret rm G (.ref b :: as) wc post w') (cw : CallW R s args own q.1 index y bytes maxL ret (wM y bytes maxL ret) rm rm.cells rm.slots n) (hc : vwCl[ci]? = some q) (he : wc[0]? = some (b, .inr (ci, fs))) (hn : as.length = n) (hsz : ls.size = nL) (hst : st0 = as.reverse ++ .ref b :: rest) (hW : (rest.map fun v => v.category).sum ≤ 8) (hdg : decode cc pc = .ok (.invokevirtual index, 3)) (hf : cells + rm.cells ≤ R.cells ∧ slots + rm.slots ≤ R.slots)
    (hP : va_P G.1 vwCl ws H) (hD : va_D A ws) (hS : va_S A s.heap H locs) (hA : ∀ q, s.heap.size ≤ q → A q) (pm : ws.Perm (wc ++ wr))
    (kk : ∀ (r : Int32) (u : S) (H1 : Heap) (locs1 : List Loc), post r u → va_P G.1 vwCl (w' u ++ wr) H1 → va_D A (w' u ++ wr) → va_S A s.heap H1 locs1 → W p l e R s m args below meth c H1 locs1 (cells + rm.cells) (slots + rm.slots) Q (F0 m (pc + 3) ls (.int r :: rest))) : W p l e R s m args below meth c H locs cells slots Q (F0 m pc ls st0) := by
  have hP' := wp_pm pm hP
  have hD' := wd_pm pm hD
  exact fr_i (va_runV (As := as) (rest := rest) F (hM H.size) cw (pr_V hX (wp_l hP') (wd_l hD') hc he) rfl hn hsz hst (lv_room hW) hdg hf) hP' hD' hS hA kk
theorem ca_Vv {post : S → Prop} {q : vw_C} {fs : List Value} (F : CallFix p m c cc nL s args wA own) (hX : CX G s) (hM : Mv l y bytes maxL ret rm G (.ref b :: as) wc post w') (cw : CallW R s args own q.1 index y bytes maxL ret (wM y bytes maxL ret) rm rm.cells rm.slots n) (hc : vwCl[ci]? = some q) (he : wc[0]? = some (b, .inr (ci, fs))) (hn : as.length = n) (hsz : ls.size = nL) (hst : st0 = as.reverse ++ .ref b :: rest) (hW : (rest.map fun v => v.category).sum ≤ 8) (hdg : decode cc pc = .ok (.invokevirtual index, 3)) (hf : cells + rm.cells ≤ R.cells ∧ slots + rm.slots ≤ R.slots)
    (hP : va_P G.1 vwCl ws H) (hD : va_D A ws) (hS : va_S A s.heap H locs) (hA : ∀ q, s.heap.size ≤ q → A q) (pm : ws.Perm (wc ++ wr))
    (kk : ∀ (u : S) (H1 : Heap) (locs1 : List Loc), post u → va_P G.1 vwCl (w' u ++ wr) H1 → va_D A (w' u ++ wr) → va_S A s.heap H1 locs1 → W p l e R s m args below meth c H1 locs1 (cells + rm.cells) (slots + rm.slots) Q (F0 m (pc + 3) ls rest)) : W p l e R s m args below meth c H locs cells slots Q (F0 m pc ls st0) := by
  have hP' := wp_pm pm hP
  have hD' := wd_pm pm hD
  exact fr_v (va_runV (As := as) (rest := rest) F (hM H.size) cw (pr_V hX (wp_l hP') (wd_l hD') hc he) rfl hn hsz hst (lv_room hW) hdg hf) hP' hD' hS hA kk
/-- of a static method -/
theorem ca_Si {post : Int32 → S → Prop} (F : CallFix p m c cc nL s args wA own) (hX : CX G s) (hM : Mi l y bytes maxL ret rm G as wc post w') (cw : CallB R s args own index y bytes maxL ret (wM y bytes maxL ret) rm rm.cells rm.slots n ∧ (Cond.static y).before args s = true) (hn : as.length = n) (hsz : ls.size = nL) (hst : st0 = as.reverse ++ rest) (hW : (rest.map fun v => v.category).sum ≤ 8) (hdg : decode cc pc = .ok (.invokestatic index, 3)) (hf : cells + rm.cells ≤ R.cells ∧ slots + rm.slots ≤ R.slots)
    (hP : va_P G.1 vwCl ws H) (hD : va_D A ws) (hS : va_S A s.heap H locs) (hA : ∀ q, s.heap.size ≤ q → A q) (pm : ws.Perm (wc ++ wr))
    (kk : ∀ (r : Int32) (u : S) (H1 : Heap) (locs1 : List Loc), post r u → va_P G.1 vwCl (w' u ++ wr) H1 → va_D A (w' u ++ wr) → va_S A s.heap H1 locs1 → W p l e R s m args below meth c H1 locs1 (cells + rm.cells) (slots + rm.slots) Q (F0 m (pc + 3) ls (.int r :: rest))) : W p l e R s m args below meth c H locs cells slots Q (F0 m pc ls st0) := by
  have hP' := wp_pm pm hP
  have hD' := wd_pm pm hD
  exact fr_i (va_runS (As := as) (rest := rest) F (hM H.size) cw (pr_S hX (wp_l hP') (wd_l hD')) rfl hn hsz hst (lv_room hW) hdg hf) hP' hD' hS hA kk
theorem ca_Sv {post : S → Prop} (F : CallFix p m c cc nL s args wA own) (hX : CX G s) (hM : Mv l y bytes maxL ret rm G as wc post w') (cw : CallB R s args own index y bytes maxL ret (wM y bytes maxL ret) rm rm.cells rm.slots n ∧ (Cond.static y).before args s = true) (hn : as.length = n) (hsz : ls.size = nL) (hst : st0 = as.reverse ++ rest) (hW : (rest.map fun v => v.category).sum ≤ 8) (hdg : decode cc pc = .ok (.invokestatic index, 3)) (hf : cells + rm.cells ≤ R.cells ∧ slots + rm.slots ≤ R.slots)
    (hP : va_P G.1 vwCl ws H) (hD : va_D A ws) (hS : va_S A s.heap H locs) (hA : ∀ q, s.heap.size ≤ q → A q) (pm : ws.Perm (wc ++ wr))
    (kk : ∀ (u : S) (H1 : Heap) (locs1 : List Loc), post u → va_P G.1 vwCl (w' u ++ wr) H1 → va_D A (w' u ++ wr) → va_S A s.heap H1 locs1 → W p l e R s m args below meth c H1 locs1 (cells + rm.cells) (slots + rm.slots) Q (F0 m (pc + 3) ls rest)) : W p l e R s m args below meth c H locs cells slots Q (F0 m pc ls st0) := by
  have hP' := wp_pm pm hP
  have hD' := wd_pm pm hD
  exact fr_v (va_runS (As := as) (rest := rest) F (hM H.size) cw (pr_S hX (wp_l hP') (wd_l hD')) rfl hn hsz hst (lv_room hW) hdg hf) hP' hD' hS hA kk
/-- of a nest mate's static method -/
theorem ca_Ni {post : Int32 → S → Prop} (F : CallFix p m c cc nL s args wA own) (hX : CX G s) (hM : Mi l y bytes maxL ret rm G as wc post w') (cw : va_CN R s args own index y host bytes maxL ret (wM y bytes maxL ret) rm rm.cells rm.slots n ∧ (Cond.static y).before args s = true ∧ True) (hn : as.length = n) (hsz : ls.size = nL) (hst : st0 = as.reverse ++ rest) (hW : (rest.map fun v => v.category).sum ≤ 8) (hdg : decode cc pc = .ok (.invokestatic index, 3)) (hf : cells + rm.cells ≤ R.cells ∧ slots + rm.slots ≤ R.slots)
    (hP : va_P G.1 vwCl ws H) (hD : va_D A ws) (hS : va_S A s.heap H locs) (hA : ∀ q, s.heap.size ≤ q → A q) (pm : ws.Perm (wc ++ wr))
    (kk : ∀ (r : Int32) (u : S) (H1 : Heap) (locs1 : List Loc), post r u → va_P G.1 vwCl (w' u ++ wr) H1 → va_D A (w' u ++ wr) → va_S A s.heap H1 locs1 → W p l e R s m args below meth c H1 locs1 (cells + rm.cells) (slots + rm.slots) Q (F0 m (pc + 3) ls (.int r :: rest))) : W p l e R s m args below meth c H locs cells slots Q (F0 m pc ls st0) := by
  have hP' := wp_pm pm hP
  have hD' := wd_pm pm hD
  exact fr_i (va_runSN (As := as) (rest := rest) F (hM H.size) cw (pr_S hX (wp_l hP') (wd_l hD')) rfl hn hsz hst (lv_room hW) hdg hf) hP' hD' hS hA kk
/-- of a constructor; a nest mate's -/
theorem ca_Iv {post : S → Prop} (F : CallFix p m c cc nL s args wA own) (hX : CX G s) (hM : Mv l y bytes maxL none rm G (.ref b :: as) wc post w') (cw : CallB R s args own index y bytes maxL none (wM y bytes maxL none) rm rm.cells rm.slots n ∧ y.name = "<init>" ∧ (Cond.instanceMethod y).before args s = true) (hn : as.length = n) (hsz : ls.size = nL) (hst : st0 = as.reverse ++ .ref b :: rest) (hW : (rest.map fun v => v.category).sum ≤ 8) (hdg : decode cc pc = .ok (.invokespecial index, 3)) (hf : cells + rm.cells ≤ R.cells ∧ slots + rm.slots ≤ R.slots)
    (hP : va_P G.1 vwCl ws H) (hD : va_D A ws) (hS : va_S A s.heap H locs) (hA : ∀ q, s.heap.size ≤ q → A q) (pm : ws.Perm (wc ++ wr))
    (kk : ∀ (u : S) (H1 : Heap) (locs1 : List Loc), post u → va_P G.1 vwCl (w' u ++ wr) H1 → va_D A (w' u ++ wr) → va_S A s.heap H1 locs1 → W p l e R s m args below meth c H1 locs1 (cells + rm.cells) (slots + rm.slots) Q (F0 m (pc + 3) ls rest)) : W p l e R s m args below meth c H locs cells slots Q (F0 m pc ls st0) := by
  have hP' := wp_pm pm hP
  have hD' := wd_pm pm hD
  exact fr_v (va_runI (As := as) (rest := rest) F (hM H.size) cw (pr_S hX (wp_l hP') (wd_l hD')) rfl hn hsz hst (lv_room hW) hdg hf) hP' hD' hS hA kk
theorem ca_INv {post : S → Prop} (F : CallFix p m c cc nL s args wA own) (hX : CX G s) (hM : Mv l y bytes maxL none rm G (.ref b :: as) wc post w') (cw : va_CN R s args own index y host bytes maxL none (wM y bytes maxL none) rm rm.cells rm.slots n ∧ y.name = "<init>" ∧ (Cond.instanceMethod y).before args s = true) (hn : as.length = n) (hsz : ls.size = nL) (hst : st0 = as.reverse ++ .ref b :: rest) (hW : (rest.map fun v => v.category).sum ≤ 8) (hdg : decode cc pc = .ok (.invokespecial index, 3)) (hf : cells + rm.cells ≤ R.cells ∧ slots + rm.slots ≤ R.slots)
    (hP : va_P G.1 vwCl ws H) (hD : va_D A ws) (hS : va_S A s.heap H locs) (hA : ∀ q, s.heap.size ≤ q → A q) (pm : ws.Perm (wc ++ wr))
    (kk : ∀ (u : S) (H1 : Heap) (locs1 : List Loc), post u → va_P G.1 vwCl (w' u ++ wr) H1 → va_D A (w' u ++ wr) → va_S A s.heap H1 locs1 → W p l e R s m args below meth c H1 locs1 (cells + rm.cells) (slots + rm.slots) Q (F0 m (pc + 3) ls rest)) : W p l e R s m args below meth c H locs cells slots Q (F0 m pc ls st0) := by
  have hP' := wp_pm pm hP
  have hD' := wd_pm pm hD
  exact fr_v (va_runIN (As := as) (rest := rest) F (hM H.size) cw (pr_S hX (wp_l hP') (wd_l hD')) rfl hn hsz hst (lv_room hW) hdg hf) hP' hD' hS hA kk
end QC
