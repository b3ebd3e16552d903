/-! contracts that know of cells that nobody writes: String constants, statics -/
def Estab (E : (Nat → Prop) → State → Prop) : Prop := (∀ (A : Nat → Prop) (U : State) (g : JFrame) (mk : MethodId) (a : Array Value), E A U → E A (U.calling g mk a)) ∧ ∀ (A B : Nat → Prop) (s : State) (H : Heap) (locs : List Loc) (U : State), E A s → va_S A s.heap H locs → (∀ q, B q → A q) → U.heap = H → s.WarmedH U.vm → E B U
def pCE (G : GG) (E : (Nat → Prop) → State → Prop) (args : List Value) (w : va_W) (sz : Nat) : Array Value → State → Prop := va_Pc args (fun U => U.heap.size = sz ∧ va_P G.1 vwCl w U.heap ∧ CX G U ∧ va_D (fun _ => True) w ∧ E (va_A w sz) U)
def MiE {S : Type} (E : (Nat → Prop) → State → Prop) (l : Launch) (y : MethodName) (cc : ByteArray) (nL : Nat) (ret : Option FieldType) (rm : Room) (G : GG) (args : List Value) (w : va_W) (post : Int32 → S → Prop) (w' : S → va_W) : Prop :=
  ∀ sz : Nat, Met l y (wM y cc nL ret) rm (pCE G E args w sz) (va_Qi post (bW G (va_A w sz) w') (va_A w sz)) rm.cells rm.slots (va_A w sz)
def MvE {S : Type} (E : (Nat → Prop) → State → Prop) (l : Launch) (y : MethodName) (cc : ByteArray) (nL : Nat) (ret : Option FieldType) (rm : Room) (G : GG) (args : List Value) (w : va_W) (post : S → Prop) (w' : S → va_W) : Prop :=
  ∀ sz : Nat, Met l y (wM y cc nL ret) rm (pCE G E args w sz) (va_Qv post (bW G (va_A w sz) w') (va_A w sz)) rm.cells rm.slots (va_A w sz)
theorem pCE_blind {G : GG} {E : (Nat → Prop) → State → Prop} {args : List Value} {w : va_W} {sz : Nat} (hst : Estab E) : FrameBlind (pCE G E args w sz) := by
  intro a U g mk q
  obtain ⟨q0, q1, qP, qX, qD, qE⟩ := q
  exact ⟨q0, q1, qP, ⟨va_K.moved (u := U) (U := U.calling g mk a) (Vm.Alike.refl U.vm) qX.1, Nst.same (s := U) (U := U.calling g mk a) rfl qX.2⟩, qD, hst.1 _ U g mk a qE⟩
section QE
variable {p : Program} {l : Launch} {e : Env} {R : Room} {s : State} {m : MethodId} {args : Array Value} {below : List Frame} {meth : Method} {c : Code} {H : Heap} {locs : List Loc} {cells slots : Nat} {Q : State → Prop}
variable {cc : ByteArray} {pc nL : Nat} {ls : Array Slot} {rest st0 : List Value} {G : GG} {A : Nat → Prop} {ws wc wr : va_W} {own : String} {E : (Nat → Prop) → State → Prop}
variable {S : Type} {y : MethodName} {bytes : ByteArray} {maxL n index b ci : Nat} {ret : Option FieldType} {rm : Room} {as : List Value} {w' : S → va_W} {C host : String}
theorem MiE.of {ret : Option FieldType} {rm : Room} {as : List Value} {w : va_W} {post : Int32 → S → Prop} {w' : S → va_W} (hy : plainName y.cls = true) (hn : (lg_sl as).length ≤ nL)
    (body : ∀ (p : Program) (e : Env) (s : State) (m : MethodId) (below : List Frame) (meth : Method) (c : Code) (A : Nat → Prop) (ls : Array Slot), CallFix p m c cc nL s as.toArray wA y.cls → meth.sig.returnType = ret → meth.locks = false → meth.name = y.name → CX G s → (∀ q, s.heap.size ≤ q → A q) → va_D A w → va_P G.1 vwCl w s.heap → va_S A s.heap s.heap [] → lv_has ls nL (lv_args 0 as) → E A s →
      W p l e rm s m as.toArray below meth c s.heap [] 0 0 (MQ below (va_Qi post (bW G A w') A) as.toArray s rm.cells rm.slots A) (F0 m 0 ls [])) : MiE E l y cc nL ret rm G as w post w' := by
  intro sz
  refine Met.ofW (cc := cc) (maxL := nL) (ret := ret) hy rfl ?_
  intro p e s m args below meth c s₁ B hml hv
  obtain ⟨rfl, hsz, hP, hX, hD0, hE⟩ := hv
  have hts := atoms_spec (ws := wM y cc nL ret) B.pre
  subst hsz
  rw [lg_entry_eq]
  exact body p e s m below meth c _ _ ⟨B.exec, B.bytes, hml, findClass_of_methodNamed B.named, fun w hw => hts w (List.mem_cons_of_mem _ hw)⟩ B.returns B.notSynchronized (name_of_methodNamed B.named B.method).1 hX (fun q h => Or.inr h) (hD0.self (sz := s.heap.size)) hP va_S.rf (lv_entry as hn) hE
theorem MvE.of {ret : Option FieldType} {rm : Room} {as : List Value} {w : va_W} {post : S → Prop} {w' : S → va_W} (hy : plainName y.cls = true) (hn : (lg_sl as).length ≤ nL)
    (body : ∀ (p : Program) (e : Env) (s : State) (m : MethodId) (below : List Frame) (meth : Method) (c : Code) (A : Nat → Prop) (ls : Array Slot), CallFix p m c cc nL s as.toArray wA y.cls → meth.sig.returnType = ret → meth.locks = false → meth.name = y.name → CX G s → (∀ q, s.heap.size ≤ q → A q) → va_D A w → va_P G.1 vwCl w s.heap → va_S A s.heap s.heap [] → lv_has ls nL (lv_args 0 as) → E A s →
      W p l e rm s m as.toArray below meth c s.heap [] 0 0 (MQ below (va_Qv post (bW G A w') A) as.toArray s rm.cells rm.slots A) (F0 m 0 ls [])) : MvE E l y cc nL ret rm G as w post w' := by
  intro sz
  refine Met.ofW (cc := cc) (maxL := nL) (ret := ret) hy rfl ?_
  intro p e s m args below meth c s₁ B hml hv
  obtain ⟨rfl, hsz, hP, hX, hD0, hE⟩ := hv
  have hts := atoms_spec (ws := wM y cc nL ret) B.pre
  subst hsz
  rw [lg_entry_eq]
  exact body p e s m below meth c _ _ ⟨B.exec, B.bytes, hml, findClass_of_methodNamed B.named, fun w hw => hts w (List.mem_cons_of_mem _ hw)⟩ B.returns B.notSynchronized (name_of_methodNamed B.named B.method).1 hX (fun q h => Or.inr h) (hD0.self (sz := s.heap.size)) hP va_S.rf (lv_entry as hn) hE
theorem re_n {post : Int32 → S → Prop} {ty : FieldType} {v : Int32} (hx : p.tables.exec = Jvm.exec) (hb : c.code = cc) (hr : meth.sig.returnType = some ty) (hlocks : meth.locks = false) (hS : va_S A s.heap H locs) (u : S) (hP : va_P G.1 vwCl (w' u) H) (hD : va_D A (w' u)) (hp : post v u) (hn : narrow ty (.int v) = .int v) (hdg : decode cc pc = .ok (.ireturn, 1)) :
    W p l e R s m args below meth c H locs cells slots (MQ below (va_Qi post (bW G A w') A) args s cells slots A) (F0 m pc ls [.int v]) :=
  W.zret (v := v) hx hb hr hn (fun t ht _ => ⟨⟨v, u, rfl, hp, by rw [ht]; exact hP, hD⟩, hS.F ht⟩) hS.2.2 hdg hlocks
theorem fF_in (hD : va_D A (wc ++ wr)) (hS : va_S A s.heap H locs) (hA : ∀ q, s.heap.size ≤ q → A q) : ∀ q, va_A wc H.size q → A q := by
  intro q h
  rcases wa_mem.mp h with ⟨x, hx, rfl⟩ | h
  · exact (wd_iff.mp hD).2 x (List.mem_append_left _ hx)
  · exact hA q (Nat.le_trans hS.1 h)
theorem pr_SE (hst : Estab E) (hE : E A s) (hS : va_S A s.heap H locs) (hA : ∀ q, s.heap.size ≤ q → A q) (hX : CX G s) (hP : va_P G.1 vwCl (wc ++ wr) H) (hD : va_D A (wc ++ wr)) : PreS s H (pCE G E as wc H.size) as := ⟨pCE_blind hst, fun U hU hW => ⟨rfl, by rw [hU], by rw [hU]; exact wp_l hP, hX.warm hW, (wd_l hD).weaken (fun _ _ _ _ => trivial), hst.2 A _ s H locs U hE hS (fF_in hD hS hA) hU hW⟩⟩
theorem ca_ViE {post : Int32 → S → Prop} (hst : Estab E) (hE : E A s) (F : CallFix p m c cc nL s args wA own) (hX : CX G s) (hM : MiE E l y bytes maxL ret rm G (.ref b :: as) wc post w') (cw : CallW R s args own C index y bytes maxL ret (wM y bytes maxL ret) rm rm.cells rm.slots n) (hrc : ∃ cell : Cell, H[b]? = some cell ∧ cell.vm.isStatics = false ∧ s.vm.findClass C = some cell.cls) (hn : as.length = n) (hsz : ls.size = nL) (hst0 : st0 = as.reverse ++ .ref b :: rest) (hW : (rest.map fun v => v.category).sum ≤ 8) (hdg : decode cc pc = .ok (.invokevirtual index, 3)) (hf : cells + rm.cells ≤ R.cells ∧ slots + rm.slots ≤ R.slots)
    (hP : va_P G.1 vwCl ws H) (hD : va_D A ws) (hS : va_S A s.heap H locs) (hA : ∀ q, s.heap.size ≤ q → A q) (pm : ws.Perm (wc ++ wr))
    (kk : ∀ (r : Int32) (u : S) (H1 : Heap) (locs1 : List Loc), post r u → va_P G.1 vwCl (w' u ++ wr) H1 → va_D A (w' u ++ wr) → va_S A s.heap H1 locs1 → W p l e R s m args below meth c H1 locs1 (cells + rm.cells) (slots + rm.slots) Q (F0 m (pc + 3) ls (.int r :: rest))) : W p l e R s m args below meth c H locs cells slots Q (F0 m pc ls st0) := by
  have hP' := wp_pm pm hP
  have hD' := wd_pm pm hD
  have hpr := pr_SE (as := .ref b :: as) hst hE hS hA hX hP' hD'
  exact fr_i (va_runV (As := as) (rest := rest) F (hM H.size) cw ⟨hpr.1, hrc, hpr.2⟩ rfl hn hsz hst0 (lv_room hW) hdg hf) hP' hD' hS hA kk
theorem ca_SiE {post : Int32 → S → Prop} (hst : Estab E) (hE : E A s) (F : CallFix p m c cc nL s args wA own) (hX : CX G s) (hM : MiE E l y bytes maxL ret rm G as wc post w') (cw : CallB R s args own index y bytes maxL ret (wM y bytes maxL ret) rm rm.cells rm.slots n ∧ (Cond.static y).before args s = true) (hn : as.length = n) (hsz : ls.size = nL) (hst0 : st0 = as.reverse ++ rest) (hW : (rest.map fun v => v.category).sum ≤ 8) (hdg : decode cc pc = .ok (.invokestatic index, 3)) (hf : cells + rm.cells ≤ R.cells ∧ slots + rm.slots ≤ R.slots)
    (hP : va_P G.1 vwCl ws H) (hD : va_D A ws) (hS : va_S A s.heap H locs) (hA : ∀ q, s.heap.size ≤ q → A q) (pm : ws.Perm (wc ++ wr))
    (kk : ∀ (r : Int32) (u : S) (H1 : Heap) (locs1 : List Loc), post r u → va_P G.1 vwCl (w' u ++ wr) H1 → va_D A (w' u ++ wr) → va_S A s.heap H1 locs1 → W p l e R s m args below meth c H1 locs1 (cells + rm.cells) (slots + rm.slots) Q (F0 m (pc + 3) ls (.int r :: rest))) : W p l e R s m args below meth c H locs cells slots Q (F0 m pc ls st0) := by
  have hP' := wp_pm pm hP
  have hD' := wd_pm pm hD
  exact fr_i (va_runS (As := as) (rest := rest) F (hM H.size) cw (pr_SE hst hE hS hA hX hP' hD') rfl hn hsz hst0 (lv_room hW) hdg hf) hP' hD' hS hA kk
theorem ca_SvE {post : S → Prop} (hst : Estab E) (hE : E A s) (F : CallFix p m c cc nL s args wA own) (hX : CX G s) (hM : MvE E l y bytes maxL ret rm G as wc post w') (cw : CallB R s args own index y bytes maxL ret (wM y bytes maxL ret) rm rm.cells rm.slots n ∧ (Cond.static y).before args s = true) (hn : as.length = n) (hsz : ls.size = nL) (hst0 : st0 = as.reverse ++ rest) (hW : (rest.map fun v => v.category).sum ≤ 8) (hdg : decode cc pc = .ok (.invokestatic index, 3)) (hf : cells + rm.cells ≤ R.cells ∧ slots + rm.slots ≤ R.slots)
    (hP : va_P G.1 vwCl ws H) (hD : va_D A ws) (hS : va_S A s.heap H locs) (hA : ∀ q, s.heap.size ≤ q → A q) (pm : ws.Perm (wc ++ wr))
    (kk : ∀ (u : S) (H1 : Heap) (locs1 : List Loc), post u → va_P G.1 vwCl (w' u ++ wr) H1 → va_D A (w' u ++ wr) → va_S A s.heap H1 locs1 → W p l e R s m args below meth c H1 locs1 (cells + rm.cells) (slots + rm.slots) Q (F0 m (pc + 3) ls rest)) : W p l e R s m args below meth c H locs cells slots Q (F0 m pc ls st0) := by
  have hP' := wp_pm pm hP
  have hD' := wd_pm pm hD
  exact fr_v (va_runS (As := as) (rest := rest) F (hM H.size) cw (pr_SE hst hE hS hA hX hP' hD') rfl hn hsz hst0 (lv_room hW) hdg hf) hP' hD' hS hA kk
end QE
/-- a String that nobody writes: at k, its bytes f at v, n of them; and the statics -/
def EX (k v n : Nat) (f : Nat → Int32) (A : Nat → Prop) (U : State) : Prop := va_O RJ0 k A U U.heap ∧ va_OF "java/lang/String" "coder" "B" (.int 0) k A U U.heap ∧ va_OF "java/lang/String" "value" "[B" (.ref v) k A U U.heap ∧ va_T .byte v n (fun j => .int (f j)) A U U.heap ∧ va_Z "java/lang/String" "COMPACT_STRINGS" "Z" (.int 1) A U U.heap ∧ va_Zq "jdk/internal/util/Preconditions" "SIOOBE_FORMATTER" "Ljava/util/function/BiFunction;" A U U.heap
theorem EX_st (k v n : Nat) (f : Nat → Int32) : Estab (EX k v n f) := by
  refine ⟨?_, ?_⟩
  · intro A U g mk a h
    have hv : U.vm.Alike (U.calling g mk a).vm := Vm.Alike.refl U.vm
    obtain ⟨h1, h2, h3, h4, h5, h6⟩ := h
    exact ⟨va_O.moved (u := U) (U := U.calling g mk a) hv h1, va_OF.moved (u := U) (U := U.calling g mk a) hv h2, va_OF.moved (u := U) (U := U.calling g mk a) hv h3, va_T.moved (u := U) (U := U.calling g mk a) hv h4, va_Z.moved (u := U) (U := U.calling g mk a) hv h5, va_Zq.moved (u := U) (U := U.calling g mk a) hv h6⟩
  · intro A B s H locs U h hS hAB hU hW
    obtain ⟨h1, h2, h3, h4, h5, h6⟩ := h
    have hv := hW.alike
    subst hU
    exact ⟨((va_O.moved hv h1).kept hS.2.1).narrow hAB, ((va_OF.moved hv h2).kept hS.2.1).narrow hAB, ((va_OF.moved hv h3).kept hS.2.1).narrow hAB, ((va_T.moved hv h4).kept hS.2.1).narrow hAB, ((va_Z.moved hv h5).kept hS.2.1).narrow hAB, ((va_Zq.moved hv h6).kept hS.2.1).narrow hAB⟩
theorem EX_rc {k v n : Nat} {f : Nat → Int32} {A : Nat → Prop} {s : State} {H : Heap} {locs : List Loc} (hE : EX k v n f A s) (hS : va_S A s.heap H locs) : ∃ cell : Cell, H[k]? = some cell ∧ cell.vm.isStatics = false ∧ s.vm.findClass RJ0 = some cell.cls := by
  obtain ⟨cell, h1, h2, h3, -⟩ := hE.1.kept hS.2.1
  exact ⟨cell, h1, h2, h3⟩
theorem hdJ0_coder : hdOK yJ0_coder_7d493 0 := by decide +kernel
theorem hdJ0_isLatin1 : hdOK yJ0_isLatin1_aae02 0 := by decide +kernel
theorem hdJ0_length : hdOK yJ0_length_8abf5 0 := by decide +kernel
theorem hdJ0_charAt : hdOK yJ0_charAt_5068e 1 := by decide +kernel
theorem hdJ1_charAt : hdOK yJ1_charAt_3b067 2 := by decide +kernel
theorem hdJ0_checkIndex : hdOK yJ0_checkIndex_df160 2 := by decide +kernel
theorem hdJ3_checkIndex : hdOK yJ3_checkIndex_8e157 3 := by decide +kernel
set_option maxHeartbeats 4000000 in
set_option maxRecDepth 100000 in
theorem mJ0_coder (l : Launch) (G : GG) (k v n : Nat) (f : Nat → Int32) : MiE (EX k v n f) l yJ0_coder_7d493 cJ0_coder_7d493 1 (some .byte) (rmN 0 0) G [.ref k] ([] : va_W) (fun (r9 : Int32) (_ : Unit) => r9 = 0) (fun (_ : Unit) => ([] : va_W)) := by
  refine MiE.of (cc := cJ0_coder_7d493) (nL := 1) (by decide) (Nat.le_of_ble_eq_true rfl) ?_
  intro p e s m below meth c A ls F hr hlocks hnm hX hA hD hP hS hl hE
  have F : CallFix p m c cJ0_coder_7d493 1 s [.ref k].toArray wA RJ0 := F
  obtain ⟨hx, hb, hml, hown, hts⟩ := id F
  have hl : lv_has ls 1 [(0, .ref k)] := hl
  refine va_gets hx hb hE.2.2.2.2.1 hS hown (hts _ kw_280) (fun _ h9 => h9) dJ0_coder_7d493_0 ?_
  refine lv_if_eq (x := 1) (tgt := 13) hx hb dJ0_coder_7d493_3 (by decide) (fun h9 => absurd h9 (by decide)) (fun _ => ?_)
  refine lv_aload_n hx hb dJ0_coder_7d493_6 rfl (lv_at hl 0 rfl) ?_
  refine vk_getf hx hb hE.2.1 hS hown (hts _ kw_947) (fun _ h9 => h9) dJ0_coder_7d493_7 ?_
  refine lv_goto (tgt := 14) hx hb dJ0_coder_7d493_10 (by decide) ?_
  exact re_n (v := 0) hx hb hr hlocks hS () hP hD rfl (by decide) dJ0_coder_7d493_14
set_option maxHeartbeats 4000000 in
set_option maxRecDepth 100000 in
theorem mJ0_isLatin1 (l : Launch) (G : GG) (k v n : Nat) (f : Nat → Int32) : MiE (EX k v n f) l yJ0_isLatin1_aae02 cJ0_isLatin1_aae02 1 (some .boolean) (rmN 0 0) G [.ref k] ([] : va_W) (fun (r9 : Int32) (_ : Unit) => r9 = 1) (fun (_ : Unit) => ([] : va_W)) := by
  refine MiE.of (cc := cJ0_isLatin1_aae02) (nL := 1) (by decide) (Nat.le_of_ble_eq_true rfl) ?_
  intro p e s m below meth c A ls F hr hlocks hnm hX hA hD hP hS hl hE
  have F : CallFix p m c cJ0_isLatin1_aae02 1 s [.ref k].toArray wA RJ0 := F
  obtain ⟨hx, hb, hml, hown, hts⟩ := id F
  have hl : lv_has ls 1 [(0, .ref k)] := hl
  refine va_gets hx hb hE.2.2.2.2.1 hS hown (hts _ kw_280) (fun _ h9 => h9) dJ0_isLatin1_aae02_0 ?_
  refine lv_if_eq (x := 1) (tgt := 17) hx hb dJ0_isLatin1_aae02_3 (by decide) (fun h9 => absurd h9 (by decide)) (fun _ => ?_)
  refine lv_aload_n hx hb dJ0_isLatin1_aae02_6 rfl (lv_at hl 0 rfl) ?_
  refine vk_getf hx hb hE.2.1 hS hown (hts _ kw_947) (fun _ h9 => h9) dJ0_isLatin1_aae02_7 ?_
  refine lv_if_ne (x := 0) (tgt := 17) hx hb dJ0_isLatin1_aae02_10 (by decide) (fun h9 => absurd rfl h9) (fun _ => ?_)
  refine lv_iconst (v := 1) hx hb dJ0_isLatin1_aae02_13 (by decide) ?_
  refine lv_goto (tgt := 18) hx hb dJ0_isLatin1_aae02_14 (by decide) ?_
  exact re_n (v := 1) hx hb hr hlocks hS () hP hD rfl (by decide) dJ0_isLatin1_aae02_18
set_option maxHeartbeats 4000000 in
set_option maxRecDepth 100000 in
theorem mJ0_length (l : Launch) (G : GG) (k v n : Nat) (f : Nat → Int32) (hn : n < 2 ^ 31) : MiE (EX k v n f) l yJ0_length_8abf5 cJ0_length_8abf5 1 (some .int) (rmN 1 20) G [.ref k] ([] : va_W) (fun (r9 : Int32) (_ : Unit) => r9 = nI n) (fun (_ : Unit) => ([] : va_W)) := by
  refine MiE.of (cc := cJ0_length_8abf5) (nL := 1) (by decide) (Nat.le_of_ble_eq_true rfl) ?_
  intro p e s m below meth c A ls F hr hlocks hnm hX hA hD hP hS hl hE
  have F : CallFix p m c cJ0_length_8abf5 1 s [.ref k].toArray wA RJ0 := F
  obtain ⟨hx, hb, hml, hown, hts⟩ := id F
  have hl : lv_has ls 1 [(0, .ref k)] := hl
  refine lv_aload_n hx hb dJ0_length_8abf5_0 rfl (lv_at hl 0 rfl) ?_
  refine vk_getf hx hb hE.2.2.1 hS hown (hts _ kw_946) (fun _ h9 => h9) dJ0_length_8abf5_1 ?_
  refine va_tlen (v := nI n) hx hb hE.2.2.2.1 hS rfl dJ0_length_8abf5_4 ?_
  refine lv_aload_n hx hb dJ0_length_8abf5_5 rfl (lv_at hl 0 rfl) ?_
  refine ca_ViE (rest := [.int (nI n)]) (wr := ([] : va_W)) (EX_st k v n f) hE F hX (mJ0_coder l G k v n f) (cA_V hts kw_279 kw_9 kw_276 kw_277 kw_278 hdJ0_coder ⟨Nat.le_of_ble_eq_true rfl, Nat.le_of_ble_eq_true rfl⟩) (EX_rc hE hS) rfl hl.1 rfl (Nat.le_of_ble_eq_true rfl) dJ0_length_8abf5_6 ⟨Nat.le_of_ble_eq_true rfl, Nat.le_of_ble_eq_true rfl⟩ hP hD hS hA (List.Perm.refl _) (fun r6 u6 H locs hp6 hP hD hS => ?_)
  subst hp6
  refine lv_ishr hx hb dJ0_length_8abf5_9 (ti (y := nI n) (sb_shr0 _) ?_)
  exact re_i (v := nI n) hx hb hr hlocks hS () hP hD rfl dJ0_length_8abf5_10
set_option maxHeartbeats 4000000 in
set_option maxRecDepth 100000 in
theorem mJ3_checkIndex_n (l : Launch) (G : GG) (i n : Nat) (h : i < n) (hn : n < 2 ^ 31) : Mi l yJ3_checkIndex_8e157 cJ3_checkIndex_8e157 3 (some .int) (rmN 0 0) G [.int (nI i), .int (nI n), .null] ([] : va_W) (fun (r9 : Int32) (_ : Unit) => r9 = nI i) (fun (_ : Unit) => ([] : va_W)) := by
  refine Mi.of (cc := cJ3_checkIndex_8e157) (nL := 3) (by decide) (Nat.le_of_ble_eq_true rfl) ?_
  intro p e s m below meth c A ls F hr hlocks hnm hX hA hD hP hS hl
  obtain ⟨hx, hb, hml, hown, hts⟩ := id F
  have hl : lv_has ls 3 [(0, .int (nI i)), (1, .int (nI n)), (2, .null)] := hl
  refine lv_iload_n hx hb dJ3_checkIndex_8e157_0 rfl (lv_at hl 0 rfl) ?_
  refine nv_zlt (x := i) (tgt := 9) hx hb dJ3_checkIndex_8e157_1 (by decide) (by omega) ?_
  refine lv_iload_n hx hb dJ3_checkIndex_8e157_4 rfl (lv_at hl 0 rfl) ?_
  refine lv_iload_n hx hb dJ3_checkIndex_8e157_5 rfl (lv_at hl 1 rfl) ?_
  refine nv_lt (x := i) (y := n) (tgt := 16) hx hb dJ3_checkIndex_8e157_6 (by decide) (by omega) hn (fun _ => ?_) (fun h9 => absurd h (by omega))
  refine lv_iload_n hx hb dJ3_checkIndex_8e157_16 rfl (lv_at hl 0 rfl) ?_
  exact re_i (v := nI i) hx hb hr hlocks hS () hP hD rfl dJ3_checkIndex_8e157_17
set_option maxHeartbeats 4000000 in
set_option maxRecDepth 100000 in
theorem mJ3_checkIndex_r (l : Launch) (G : GG) (i n t : Nat) (h : i < n) (hn : n < 2 ^ 31) : Mi l yJ3_checkIndex_8e157 cJ3_checkIndex_8e157 3 (some .int) (rmN 0 0) G [.int (nI i), .int (nI n), .ref t] ([] : va_W) (fun (r9 : Int32) (_ : Unit) => r9 = nI i) (fun (_ : Unit) => ([] : va_W)) := by
  refine Mi.of (cc := cJ3_checkIndex_8e157) (nL := 3) (by decide) (Nat.le_of_ble_eq_true rfl) ?_
  intro p e s m below meth c A ls F hr hlocks hnm hX hA hD hP hS hl
  obtain ⟨hx, hb, hml, hown, hts⟩ := id F
  have hl : lv_has ls 3 [(0, .int (nI i)), (1, .int (nI n)), (2, .ref t)] := hl
  refine lv_iload_n hx hb dJ3_checkIndex_8e157_0 rfl (lv_at hl 0 rfl) ?_
  refine nv_zlt (x := i) (tgt := 9) hx hb dJ3_checkIndex_8e157_1 (by decide) (by omega) ?_
  refine lv_iload_n hx hb dJ3_checkIndex_8e157_4 rfl (lv_at hl 0 rfl) ?_
  refine lv_iload_n hx hb dJ3_checkIndex_8e157_5 rfl (lv_at hl 1 rfl) ?_
  refine nv_lt (x := i) (y := n) (tgt := 16) hx hb dJ3_checkIndex_8e157_6 (by decide) (by omega) hn (fun _ => ?_) (fun h9 => absurd h (by omega))
  refine lv_iload_n hx hb dJ3_checkIndex_8e157_16 rfl (lv_at hl 0 rfl) ?_
  exact re_i (v := nI i) hx hb hr hlocks hS () hP hD rfl dJ3_checkIndex_8e157_17
set_option maxHeartbeats 4000000 in
set_option maxRecDepth 100000 in
theorem mJ0_checkIndex (l : Launch) (G : GG) (k v n : Nat) (f : Nat → Int32) (i q : Nat) (h : i < q) (hq : q < 2 ^ 31) : MvE (EX k v n f) l yJ0_checkIndex_df160 cJ0_checkIndex_df160 2 none (rmN 1 22) G [.int (nI i), .int (nI q)] ([] : va_W) (fun (_ : Unit) => True) (fun (_ : Unit) => ([] : va_W)) := by
  refine MvE.of (cc := cJ0_checkIndex_df160) (nL := 2) (by decide) (Nat.le_of_ble_eq_true rfl) ?_
  intro p e s m below meth c A ls F hr hlocks hnm hX hA hD hP hS hl hE
  have F : CallFix p m c cJ0_checkIndex_df160 2 s [.int (nI i), .int (nI q)].toArray wA RJ0 := F
  obtain ⟨hx, hb, hml, hown, hts⟩ := id F
  have hl : lv_has ls 2 [(0, .int (nI i)), (1, .int (nI q))] := hl
  refine lv_iload_n hx hb dJ0_checkIndex_df160_0 rfl (lv_at hl 0 rfl) ?_
  refine lv_iload_n hx hb dJ0_checkIndex_df160_1 rfl (lv_at hl 1 rfl) ?_
  rcases hE.2.2.2.2.2 with hZ | ⟨t, hZ⟩
  · refine va_gets hx hb hZ hS hown (hts _ kw_296) (fun _ h9 => h9) dJ0_checkIndex_df160_2 ?_
    refine ca_Si (rest := []) (wr := ([] : va_W)) F hX (mJ3_checkIndex_n l G i q h hq) (cA_S hts kw_300 kw_11 kw_298 kw_299 hdJ3_checkIndex ⟨Nat.le_of_ble_eq_true rfl, Nat.le_of_ble_eq_true rfl⟩) rfl hl.1 rfl (Nat.le_of_ble_eq_true rfl) dJ0_checkIndex_df160_5 ⟨Nat.le_of_ble_eq_true rfl, Nat.le_of_ble_eq_true rfl⟩ hP hD hS hA (List.Perm.refl _) (fun r5 u5 H locs hp5 hP hD hS => ?_)
    refine lv_pop hx hb dJ0_checkIndex_df160_8 rfl ?_
    exact re_v hx hb hr hlocks hS () hP hD trivial dJ0_checkIndex_df160_9
  · refine va_gets hx hb hZ hS hown (hts _ kw_296) (fun _ h9 => h9) dJ0_checkIndex_df160_2 ?_
    refine ca_Si (rest := []) (wr := ([] : va_W)) F hX (mJ3_checkIndex_r l G i q t h hq) (cA_S hts kw_300 kw_11 kw_298 kw_299 hdJ3_checkIndex ⟨Nat.le_of_ble_eq_true rfl, Nat.le_of_ble_eq_true rfl⟩) rfl hl.1 rfl (Nat.le_of_ble_eq_true rfl) dJ0_checkIndex_df160_5 ⟨Nat.le_of_ble_eq_true rfl, Nat.le_of_ble_eq_true rfl⟩ hP hD hS hA (List.Perm.refl _) (fun r5 u5 H locs hp5 hP hD hS => ?_)
    refine lv_pop hx hb dJ0_checkIndex_df160_8 rfl ?_
    exact re_v hx hb hr hlocks hS () hP hD trivial dJ0_checkIndex_df160_9
set_option maxHeartbeats 4000000 in
set_option maxRecDepth 100000 in
theorem mJ1_charAt (l : Launch) (G : GG) (k v n : Nat) (f : Nat → Int32) (i : Nat) (h : i < n) (hn : n < 2 ^ 31) : MiE (EX k v n f) l yJ1_charAt_3b067 cJ1_charAt_3b067 2 (some .char) (rmN 2 43) G [.ref v, .int (nI i)] ([] : va_W) (fun (r9 : Int32) (_ : Unit) => r9 = f i &&& 255) (fun (_ : Unit) => ([] : va_W)) := by
  refine MiE.of (cc := cJ1_charAt_3b067) (nL := 2) (by decide) (Nat.le_of_ble_eq_true rfl) ?_
  intro p e s m below meth c A ls F hr hlocks hnm hX hA hD hP hS hl hE
  have F : CallFix p m c cJ1_charAt_3b067 2 s [.ref v, .int (nI i)].toArray wA RJ1 := F
  obtain ⟨hx, hb, hml, hown, hts⟩ := id F
  have hl : lv_has ls 2 [(0, .ref v), (1, .int (nI i))] := hl
  refine lv_iload_n hx hb dJ1_charAt_3b067_0 rfl (lv_at hl 1 rfl) ?_
  refine lv_aload_n hx hb dJ1_charAt_3b067_1 rfl (lv_at hl 0 rfl) ?_
  refine va_tlen (v := nI n) hx hb hE.2.2.2.1 hS rfl dJ1_charAt_3b067_2 ?_
  refine ca_SvE (rest := []) (wr := ([] : va_W)) (EX_st k v n f) hE F hX (mJ0_checkIndex l G k v n f i n h hn) (cA_S hts kw_295 kw_9 kw_293 kw_294 hdJ0_checkIndex ⟨Nat.le_of_ble_eq_true rfl, Nat.le_of_ble_eq_true rfl⟩) rfl hl.1 rfl (Nat.le_of_ble_eq_true rfl) dJ1_charAt_3b067_3 ⟨Nat.le_of_ble_eq_true rfl, Nat.le_of_ble_eq_true rfl⟩ hP hD hS hA (List.Perm.refl _) (fun u5 H locs hp5 hP hD hS => ?_)
  refine lv_aload_n hx hb dJ1_charAt_3b067_6 rfl (lv_at hl 0 rfl) ?_
  refine lv_iload_n hx hb dJ1_charAt_3b067_7 rfl (lv_at hl 1 rfl) ?_
  refine va_tb (v := .int (f i)) hx hb hE.2.2.2.1 hS (vp_in_nI h hn) (by rw [nI_clamp (by omega)]) dJ1_charAt_3b067_8 ?_
  refine lv_sipush (v := 255) hx hb dJ1_charAt_3b067_9 (by decide) ?_
  refine lv_iand hx hb dJ1_charAt_3b067_12 ?_
  refine lv_i2c (v := f i &&& 255) hx hb dJ1_charAt_3b067_13 (sc_c2 _) ?_
  exact re_n (v := f i &&& 255) hx hb hr hlocks hS () hP hD rfl (sc_nar _) dJ1_charAt_3b067_14
set_option maxHeartbeats 4000000 in
set_option maxRecDepth 100000 in
theorem mJ0_charAt (l : Launch) (G : GG) (k v n : Nat) (f : Nat → Int32) (i : Nat) (h : i < n) (hn : n < 2 ^ 31) : MiE (EX k v n f) l yJ0_charAt_5068e cJ0_charAt_5068e 2 (some .char) (rmN 3 64) G [.ref k, .int (nI i)] ([] : va_W) (fun (r9 : Int32) (_ : Unit) => r9 = f i &&& 255) (fun (_ : Unit) => ([] : va_W)) := by
  refine MiE.of (cc := cJ0_charAt_5068e) (nL := 2) (by decide) (Nat.le_of_ble_eq_true rfl) ?_
  intro p e s m below meth c A ls F hr hlocks hnm hX hA hD hP hS hl hE
  have F : CallFix p m c cJ0_charAt_5068e 2 s [.ref k, .int (nI i)].toArray wA RJ0 := F
  obtain ⟨hx, hb, hml, hown, hts⟩ := id F
  have hl : lv_has ls 2 [(0, .ref k), (1, .int (nI i))] := hl
  refine lv_aload_n hx hb dJ0_charAt_5068e_0 rfl (lv_at hl 0 rfl) ?_
  refine ca_ViE (rest := []) (wr := ([] : va_W)) (EX_st k v n f) hE F hX (mJ0_isLatin1 l G k v n f) (cA_V hts kw_289 kw_9 kw_286 kw_287 kw_288 hdJ0_isLatin1 ⟨Nat.le_of_ble_eq_true rfl, Nat.le_of_ble_eq_true rfl⟩) (EX_rc hE hS) rfl hl.1 rfl (Nat.le_of_ble_eq_true rfl) dJ0_charAt_5068e_1 ⟨Nat.le_of_ble_eq_true rfl, Nat.le_of_ble_eq_true rfl⟩ hP hD hS hA (List.Perm.refl _) (fun r6 u6 H locs hp6 hP hD hS => ?_)
  subst hp6
  refine lv_if_eq (x := 1) (tgt := 16) hx hb dJ0_charAt_5068e_4 (by decide) (fun h9 => absurd h9 (by decide)) (fun _ => ?_)
  refine lv_aload_n hx hb dJ0_charAt_5068e_7 rfl (lv_at hl 0 rfl) ?_
  refine vk_getf hx hb hE.2.2.1 hS hown (hts _ kw_946) (fun _ h9 => h9) dJ0_charAt_5068e_8 ?_
  refine lv_iload_n hx hb dJ0_charAt_5068e_11 rfl (lv_at hl 1 rfl) ?_
  refine ca_SiE (rest := []) (wr := ([] : va_W)) (EX_st k v n f) hE F hX (mJ1_charAt l G k v n f i h hn) (cA_S hts kw_292 kw_10 kw_290 kw_291 hdJ1_charAt ⟨Nat.le_of_ble_eq_true rfl, Nat.le_of_ble_eq_true rfl⟩) rfl hl.1 rfl (Nat.le_of_ble_eq_true rfl) dJ0_charAt_5068e_12 ⟨Nat.le_of_ble_eq_true rfl, Nat.le_of_ble_eq_true rfl⟩ hP hD hS hA (List.Perm.refl _) (fun r7 u7 H locs hp7 hP hD hS => ?_)
  subst hp7
  exact re_n (v := f i &&& 255) hx hb hr hlocks hS () hP hD rfl (sc_nar _) dJ0_charAt_5068e_15
