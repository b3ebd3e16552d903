/-! constructors: new arrays, what holds of a class's array -/
section QN
variable {p : Program} {l : Launch} {e : Env} {R : Room} {s : State} {m : MethodId} {args : Array Value} {below : List Frame} {meth : Method} {c : Code} {H : Heap} {locs : List Loc} {cells slots : Nat} {Q : State → Prop}
variable {cc : ByteArray} {pc nL : Nat} {ls : Array Slot} {rest st0 : List Value} {G : GG} {A : Nat → Prop} {ws wc wr : va_W} {own : String}
theorem nw_I (hx : p.tables.exec = Jvm.exec) (hb : c.code = cc) (hc : (Cond.arrayClass .int).before args s = true) (hX : CX G s) (hP : va_P G.1 vwCl ws H) (hD : va_D A ws) (hS : va_S A s.heap H locs) (hA : ∀ q, s.heap.size ≤ q → A q) {n : Nat} (hn : n < 2 ^ 20) (hcells : cells + 1 ≤ R.cells) (hslots : slots + n ≤ R.slots) (hdg : decode cc pc = .ok (.newarray .int, 2))
    (kk : ∀ (q : Nat) (H1 : Heap), va_P G.1 vwCl (ws ++ [(q, .inl (G.2 0, n, .inl (fun _ => nI 0)))]) H1 → va_D A (ws ++ [(q, .inl (G.2 0, n, .inl (fun _ => nI 0)))]) → va_S A s.heap H1 locs → W p l e R s m args below meth c H1 locs (cells + 1) (slots + n) Q (F0 m (pc + 2) ls (.ref q :: rest))) : W p l e R s m args below meth c H locs cells slots Q (F0 m pc ls (.int (nI n) :: rest)) := by
  refine va_newa (atype := .int) (ty := .int) (a0 := (n, .inl (fun _ => nI 0))) hx hb hc rfl hX.1 hP hD hS hA (fun cA => rfl) (nI_pos (by omega)) (nI_clamp (by omega)) (by show n * 4 ≤ _; omega) hcells hslots hdg ?_
  intro q cA H1 hK hP hD hS
  have e0 : cA = G.2 0 := Option.some.inj ((va_nm_int (hK.2 4 (cA, .int) rfl).2).symm.trans (va_nm_int (hX.1.2 0 (G.2 0, .int) rfl).2))
  subst e0
  exact kk q H1 hP hD hS
theorem nw_Z (hx : p.tables.exec = Jvm.exec) (hb : c.code = cc) (hc : (Cond.arrayClass .boolean).before args s = true) (hX : CX G s) (hP : va_P G.1 vwCl ws H) (hD : va_D A ws) (hS : va_S A s.heap H locs) (hA : ∀ q, s.heap.size ≤ q → A q) {n : Nat} (hn : n < 2 ^ 20) (hcells : cells + 1 ≤ R.cells) (hslots : slots + n ≤ R.slots) (hdg : decode cc pc = .ok (.newarray .boolean, 2))
    (kk : ∀ (q : Nat) (H1 : Heap), va_P G.1 vwCl (ws ++ [(q, .inl (G.2 1, n, .inl (fun _ => nI 0)))]) H1 → va_D A (ws ++ [(q, .inl (G.2 1, n, .inl (fun _ => nI 0)))]) → va_S A s.heap H1 locs → W p l e R s m args below meth c H1 locs (cells + 1) (slots + n) Q (F0 m (pc + 2) ls (.ref q :: rest))) : W p l e R s m args below meth c H locs cells slots Q (F0 m pc ls (.int (nI n) :: rest)) := by
  refine va_newa (atype := .boolean) (ty := .boolean) (a0 := (n, .inl (fun _ => nI 0))) hx hb hc rfl hX.1 hP hD hS hA (fun cA => rfl) (nI_pos (by omega)) (nI_clamp (by omega)) (by show n * 1 ≤ _; omega) hcells hslots hdg ?_
  intro q cA H1 hK hP hD hS
  have e0 : cA = G.2 1 := Option.some.inj ((va_nm_boolean (hK.2 4 (cA, .boolean) rfl).2).symm.trans (va_nm_boolean (hX.1.2 1 (G.2 1, .boolean) rfl).2))
  subst e0
  exact kk q H1 hP hD hS
theorem nw_B (hx : p.tables.exec = Jvm.exec) (hb : c.code = cc) (hc : (Cond.arrayClass .byte).before args s = true) (hX : CX G s) (hP : va_P G.1 vwCl ws H) (hD : va_D A ws) (hS : va_S A s.heap H locs) (hA : ∀ q, s.heap.size ≤ q → A q) {n : Nat} (hn : n < 2 ^ 20) (hcells : cells + 1 ≤ R.cells) (hslots : slots + n ≤ R.slots) (hdg : decode cc pc = .ok (.newarray .byte, 2))
    (kk : ∀ (q : Nat) (H1 : Heap), va_P G.1 vwCl (ws ++ [(q, .inl (G.2 2, n, .inl (fun _ => sb_b 0)))]) H1 → va_D A (ws ++ [(q, .inl (G.2 2, n, .inl (fun _ => sb_b 0)))]) → va_S A s.heap H1 locs → W p l e R s m args below meth c H1 locs (cells + 1) (slots + n) Q (F0 m (pc + 2) ls (.ref q :: rest))) : W p l e R s m args below meth c H locs cells slots Q (F0 m pc ls (.int (nI n) :: rest)) := by
  have h0 : sb_b 0 = 0 := by decide +kernel
  refine va_newa (atype := .byte) (ty := .byte) (a0 := (n, .inl (fun _ => sb_b 0))) hx hb hc rfl hX.1 hP hD hS hA (fun cA => by rw [h0]; rfl) (nI_pos (by omega)) (nI_clamp (by omega)) (by show n * 1 ≤ _; omega) hcells hslots hdg ?_
  intro q cA H1 hK hP hD hS
  have e0 : cA = G.2 2 := Option.some.inj ((va_nm_byte (hK.2 4 (cA, .byte) rfl).2).symm.trans (va_nm_byte (hX.1.2 2 (G.2 2, .byte) rfl).2))
  subst e0
  exact kk q H1 hP hD hS
theorem nw_T (hx : p.tables.exec = Jvm.exec) (hb : c.code = cc) {index : Nat} (hown : s.vm.findClass own = some m.cls) (hc : (Cond.classLink own index RX4).before args s = true) (ho : va_AO RX4 s) (hX : CX G s) (hP : va_P G.1 vwCl ws H) (hD : va_D A ws) (hS : va_S A s.heap H locs) (hA : ∀ q, s.heap.size ≤ q → A q) {n : Nat} (hn : n < 2 ^ 20) (hcells : cells + 1 ≤ R.cells) (hslots : slots + n ≤ R.slots) (hdg : decode cc pc = .ok (.anewarray index, 3))
    (kk : ∀ (q : Nat) (H1 : Heap), va_P G.1 vwCl (ws ++ [(q, .inl (G.2 3, n, .inr (.inr (.inr (.inr (fun _ => none))))))]) H1 → va_D A (ws ++ [(q, .inl (G.2 3, n, .inr (.inr (.inr (.inr (fun _ => none))))))]) → va_S A s.heap H1 locs → W p l e R s m args below meth c H1 locs (cells + 1) (slots + n) Q (F0 m (pc + 3) ls (.ref q :: rest))) : W p l e R s m args below meth c H locs cells slots Q (F0 m pc ls (.int (nI n) :: rest)) := by
  refine va_newq hx hb hown hc ho hX.1 hP hD hS hA (nI_pos (by omega)) (nI_clamp (by omega)) (by omega) hcells hslots hdg ?_
  intro q cA H1 hK hP hD hS
  obtain ⟨_, _, _, _, _, h1⟩ := (hK.2 4 (cA, .object RX4) rfl).2
  obtain ⟨_, _, _, _, _, h2⟩ := (hX.1.2 3 (G.2 3, .object RX4) rfl).2
  have e0 : cA = G.2 3 := Option.some.inj (h1.symm.trans h2)
  subst e0
  exact kk q H1 hP hD hS
/-- what a row of references gets -/
theorem nv_astT (hx : p.tables.exec = Jvm.exec) (hb : c.code = cc) (hX : CX G s) (hP : va_P G.1 vwCl ws H) (hD : va_D A ws) (hS : va_S A s.heap H locs) (q0 qk : Nat) {a n k v : Nat} {vs : List Value} {f : Nat → Option Nat} (ha : ws[q0]? = some (a, .inl (G.2 3, n, .inr (.inr (.inr (.inr f)))))) (hv : ws[qk]? = some (v, .inr (3, vs))) (hk : k < n) (hn : n < 2 ^ 31) (hdg : decode cc pc = .ok (.aastore, 1))
    (kk : ∀ (H1 : Heap) (locs1 : List Loc), va_P G.1 vwCl (ws.set q0 (a, .inl (G.2 3, n, .inr (.inr (.inr (.inr (va_up f k (some v)))))))) H1 → va_D A (ws.set q0 (a, .inl (G.2 3, n, .inr (.inr (.inr (.inr (va_up f k (some v)))))))) → va_S A s.heap H1 locs1 → W p l e R s m args below meth c H1 locs1 cells slots Q (F0 m (pc + 1) ls rest)) : W p l e R s m args below meth c H locs cells slots Q (F0 m pc ls (.ref v :: .int (nI k) :: .ref a :: rest)) := by
  refine va_astq (r := (RX4, TX4, 12)) hx hb hX.1 hP hD hS q0 3 qk 3 ha rfl hv rfl (vp_in_nI hk hn) hdg ?_
  rw [nI_clamp (by omega)]
  exact kk
variable {S : Type} {y : MethodName} {bytes : ByteArray} {maxL n index b : Nat} {rm : Room} {as : List Value} {w' : S → va_W} {C host : String} {E : (Nat → Prop) → State → Prop}
theorem ca_IvE {post : S → Prop} (hst : Estab E) (hE : E A s) (F : CallFix p m c cc nL s args wA own) (hX : CX G s) (hM : MvE E l y bytes maxL none rm G (.ref b :: as) wc post w') (cw : CallB R s args own index y bytes maxL none (wM y bytes maxL none) rm rm.cells rm.slots n ∧ y.name = "<init>" ∧ (Cond.instanceMethod y).before args s = true) (hn : as.length = n) (hsz : ls.size = nL) (hst0 : st0 = as.reverse ++ .ref b :: rest) (hW : (rest.map fun v => v.category).sum ≤ 8) (hdg : decode cc pc = .ok (.invokespecial index, 3)) (hf : cells + rm.cells ≤ R.cells ∧ slots + rm.slots ≤ R.slots)
    (hP : va_P G.1 vwCl ws H) (hD : va_D A ws) (hS : va_S A s.heap H locs) (hA : ∀ q, s.heap.size ≤ q → A q) (pm : ws.Perm (wc ++ wr))
    (kk : ∀ (u : S) (H1 : Heap) (locs1 : List Loc), post u → va_P G.1 vwCl (w' u ++ wr) H1 → va_D A (w' u ++ wr) → va_S A s.heap H1 locs1 → W p l e R s m args below meth c H1 locs1 (cells + rm.cells) (slots + rm.slots) Q (F0 m (pc + 3) ls rest)) : W p l e R s m args below meth c H locs cells slots Q (F0 m pc ls st0) := by
  have hP' := wp_pm pm hP
  have hD' := wd_pm pm hD
  exact fr_v (va_runI (As := as) (rest := rest) F (hM H.size) cw (pr_SE hst hE hS hA hX hP' hD') rfl hn hsz hst0 (lv_room hW) hdg hf) hP' hD' hS hA kk
end QN
def EO (_ : Nat → Prop) (U : State) : Prop := va_AO RX4 U
theorem EO_st : Estab EO := ⟨fun _ _ _ _ _ h => h, fun _ _ _ _ _ _ h _ _ _ hW => va_AO.moved hW.alike h⟩
def adL (l : List Nat) : Nat → Nat := fun j => l.getD j 0
def tk0 : Nat → Nat := fun j => if j = 0 then 2 else 0
def rk0 : Nat → Nat → Nat := fun _ _ => 0
def kf0 (l : List Nat) : Nat → Option Nat := fun k => l[k]?
abbrev rmK (f lo ce sl : Nat) : Room := { frames := f, cells := ce, slots := sl, locals := lo }
theorem ce_extT {cA : ClassId} {n : Nat} {f g : Nat → Option Nat} (h : ∀ j, j < n → f j = g j) : vp_cell cA (n, .inr (.inr (.inr (.inr f)))) = vp_cell cA (n, .inr (.inr (.inr (.inr g)))) := by
  rw [vp_cell_q, vp_cell_q]
  unfold arrV
  congr 1
  apply Array.ext
  · simp
  · intro i h1 h2
    simp only [Array.size_ofFn] at h1
    simp [h i h1]
theorem wp_setT {D : va_G} {cl : List vw_C} {ws : va_W} {H : Heap} {q0 a n : Nat} {cA : ClassId} {f g : Nat → Option Nat} (h : ∀ j, j < n → f j = g j) (hP : va_P D cl (ws.set q0 (a, .inl (cA, n, .inr (.inr (.inr (.inr f)))))) H) : va_P D cl (ws.set q0 (a, .inl (cA, n, .inr (.inr (.inr (.inr g)))))) H := by
  intro k q hk
  by_cases e : q0 = k
  · subst e
    by_cases hl : q0 < ws.length
    · rw [List.getElem?_set_self hl] at hk
      cases hk
      have := hP q0 (a, .inl (cA, n, .inr (.inr (.inr (.inr f))))) (List.getElem?_set_self hl)
      show H[a]? = some (vp_cell cA (n, .inr (.inr (.inr (.inr g)))))
      rw [← ce_extT h]
      exact this
    · rw [List.getElem?_eq_none (by rw [List.length_set]; omega)] at hk
      cases hk
  · rw [List.getElem?_set_ne e] at hk
    exact hP k q (by rw [List.getElem?_set_ne e]; exact hk)
def adT (l : List (Nat → Nat)) : Nat → Nat → Nat := fun k => l.getD k (fun _ => 0)
