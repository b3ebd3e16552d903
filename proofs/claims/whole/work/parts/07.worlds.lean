/-! the worlds: what the cells of each kind of thing hold -/
def tkw (G : GG) (ad : Nat → Nat) (a : Nat → Nat) (r : Nat → Nat → Nat) : va_W := [(ad 0, .inr (3, [.int (nI (a 0)), .int (nI (a 1)), .int (nI (a 2)), .int (nI (a 3)), .ref (ad 1), .ref (ad 2), .ref (ad 3), .int (nI (a 7)), .int (nI (a 8)), .int (nI (a 9)), .int (nI (a 10)), .ref (ad 4)])), (ad 1, .inl (G.2 0, 12, .inl (fun j => nI (r 0 j)))), (ad 2, .inl (G.2 0, 12, .inl (fun j => nI (r 1 j)))), (ad 3, .inl (G.2 0, 12, .inl (fun j => nI (r 2 j)))), (ad 4, .inl (G.2 0, 7, .inl (fun j => nI (r 3 j))))]
def wyw (G : GG) (ad : Nat → Nat) (wt : Nat → Nat) (us : Nat) : va_W := [(ad 0, .inr (5, [.ref (ad 1), .int (nI us)])), (ad 1, .inl (G.2 0, 7, .inl (fun j => nI (wt j))))]
def bow (b w0 : Nat) : va_W := [(b, .inr (0, [.ref w0]))]
def txw (G : GG) (ad : Nat → Nat) (z : Nat → Nat) (tl : Nat → Nat) : va_W := [(ad 0, .inr (4, [.ref (ad 1), .int (nI (z 1)), .int (nI (z 2)), .int (nI (z 3)), .int (nI (z 4)), .int (nI (z 5)), .int (nI (z 6))])), (ad 1, .inl (G.2 0, 120, .inl (fun j => nI (tl j))))]
def sgw (G : GG) (ad : Nat → Nat) (wh : Nat → Nat) (nu : Nat → Int32) (sz : Nat) : va_W := [(ad 0, .inr (2, [.ref (ad 1), .ref (ad 2), .int (nI sz)])), (ad 1, .inl (G.2 0, 6, .inl (fun j => nI (wh j)))), (ad 2, .inl (G.2 0, 6, .inl nu))]
def pao (G : GG) (ad : Nat → Nat) (sz nx : Nat) (kf : Nat → Option Nat) : va_W := [(ad 0, .inr (1, [.ref (ad 1), .int (nI sz), .int (nI nx)])), (ad 1, .inl (G.2 3, 6, .inr (.inr (.inr (.inr kf)))))]
def mdw (G : GG) (ad : Nat → Nat) (z : Nat → Nat) (fl : Int32) (s : Nat → Nat) (d : Nat → Int32) (pa ke : Nat → Nat) (ik fa te : Nat → Int32) (aw : Nat → Nat) : va_W := [(ad 0, .inr (7, [.int (nI 0), .ref (ad 1), .ref (ad 2), .ref (ad 3), .int (nI (z 4)), .ref (ad 4), .ref (ad 5), .ref (ad 6), .int (nI (z 8)), .ref (ad 7), .int (nI (z 10)), .int (nI (z 11)), .int (nI (z 12)), .int (nI (z 13)), .int fl, .ref (ad 8), .int (nI (z 16))])), (ad 1, .inl (G.2 0, 52, .inl (fun j => nI (s j)))), (ad 2, .inl (G.2 0, 52, .inl d)), (ad 3, .inl (G.2 0, 312, .inl (fun j => nI (pa j)))), (ad 4, .inl (G.2 0, 104, .inl (fun j => nI (ke j)))), (ad 5, .inl (G.2 1, 2, .inl ik)), (ad 6, .inl (G.2 0, 12, .inl fa)), (ad 7, .inl (G.2 2, 120, .inl te)), (ad 8, .inl (G.2 0, 7, .inl (fun j => nI (aw j))))]
section QW
variable {p : Program} {l : Launch} {e : Env} {R : Room} {s : State} {m : MethodId} {below : List Frame} {meth : Method} {c : Code} {H : Heap} {locs : List Loc}
abbrev WI {S : Type} (p : Program) (l : Launch) (e : Env) (R : Room) (s : State) (m : MethodId) (as : List Value) (below : List Frame) (meth : Method) (c : Code) (H : Heap) (locs : List Loc) (G : GG) (A : Nat → Prop) (post : Int32 → S → Prop) (w' : S → va_W) (g : JFrame) : Prop := W p l e R s m as.toArray below meth c H locs 0 0 (MQ below (va_Qi post (bW G A w') A) as.toArray s 0 0 A) g
abbrev WV {S : Type} (p : Program) (l : Launch) (e : Env) (R : Room) (s : State) (m : MethodId) (as : List Value) (below : List Frame) (meth : Method) (c : Code) (H : Heap) (locs : List Loc) (G : GG) (A : Nat → Prop) (post : S → Prop) (w' : S → va_W) (g : JFrame) : Prop := W p l e R s m as.toArray below meth c H locs 0 0 (MQ below (va_Qv post (bW G A w') A) as.toArray s 0 0 A) g
end QW
theorem qn_inc (t : Nat) : nI t + Int32.ofInt 1 = nI (t + 1) := nI_1 t
theorem pm_nil {α : Type} (w : List α) : w.Perm (w ++ []) := List.Perm.of_eq (List.append_nil w).symm
theorem pm_sw {α : Type} (a b r : List α) : (a ++ (b ++ r)).Perm (b ++ (a ++ r)) := by
  rw [← List.append_assoc, ← List.append_assoc]
  exact List.Perm.append_right r List.perm_append_comm
/-! copies; what lies behind an array's end doesn't matter -/
theorem ce_ext {cA : ClassId} {n : Nat} {f g : Nat → Int32} (h : ∀ j, j < n → f j = g j) : vp_cell cA (n, .inl f) = vp_cell cA (n, .inl g) := by
  show arrV cA n (fun j => .int (f j)) = arrV cA n (fun j => .int (g j))
  unfold arrV
  congr 1
  apply Array.ext
  · simp
  · intro i h1 h2
    simp only [Array.size_ofFn] at h1
    simp [h i h1]
theorem wp_set {D : va_G} {cl : List vw_C} {ws : va_W} {H : Heap} {q0 a n : Nat} {cA : ClassId} {f g : Nat → Int32} (h : ∀ j, j < n → f j = g j) (hP : va_P D cl (ws.set q0 (a, .inl (cA, n, .inl f))) H) : va_P D cl (ws.set q0 (a, .inl (cA, n, .inl g))) H := by
  intro k q hk
  by_cases e : q0 = k
  · subst e
    by_cases hl : q0 < ws.length
    · rw [List.getElem?_set_self hl] at hk
      cases hk
      have := hP q0 (a, .inl (cA, n, .inl f)) (List.getElem?_set_self hl)
      show H[a]? = some (vp_cell cA (n, .inl g))
      rw [← ce_ext h]
      exact this
    · rw [List.getElem?_eq_none (by rw [List.length_set]; omega)] at hk
      cases hk
  · rw [List.getElem?_set_ne e] at hk
    exact hP k q (by rw [List.getElem?_set_ne e]; exact hk)
theorem wd_set {A : Nat → Prop} {ws : va_W} {q0 a : Nat} {x y : va_E} (hD : va_D A (ws.set q0 (a, x))) : va_D A (ws.set q0 (a, y)) := by
  by_cases hl : q0 < ws.length
  · have := hD.set (p := q0) (a := a) (e0 := x) (e := y) (List.getElem?_set_self hl)
    rwa [List.set_set] at this
  · have e : ∀ z, ws.set q0 z = ws := fun z => List.set_eq_of_length_le (by omega)
    rw [e] at hD ⊢
    exact hD
section QY
variable {p : Program} {l : Launch} {e : Env} {R : Room} {s : State} {m : MethodId} {args : Array Value} {below : List Frame} {meth : Method} {c : Code} {H : Heap} {locs : List Loc} {cells slots : Nat} {Q : State → Prop}
variable {cc : ByteArray} {pc nL : Nat} {ls : Array Slot} {rest : List Value} {G : GG} {A : Nat → Prop} {ws : va_W} {own : String}
theorem nv_cpy (F : CallFix p m c cc nL s args wA own) (hsz : ls.size = nL) (hX : CX G s) {index : Nat} (hl : Cond.methodLink own index arraycopyName ∈ wA) (hnat : Cond.native arraycopyName ∈ wA) (hstat : Cond.static arraycopyName ∈ wA) (hini : Cond.initialized "java/lang/System" ∈ wA) (hP : va_P G.1 vwCl ws H) (hD : va_D A ws) (hS : va_S A s.heap H locs) (q0 q1 : Nat) {a0 a n0 n1 : Nat} {f g : Nat → Nat} (ha0 : ws[q0]? = some (a0, .inl (G.2 0, n0, .inl (fun j => nI (f j))))) (ha1 : ws[q1]? = some (a, .inl (G.2 0, n1, .inl (fun j => nI (g j)))))
    {sp dp n : Nat} (h4 : sp + n ≤ n0) (h5 : dp + n ≤ n1) (hn0 : n0 < 2 ^ 31) (hn1 : n1 < 2 ^ 31) (hframes : 1 ≤ R.frames) (hlocals : (rest.map fun v => v.category).sum + 18 ≤ R.locals) (hdg : decode cc pc = .ok (.invokestatic index, 3))
    (kk : ∀ (H1 : Heap) (locs1 : List Loc), va_P G.1 vwCl (ws.set q1 (a, .inl (G.2 0, n1, .inl (fun j => nI (va_cpy f g sp dp n j))))) H1 → va_D A (ws.set q1 (a, .inl (G.2 0, n1, .inl (fun j => nI (va_cpy f g sp dp n j))))) → va_S A s.heap H1 locs1 → W p l e R s m args below meth c H1 locs1 cells slots Q (F0 m (pc + 3) ls rest)) : W p l e R s m args below meth c H locs cells slots Q (F0 m pc ls (.int (nI n) :: .int (nI dp) :: .ref a :: .int (nI sp) :: .ref a0 :: rest)) := by
  obtain ⟨hx, hb, hml, hown, hts⟩ := F
  have e1 : (nI sp).toNatClampNeg = sp := nI_clamp (by omega)
  have e2 : (nI dp).toNatClampNeg = dp := nI_clamp (by omega)
  have e3 : (nI n).toNatClampNeg = n := nI_clamp (by omega)
  refine va_copyi (ty := .int) hx hb (hml.trans hsz.symm) hown (hts _ hl) (hts _ hnat) (hts _ hstat) (hts _ hini) hX.1 hP hD hS q0 q1 0 0 ha0 ha1 rfl rfl rfl (nI_pos (by omega)) (nI_pos (by omega)) (nI_pos (by omega)) (by rw [e1, e3]; exact h4) (by rw [e2, e3]; exact h5) (fun _ _ => rfl) hframes hlocals hdg ?_
  rw [e1, e2, e3, qn_cpy]
  exact kk
/-- a copy of all -/
theorem nv_cpyF (F : CallFix p m c cc nL s args wA own) (hsz : ls.size = nL) (hX : CX G s) {index : Nat} (hl : Cond.methodLink own index arraycopyName ∈ wA) (hnat : Cond.native arraycopyName ∈ wA) (hstat : Cond.static arraycopyName ∈ wA) (hini : Cond.initialized "java/lang/System" ∈ wA) (hP : va_P G.1 vwCl ws H) (hD : va_D A ws) (hS : va_S A s.heap H locs) (q0 q1 : Nat) {a0 a n : Nat} {f g : Nat → Nat} (ha0 : ws[q0]? = some (a0, .inl (G.2 0, n, .inl (fun j => nI (f j))))) (ha1 : ws[q1]? = some (a, .inl (G.2 0, n, .inl (fun j => nI (g j)))))
    (hn : n < 2 ^ 31) (hframes : 1 ≤ R.frames) (hlocals : (rest.map fun v => v.category).sum + 18 ≤ R.locals) (hdg : decode cc pc = .ok (.invokestatic index, 3))
    (kk : ∀ (H1 : Heap) (locs1 : List Loc), va_P G.1 vwCl (ws.set q1 (a, .inl (G.2 0, n, .inl (fun j => nI (f j))))) H1 → va_D A (ws.set q1 (a, .inl (G.2 0, n, .inl (fun j => nI (f j))))) → va_S A s.heap H1 locs1 → W p l e R s m args below meth c H1 locs1 cells slots Q (F0 m (pc + 3) ls rest)) : W p l e R s m args below meth c H locs cells slots Q (F0 m pc ls (.int (nI n) :: .int (nI 0) :: .ref a :: .int (nI 0) :: .ref a0 :: rest)) := by
  refine nv_cpy F hsz hX hl hnat hstat hini hP hD hS q0 q1 ha0 ha1 (by omega) (by omega) hn hn hframes hlocals hdg ?_
  intro H1 locs1 g1 g2 g3
  refine kk H1 locs1 (wp_set ?_ g1) (wd_set g2) g3
  intro j hj
  simp [va_cpy, hj]
end QY
