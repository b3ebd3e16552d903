theorem bt_nf {b : Bool} (h : ¬ b = false) : b = true := by
  cases b
  · exact absurd rfl h
  · rfl
/-! reading: the pure words; the four words as String constants -/
def sln (i : Nat) : Nat := match i with
  | 0 => 5
  | 1 => 6
  | 2 => 5
  | _ => 4
def sch (i j : Nat) : Nat := match i with
  | 0 => [110, 111, 100, 101, 115].getD j 0
  | 1 => [115, 111, 117, 114, 99, 101].getD j 0
  | 2 => [108, 105, 109, 105, 116].getD j 0
  | _ => [108, 105, 110, 107].getD j 0
theorem getD_lt (l : List Nat) (h : ∀ x ∈ l, x < 128) (j : Nat) : l.getD j 0 < 128 := by
  rw [List.getD_eq_getElem?_getD]
  cases h1 : l[j]? with
  | none => simp
  | some x => exact h x (List.mem_of_getElem? h1)
theorem sch_lt (i j : Nat) : sch i j < 128 := by
  unfold sch
  split
  · exact getD_lt _ (by decide) j
  · exact getD_lt _ (by decide) j
  · exact getD_lt _ (by decide) j
  · exact getD_lt _ (by decide) j
theorem sln_lt (i : Nat) : sln i ≤ 6 := by
  unfold sln
  split <;> omega
def E4 (sk sv : Nat → Nat) (A : Nat → Prop) (U : State) : Prop := (EX (sk 0) (sv 0) (sln 0) (fun j => nI (sch 0 j)) A U ∧ EX (sk 1) (sv 1) (sln 1) (fun j => nI (sch 1 j)) A U ∧ EX (sk 2) (sv 2) (sln 2) (fun j => nI (sch 2 j)) A U ∧ EX (sk 3) (sv 3) (sln 3) (fun j => nI (sch 3 j)) A U) ∧ vk_R RX5 44 "nodes" (sk 0) U ∧ vk_R RX5 54 "source" (sk 1) U ∧ vk_R RX5 59 "limit" (sk 2) U ∧ vk_R RX5 64 "link" (sk 3) U
theorem E4_st (sk sv : Nat → Nat) : Estab (E4 sk sv) := by
  refine ⟨?_, ?_⟩
  · intro A U g mk a h
    obtain ⟨⟨h0, h1, h2, h3⟩, r0, r1, r2, r3⟩ := h
    exact ⟨⟨(EX_st _ _ _ _).1 A U g mk a h0, (EX_st _ _ _ _).1 A U g mk a h1, (EX_st _ _ _ _).1 A U g mk a h2, (EX_st _ _ _ _).1 A U g mk a h3⟩, vk_R.same (u := U) (U := U.calling g mk a) rfl r0, vk_R.same (u := U) (U := U.calling g mk a) rfl r1, vk_R.same (u := U) (U := U.calling g mk a) rfl r2, vk_R.same (u := U) (U := U.calling g mk a) rfl r3⟩
  · intro A B s H locs U h hS hAB hU hW
    obtain ⟨⟨h0, h1, h2, h3⟩, r0, r1, r2, r3⟩ := h
    exact ⟨⟨(EX_st _ _ _ _).2 A B s H locs U h0 hS hAB hU hW, (EX_st _ _ _ _).2 A B s H locs U h1 hS hAB hU hW, (EX_st _ _ _ _).2 A B s H locs U h2 hS hAB hU hW, (EX_st _ _ _ _).2 A B s H locs U h3 hS hAB hU hW⟩, r0.warm hW, r1.warm hW, r2.warm hW, r3.warm hW⟩
theorem and255 {c : Nat} (h : c < 256) : nI c &&& 255 = nI c := by
  have := qn_and c 255
  have e : c &&& 255 = c := by
    have h2 := Nat.and_two_pow_sub_one_eq_mod c 8
    have e2 : (2 ^ 8 - 1 : Nat) = 255 := by decide
    rw [e2] at h2
    omega
  rw [e] at this
  exact this
/-- the token's letters, as far as j, are the word's -/
def wdN (tl : Nat → Nat) (s : Nat) (ch : Nat → Nat) : Nat → Bool
  | 0 => true
  | j + 1 => wdN tl s ch j && decide (tl (s + j) = ch j)
theorem wdN_no {tl ch : Nat → Nat} {s k : Nat} (h : tl (s + k) ≠ ch k) : ∀ n, k < n → wdN tl s ch n = false
  | 0, h2 => absurd h2 (Nat.not_lt_zero _)
  | n + 1, h2 => by
    unfold wdN
    by_cases e : k = n
    · subst e
      rw [decide_eq_false h, Bool.and_false]
    · rw [wdN_no h n (by omega), Bool.false_and]
def wdB (z tl : Nat → Nat) (n : Nat) (ch : Nat → Nat) : Bool := decide (z 4 = 1 ∧ z 3 - z 2 = n) && wdN tl (z 2) ch n
def wdI (z tl : Nat → Nat) (i : Nat) : Bool := wdB z tl (sln i) (sch i)
abbrev PSt : Type := Bool × (Nat → Nat) × (Nat → Nat) × (Nat → Nat → Nat)
/-- an item, but for its end -/
def ri1 (z a : Nat → Nat) (r : Nat → Nat → Nat) (tl : Nat → Nat) (it : Nat) : PSt :=
  if wdI z tl 0 = true then (if it = 0 then ((ndP z a tl).1, (ndP z a tl).2.1, (ndP z a tl).2.2, r) else (false, z, a, r))
  else if wdI z tl 1 = true then (if z 6 = 0 then ((srP z a tl).1, (srP z a tl).2.1, (srP z a tl).2.2, r) else (false, z, a, r))
  else if wdI z tl 2 = true then ((lmP z a tl).1, (lmP z a tl).2.1, (lmP z a tl).2.2, r)
  else if wdI z tl 3 = true then (if a 3 < 12 then lkP z a r tl else (false, z, a, r))
  else (false, z, a, r)
def riP (z a : Nat → Nat) (r : Nat → Nat → Nat) (tl : Nat → Nat) (it : Nat) : PSt :=
  if (ri1 z a r tl it).1 = true then (decide (tok (ri1 z a r tl it).2.1 tl 4 = 3), tok (ri1 z a r tl it).2.1 tl, (ri1 z a r tl it).2.2.1, (ri1 z a r tl it).2.2.2) else (false, (ri1 z a r tl it).2.1, (ri1 z a r tl it).2.2.1, (ri1 z a r tl it).2.2.2)
theorem XB.st {z tl : Nat → Nat} (h : XB z tl) {x : Nat} (hx : x ≤ 1) : XB (va_up z 6 x) tl := by
  obtain ⟨h1, h2, h3, h4, h5, h6, h7⟩ := h
  exact ⟨h1, h2, h3, h4, h5, hx, h7⟩
theorem XB.nd {z a tl : Nat → Nat} (h : XB z tl) : XB (ndP z a tl).2.1 tl := by
  unfold ndP
  split <;> exact h.fg
theorem XB.sr {z a tl : Nat → Nat} (h : XB z tl) : XB (srP z a tl).2.1 tl := by
  unfold srP
  split
  · exact h.fg.st (Nat.le_refl _)
  · exact h.fg
theorem XB.lm {z a tl : Nat → Nat} (h : XB z tl) : XB (lmP z a tl).2.1 tl := by
  unfold lmP
  split <;> exact h.fg
theorem XB.lk {z a tl : Nat → Nat} {r : Nat → Nat → Nat} (h : XB z tl) : XB (lkP z a r tl).2.1 tl := by
  unfold lkP
  split
  · exact h.fg
  · split
    · exact h.fg.fg
    · split
      · exact h.fg.fg.fg
      · exact h.fg.fg.fg
theorem XB.r1 {z a tl : Nat → Nat} {r : Nat → Nat → Nat} {it : Nat} (h : XB z tl) : XB (ri1 z a r tl it).2.1 tl := by
  unfold ri1
  split
  · split
    · exact h.nd
    · exact h
  · split
    · split
      · exact h.sr
      · exact h
    · split
      · exact h.lm
      · split
        · split
          · exact h.lk
          · exact h
        · exact h
theorem XB.ri {z a tl : Nat → Nat} {r : Nat → Nat → Nat} {it : Nat} (h : XB z tl) : XB (riP z a r tl it).2.1 tl := by
  unfold riP
  split
  · exact h.r1.tok
  · exact h.r1
/-- a talk that is being told: ranges -/
def TI (a : Nat → Nat) (r : Nat → Nat → Nat) (it : Nat) : Prop := TB a r ∧ (it = 0 → a 1 = 0)
theorem TI.nd {z a tl : Nat → Nat} {r : Nat → Nat → Nat} (h : TI a r 0) : TB (ndP z a tl).2.2 r := by
  obtain ⟨⟨t0, t1, t2, t3, t4, t5, t6, t7, t8, t9, t10, t11, t12⟩, h0⟩ := h
  unfold ndP
  split
  · rename_i h1
    have h2 := fgB_le h1
    have h3 := h0 rfl
    refine ⟨h2.1, h2.2, ?_, t3, t4, t5, t6, t7, t8, t9, t10, t11, t12⟩
    show a 1 < fgz z tl 5
    omega
  · exact ⟨t0, t1, t2, t3, t4, t5, t6, t7, t8, t9, t10, t11, t12⟩
theorem TB.sr {z a tl : Nat → Nat} {r : Nat → Nat → Nat} (h : TB a r) : TB (srP z a tl).2.2 r := by
  obtain ⟨t0, t1, t2, t3, t4, t5, t6, t7, t8, t9, t10, t11, t12⟩ := h
  unfold srP
  split
  · rename_i h1
    have h2 := fgB_le h1
    refine ⟨t0, t1, ?_, t3, t4, t5, t6, t7, t8, t9, t10, t11, t12⟩
    show fgz z tl 5 < a 0
    omega
  · exact ⟨t0, t1, t2, t3, t4, t5, t6, t7, t8, t9, t10, t11, t12⟩
theorem TB.lm {z a tl : Nat → Nat} {r : Nat → Nat → Nat} (h : TB a r) : TB (lmP z a tl).2.2 r := by
  obtain ⟨t0, t1, t2, t3, t4, t5, t6, t7, t8, t9, t10, t11, t12⟩ := h
  unfold lmP
  split
  · rename_i h1
    have h2 := fgB_le h1
    exact ⟨t0, t1, t2, h2.2, t4, t5, t6, t7, t8, t9, t10, t11, t12⟩
  · exact ⟨t0, t1, t2, t3, t4, t5, t6, t7, t8, t9, t10, t11, t12⟩
theorem up_lt7 {f : Nat → Nat} {k x n : Nat} (h : ∀ j, f j < n) (hx : x < n) : ∀ j, va_up f k x j < n := by
  intro j
  unfold va_up
  split
  · exact hx
  · exact h j
theorem TB.lk {z a tl : Nat → Nat} {r : Nat → Nat → Nat} (h : TB a r) (h3 : a 3 < 12) : TB (lkP z a r tl).2.2.1 (lkP z a r tl).2.2.2 := by
  unfold lkP
  split
  · exact h
  · split
    · exact h
    · split
      · exact h
      · rename_i h4 h5 h6
        obtain ⟨t0, t1, t2, t3, t4, t5, t6, t7, t8, t9, t10, t11, t12⟩ := h
        have g1 := fgB_le (bt_nf h4)
        have g2 := fgB_le (bt_nf (fun h => h5 (Or.inl h)))
        have g3 := fgB_le (bt_nf h6)
        refine ⟨t0, t1, t2, t3, ?_, ?_, ?_, ?_, t8, t9, t10, t11, t12⟩
        · show a 3 + 1 ≤ 12; omega
        · exact up_lt7 t5 (by omega)
        · exact up_lt7 t6 (by omega)
        · exact up_le t7 (by omega)
theorem TI.r1 {z a tl : Nat → Nat} {r : Nat → Nat → Nat} {it : Nat} (h : TI a r it) : TB (ri1 z a r tl it).2.2.1 (ri1 z a r tl it).2.2.2 := by
  unfold ri1
  split
  · split
    · rename_i h1 h2
      subst h2
      exact h.nd
    · exact h.1
  · split
    · split
      · exact h.1.sr
      · exact h.1
    · split
      · exact h.1.lm
      · split
        · split
          · exact h.1.lk (by assumption)
          · exact h.1
        · exact h.1
theorem TI.ri {z a tl : Nat → Nat} {r : Nat → Nat → Nat} {it : Nat} (h : TI a r it) : TI (riP z a r tl it).2.2.1 (riP z a r tl it).2.2.2 (it + 1) := by
  refine ⟨?_, fun h => by omega⟩
  unfold riP
  split <;> exact h.r1
abbrev RSt : Type := Option Nat × Nat × (Nat → Nat) × (Nat → Nat) × (Nat → Nat → Nat)
def rdP (tl : Nat → Nat) : Nat → Nat → (Nat → Nat) → (Nat → Nat) → (Nat → Nat → Nat) → RSt
  | 0, i, z, a, r => (none, i, z, a, r)
  | n + 1, i, z, a, r => if z 4 = 0 then (none, i, z, a, r) else if (riP z a r tl i).1 = true then rdP tl n (i + 1) (tok (riP z a r tl i).2.1 tl) (riP z a r tl i).2.2.1 (riP z a r tl i).2.2.2 else (some ((riP z a r tl i).2.1 2), i, (riP z a r tl i).2.1, (riP z a r tl i).2.2.1, (riP z a r tl i).2.2.2)
def fiA (a : Nat → Nat) : Nat → Nat := va_up (va_up (va_up (va_up (va_up (va_up (va_up (va_up a 0 2) 1 0) 2 0) 3 0) 7 0) 8 0) 9 0) 10 0
def rdA (z a : Nat → Nat) (r : Nat → Nat → Nat) (tl : Nat → Nat) : RSt := rdP tl 120 0 (tok (va_up (va_up z 3 0) 6 0) tl) (fiA a) r
def rdI (p : RSt) : Int32 := match p.1 with
  | some s => -10 - nI s
  | none => nI p.2.1
theorem TB.fi {a : Nat → Nat} {r : Nat → Nat → Nat} (h5 : ∀ j, r 0 j < 7) (h6 : ∀ j, r 1 j < 7) (h7 : ∀ j, r 2 j ≤ 9) (h12 : ∀ j, r 3 j < 7) : TI (fiA a) r 0 := ⟨⟨by show 2 ≤ 2; omega, by show 2 ≤ 7; omega, by show 0 < 2; omega, by show 0 ≤ 9; omega, by show 0 ≤ 12; omega, h5, h6, h7, by show 0 < 128; omega, by show 0 < 4096; omega, by show 0 < 4096; omega, by show 0 ≤ 7; omega, h12⟩, fun _ => rfl⟩
