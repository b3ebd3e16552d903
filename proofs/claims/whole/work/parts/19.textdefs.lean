/-! the text: the pure words -/
def runP (p : Nat → Bool) (len : Nat) : Nat → Nat → Nat
  | 0, j => j
  | n + 1, j => if j < len ∧ p j = true then runP p len n (j + 1) else j
theorem runP_le {p : Nat → Bool} {len : Nat} : ∀ (n j : Nat), j ≤ len → j ≤ runP p len n j ∧ runP p len n j ≤ len
  | 0, j, h => ⟨Nat.le_refl _, h⟩
  | n + 1, j, h => by
    unfold runP
    split
    · rename_i h2
      have := runP_le n (j + 1) (by omega) (p := p) (len := len)
      omega
    · exact ⟨Nat.le_refl _, h⟩
theorem runP_step {p : Nat → Bool} {len j : Nat} (h : j < len) (hp : p j = true) : runP p len (len - j) j = runP p len (len - (j + 1)) (j + 1) := by
  have e : len - j = (len - (j + 1)) + 1 := by omega
  rw [e, runP, if_pos ⟨h, hp⟩]
theorem runP_end {p : Nat → Bool} {len j : Nat} (h : len ≤ j) : runP p len (len - j) j = j := by
  have e : len - j = 0 := by omega
  rw [e, runP]
theorem runP_stop {p : Nat → Bool} {len j : Nat} (h : j < len) (hp : p j = false) : runP p len (len - j) j = j := by
  have e : len - j = (len - (j + 1)) + 1 := by omega
  rw [e, runP, if_neg (fun h2 => by rw [hp] at h2; exact absurd h2.2 (by decide))]
def isD (tl : Nat → Nat) (j : Nat) : Bool := decide (48 ≤ tl j ∧ tl j ≤ 57)
def isL (tl : Nat → Nat) (j : Nat) : Bool := decide (97 ≤ tl j ∧ tl j ≤ 122)
def isB (tl : Nat → Nat) (j : Nat) : Bool := decide (tl j = 32)
def tS (tl : Nat → Nat) (len e : Nat) : Nat := runP (isB tl) len (len - e) e
def tE (tl : Nat → Nat) (len s : Nat) : Nat := if len ≤ s then s else if isD tl s = true then runP (isD tl) len (len - s) s else if isL tl s = true then runP (isL tl) len (len - s) s else s + 1
def tK (tl : Nat → Nat) (len s : Nat) : Nat := if len ≤ s then 0 else if isD tl s = true then 2 else if isL tl s = true then 1 else if tl s = 59 then 3 else 4
/-- the text's own numbers when a token is taken -/
def tok (z tl : Nat → Nat) : Nat → Nat := va_up (va_up (va_up z 2 (tS tl (z 1) (z 3))) 3 (tE tl (z 1) (tS tl (z 1) (z 3)))) 4 (tK tl (z 1) (tS tl (z 1) (z 3)))
/-- ranges -/
def XB (z tl : Nat → Nat) : Prop := z 1 ≤ 120 ∧ z 2 ≤ 120 ∧ z 3 ≤ z 1 ∧ z 4 ≤ 4 ∧ z 5 ≤ 9 ∧ z 6 ≤ 1 ∧ ∀ j, tl j < 256
theorem tS_le {tl : Nat → Nat} {len e : Nat} (h : e ≤ len) : e ≤ tS tl len e ∧ tS tl len e ≤ len := runP_le _ _ h
theorem tE_le {tl : Nat → Nat} {len s : Nat} (h : s ≤ len) : s ≤ tE tl len s ∧ tE tl len s ≤ len := by
  unfold tE
  split
  · omega
  · split
    · exact runP_le _ _ h
    · split
      · exact runP_le _ _ h
      · omega
theorem tK_le (tl : Nat → Nat) (len s : Nat) : tK tl len s ≤ 4 := by
  unfold tK
  split
  · omega
  · split
    · omega
    · split
      · omega
      · split <;> omega
theorem XB.tok {z tl : Nat → Nat} (h : XB z tl) : XB (tok z tl) tl := by
  obtain ⟨h1, h2, h3, h4, h5, h6, h7⟩ := h
  have a1 := tS_le (tl := tl) h3
  have a2 := tE_le (tl := tl) a1.2
  exact ⟨h1, Nat.le_trans a1.2 h1, a2.2, tK_le _ _ _, h5, h6, h7⟩
theorem tok_le {z tl : Nat → Nat} (h : XB z tl) : tok z tl 2 ≤ tok z tl 3 ∧ tok z tl 3 ≤ z 1 := by
  have a1 := tS_le (tl := tl) h.2.2.1
  exact tE_le (tl := tl) a1.2
theorem tok_lt {z tl : Nat → Nat} (h : tok z tl 4 ≠ 0) : tok z tl 2 < z 1 := by
  have h2 : tK tl (z 1) (tS tl (z 1) (z 3)) ≠ 0 := h
  show tS tl (z 1) (z 3) < z 1
  unfold tK at h2
  split at h2
  · exact absurd rfl h2
  · omega
theorem tok_dig {z tl : Nat → Nat} (h : tok z tl 4 = 2) : 48 ≤ tl (tok z tl 2) ∧ tl (tok z tl 2) ≤ 57 := by
  have h2 : tK tl (z 1) (tS tl (z 1) (z 3)) = 2 := h
  show 48 ≤ tl (tS tl (z 1) (z 3)) ∧ tl (tS tl (z 1) (z 3)) ≤ 57
  unfold tK at h2
  split at h2
  · cases h2
  · split at h2
    · rename_i h3
      exact of_decide_eq_true h3
    · split at h2
      · cases h2
      · split at h2 <;> cases h2
/-- the figure that the next token is, if it is just one -/
def fgO (z tl : Nat → Nat) : Option Nat := if tok z tl 4 = 2 ∧ tok z tl 3 - tok z tl 2 = 1 then some (tl (tok z tl 2) - 48) else none
def fgz (z tl : Nat → Nat) : Nat → Nat := match fgO z tl with
  | some d => va_up (tok z tl) 5 d
  | none => tok z tl
def fgB (z tl : Nat → Nat) (lo hi : Nat) : Bool := match fgO z tl with
  | some d => decide (lo ≤ d ∧ d ≤ hi)
  | none => false
theorem fgO_le {z tl : Nat → Nat} {d : Nat} (h : fgO z tl = some d) : d ≤ 9 := by
  unfold fgO at h
  split at h
  · rename_i h2
    have := tok_dig h2.1
    cases h; omega
  · cases h
theorem XB.fg {z tl : Nat → Nat} (h : XB z tl) : XB (fgz z tl) tl := by
  obtain ⟨h1, h2, h3, h4, h5, h6, h7⟩ := h.tok
  unfold fgz
  cases h8 : fgO z tl with
  | none => exact ⟨h1, h2, h3, h4, h5, h6, h7⟩
  | some d => exact ⟨h1, h2, h3, h4, fgO_le h8, h6, h7⟩
theorem fgz_1 (z tl : Nat → Nat) : fgz z tl 1 = z 1 := by
  unfold fgz
  cases fgO z tl <;> rfl
theorem fgB_le {z tl : Nat → Nat} {lo hi : Nat} (h : fgB z tl lo hi = true) : lo ≤ fgz z tl 5 ∧ fgz z tl 5 ≤ hi := by
  unfold fgB at h
  unfold fgz
  cases h8 : fgO z tl with
  | none => rw [h8] at h; cases h
  | some d => rw [h8] at h; exact of_decide_eq_true h
def ndP (z a tl : Nat → Nat) : Bool × (Nat → Nat) × (Nat → Nat) := if fgB z tl 2 7 = true then (true, fgz z tl, va_up a 0 (fgz z tl 5)) else (false, fgz z tl, a)
def srP (z a tl : Nat → Nat) : Bool × (Nat → Nat) × (Nat → Nat) := if fgB z tl 0 (a 0 - 1) = true then (true, va_up (fgz z tl) 6 1, va_up a 1 (fgz z tl 5)) else (false, fgz z tl, a)
def lmP (z a tl : Nat → Nat) : Bool × (Nat → Nat) × (Nat → Nat) := if fgB z tl 0 9 = true then (true, fgz z tl, va_up a 2 (fgz z tl 5)) else (false, fgz z tl, a)
def lnkB (a : Nat → Nat) (r : Nat → Nat → Nat) (u v : Nat) : Bool := decide (lkA (r 0) (r 1) u (a 3) &&& lkA (r 0) (r 1) v (a 3) ≠ 0)
def adR (a : Nat → Nat) (r : Nat → Nat → Nat) (x y c : Nat) : Nat → Nat → Nat := va_up (va_up (va_up r 0 (va_up (r 0) (a 3) x)) 1 (va_up (r 1) (a 3) y)) 2 (va_up (r 2) (a 3) c)
def lkP (z a : Nat → Nat) (r : Nat → Nat → Nat) (tl : Nat → Nat) : Bool × (Nat → Nat) × (Nat → Nat) × (Nat → Nat → Nat) :=
  if fgB z tl 0 (a 0 - 1) = false then (false, fgz z tl, a, r)
  else if fgB (fgz z tl) tl 0 (a 0 - 1) = false ∨ fgz (fgz z tl) tl 5 = fgz z tl 5 ∨ lnkB a r (fgz z tl 5) (fgz (fgz z tl) tl 5) = true then (false, fgz (fgz z tl) tl, a, r)
  else if fgB (fgz (fgz z tl) tl) tl 1 9 = false then (false, fgz (fgz (fgz z tl) tl) tl, a, r)
  else (true, fgz (fgz (fgz z tl) tl) tl, va_up a 3 (a 3 + 1), adR a r (fgz z tl 5) (fgz (fgz z tl) tl 5) (fgz (fgz (fgz z tl) tl) tl 5))
