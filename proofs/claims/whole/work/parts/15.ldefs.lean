/-! the least tree: the pure words; cut -/
/-- whether a link leads on -/
def onB (f g : Nat → Nat) (up reached outside k : Nat) : Prop := up.testBit k = true ∧ edg f g k &&& reached ≠ 0 ∧ edg f g k &&& outside ≠ 0
noncomputable def chS (f g c : Nat → Nat) (up reached outside : Nat) : Nat → Option Nat
  | 0 => none
  | k + 1 => match chS f g c up reached outside k with
    | none => if up.testBit k = true ∧ edg f g k &&& reached ≠ 0 ∧ edg f g k &&& outside ≠ 0 then some k else none
    | some j => if (up.testBit k = true ∧ edg f g k &&& reached ≠ 0 ∧ edg f g k &&& outside ≠ 0) ∧ c k < c j then some k else some j
theorem chS_lt {f g c : Nat → Nat} {up reached outside : Nat} : ∀ {k j : Nat}, chS f g c up reached outside k = some j → j < k ∧ up.testBit j = true ∧ edg f g j &&& reached ≠ 0 ∧ edg f g j &&& outside ≠ 0
  | 0, j, h => by cases h
  | k + 1, j, h => by
    rw [chS] at h
    cases h1 : chS f g c up reached outside k with
    | none =>
      rw [h1] at h
      dsimp only at h
      split at h
      · cases h; rename_i h2; exact ⟨by omega, h2⟩
      · cases h
    | some y =>
      rw [h1] at h
      have h3 := chS_lt h1
      dsimp only at h
      split at h
      · cases h; rename_i h2; exact ⟨by omega, h2.1⟩
      · cases h; exact ⟨by omega, h3.2⟩
noncomputable def gwN (f g c : Nat → Nat) (up L over : Nat) : Nat → Nat → Nat → Nat
  | 0, set, _ => set
  | n + 1, set, reached => match chS f g c up reached (nd over reached) L with
    | none => set
    | some k => gwN f g c up L over n (set ||| 2 ^ k) (reached ||| edg f g k)
theorem gwN_lt {f g c : Nat → Nat} {up L over : Nat} (hL : L ≤ 12) : ∀ (n set reached : Nat), set < 4096 → gwN f g c up L over n set reached < 4096
  | 0, _, _, h => h
  | n + 1, set, reached, h => by
    unfold gwN
    split
    · exact h
    · rename_i k h1
      exact gwN_lt hL n _ _ (or_lt (n := 12) h (pw_lt (by have := (chS_lt h1).1; omega)))
noncomputable def gwA (a : Nat → Nat) (r : Nat → Nat → Nat) (over : Nat) : Nat := gwN (r 0) (r 1) (r 2) (upA a) (a 3) over (a 0 - 1) 0 (2 ^ a 1)
theorem gwA_lt {a : Nat → Nat} {r : Nat → Nat → Nat} (h : TB a r) (over : Nat) : gwA a r over < 4096 := gwN_lt h.2.2.2.2.1 _ _ _ (by decide)
def lsB (a : Nat → Nat) (r : Nat → Nat → Nat) (x y : Nat) : Bool := decide (coA a r x < coA a r y ∨ (coA a r x = coA a r y ∧ x < y))
theorem ls_lt {x y : Nat} (hx : x ≤ 108) (hy : y ≤ 108) : nI x - nI y < 0 ↔ x < y := by
  rw [Int32.lt_iff_toInt_lt, pk_sub_toInt (by omega) (by omega)]
  have : (0 : Int32).toInt = 0 := by decide
  rw [this]; omega
theorem ls_eq {x y : Nat} (hx : x ≤ 108) (hy : y ≤ 108) : nI x - nI y = 0 ↔ x = y := by
  rw [← Int32.toInt_inj, pk_sub_toInt (by omega) (by omega)]
  have : (0 : Int32).toInt = 0 := by decide
  rw [this]; omega
noncomputable def ofN (a : Nat → Nat) (r : Nat → Nat → Nat) : Nat → Nat
  | 0 => a 8
  | i + 1 => if ((a 7 ||| 2 ^ a 1) + i) &&& (a 7 ||| 2 ^ a 1) = (a 7 ||| 2 ^ a 1) ∧ noA a r (gwA a r ((a 7 ||| 2 ^ a 1) + i)) = (a 7 ||| 2 ^ a 1) + i ∧ lsB a r (gwA a r ((a 7 ||| 2 ^ a 1) + i)) (ofN a r i) = true then gwA a r ((a 7 ||| 2 ^ a 1) + i) else ofN a r i
theorem ofN_lt {a : Nat → Nat} {r : Nat → Nat → Nat} (h : TB a r) : ∀ i, ofN a r i < 4096
  | 0 => h.2.2.2.2.2.2.2.2.2.1
  | i + 1 => by
    unfold ofN
    split
    · exact gwA_lt h _
    · exact ofN_lt h i
noncomputable def ofA (a : Nat → Nat) (r : Nat → Nat → Nat) : Nat := ofN a r (2 ^ a 0 - (a 7 ||| 2 ^ a 1))
theorem ofA_lt {a : Nat → Nat} {r : Nat → Nat → Nat} (h : TB a r) : ofA a r < 4096 := ofN_lt h _
/-- a link cut that was of the tree: what is done -/
def cu1 (a : Nat → Nat) (r : Nat → Nat → Nat) (k : Nat) : Nat → Nat := va_up (va_up a 8 (khA (va_up a 9 (a 9 ||| 2 ^ k)) r (nd (a 8) (2 ^ k)))) 9 (a 9 ||| 2 ^ k)
def cu2 (a : Nat → Nat) (r : Nat → Nat → Nat) (k : Nat) : Nat → Nat := va_up (va_up (cu1 a r k) 7 (jaS (cu1 a r k) r (a 0)).1) 8 (jaS (cu1 a r k) r (a 0)).2
def cu3 (a : Nat → Nat) (r : Nat → Nat → Nat) (k : Nat) : Nat → Nat := va_up (cu2 a r k) 8 (prA (cu2 a r k) r)
theorem TB.c1 {a : Nat → Nat} {r : Nat → Nat → Nat} {k : Nat} (h : TB a r) (hk : k < 12) : TB (cu1 a r k) r := by
  have h1 : a 9 ||| 2 ^ k < 4096 := or_lt (n := 12) h.2.2.2.2.2.2.2.2.2.2.1 (pw_lt hk)
  exact (h.tr (khA_lt (h.dn h1) _)).dn h1
theorem TB.c2 {a : Nat → Nat} {r : Nat → Nat → Nat} {k : Nat} (h : TB a r) (hk : k < 12) : TB (cu2 a r k) r := by
  have h1 := jaS_lt (h.c1 hk) (a 0)
  exact (h.c1 hk).mt h1.1 h1.2
theorem TB.c3 {a : Nat → Nat} {r : Nat → Nat → Nat} {k : Nat} (h : TB a r) (hk : k < 12) : TB (cu3 a r k) r := (h.c2 hk).tr (prA_lt (h.c2 hk))
