theorem maS_no {w : Nat → Nat} {left v : Nat} (h : left.testBit v = false) : maS w left (v + 1) = maS w left v := by
  rw [maS]
  cases h1 : maS w left v with
  | none => dsimp only; rw [if_neg (by rw [h]; decide)]
  | some u => dsimp only; rw [if_neg (fun h2 => absurd (h.symm.trans h2.1) (by decide))]
theorem maS_first {w : Nat → Nat} {left v : Nat} (h1 : maS w left v = none) (h : left.testBit v = true) : maS w left (v + 1) = some v := by
  rw [maS, h1]; exact if_pos h
theorem maS_less {w : Nat → Nat} {left v u : Nat} (h1 : maS w left v = some u) (h : left.testBit v = true) (h2 : w v / 16 < w u / 16) : maS w left (v + 1) = some v := by
  rw [maS, h1]; exact if_pos ⟨h, h2⟩
theorem maS_keep {w : Nat → Nat} {left v u : Nat} (h1 : maS w left v = some u) (h2 : w u / 16 ≤ w v / 16) : maS w left (v + 1) = some u := by
  rw [maS, h1]; exact if_neg (fun h3 => absurd h3.2 (Nat.not_lt.mpr h2))
theorem ntU_le {u : Nat} (h : u ≤ 6) : ntU u ≤ 5 := by
  unfold ntU; split <;> omega
theorem in_dec (x : Int32) {n : Nat} (h : n < 2 ^ 30) : decide (nI 0 ≤ x ∧ x ≤ nI n - nI 1) = decide (0 ≤ x.toInt ∧ x.toInt < n) := by
  congr 1
  have h0 : (nI 0).toInt = 0 := by decide
  have h1 : (nI n - nI 1).toInt = (n : Int) - 1 := by
    have := pk_sub_toInt (a := n) (b := 1) (by omega) (by omega)
    rw [this]; rfl
  rw [Int32.le_iff_toInt_le, Int32.le_iff_toInt_le, h0, h1]
  have : (x.toInt ≤ (n : Int) - 1) ↔ x.toInt < n := by omega
  rw [this]
/-- a node's way: its cost, or how many links -/
def mawI (w : Nat → Nat) (v : Nat) (x : Int32) : Option Nat := if 1000000 ≤ w v then none else if x = 0 then some (w v / 16) else some (w v % 16)
theorem bstN_no {ld : Nat → Nat} {tree k : Nat} (h : tree.testBit k = false) : bstN ld tree (k + 1) = bstN ld tree k := by
  rw [bstN]
  cases h1 : bstN ld tree k with
  | none => dsimp only; rw [if_neg (by rw [h]; decide)]
  | some u => dsimp only; rw [if_neg (fun h2 => absurd (h.symm.trans h2.1) (by decide))]
theorem bstN_first {ld : Nat → Nat} {tree k : Nat} (h1 : bstN ld tree k = none) (h : tree.testBit k = true) : bstN ld tree (k + 1) = some k := by
  rw [bstN, h1]; exact if_pos h
theorem bstN_more {ld : Nat → Nat} {tree k u : Nat} (h1 : bstN ld tree k = some u) (h : tree.testBit k = true) (h2 : ld u < ld k) : bstN ld tree (k + 1) = some k := by
  rw [bstN, h1]; exact if_pos ⟨h, h2⟩
theorem bstN_keep {ld : Nat → Nat} {tree k u : Nat} (h1 : bstN ld tree k = some u) (h2 : ld k ≤ ld u) : bstN ld tree (k + 1) = some u := by
  rw [bstN, h1]; exact if_neg (fun h3 => absurd h3.2 (Nat.not_lt.mpr h2))
theorem mleN_lt {f g c : Nat → Nat} {L src mem dn : Nat} (hc : ∀ j, c j ≤ 9) (hL : L ≤ 12) : ∀ i, (mleN f g c L src mem dn i).1 ≤ i ∧ (mleN f g c L src mem dn i).2 ≤ 1000000
  | 0 => ⟨Nat.le_refl _, Nat.le_refl _⟩
  | i + 1 => by
    have h := mleN_lt hc hL i (f := f) (g := g) (src := src) (mem := mem) (dn := dn)
    have h2 := cst_le hc i L
    unfold mleN
    split
    · exact ⟨by show i ≤ i + 1; omega, by show cst c i L ≤ 1000000; omega⟩
    · exact ⟨by omega, h.2⟩
/-- the tree that a talk's numbers make anew -/
def anS (s : Nat → Nat) : Nat := mnN (sf s) (sg s) (sc s) (s 6) (s 1) (s 0) (s 2) (s 4) 128 0
def coS (s : Nat → Nat) (t : Nat) : Nat := cst (sc s) t (s 1)
/-- one joined or left: marks, and all anew, if due -/
def mkS (s : Nat → Nat) (v : Nat) : Nat → Nat := if 0 < mtS s v 3 ∧ mtS s v 3 ≤ mtS s v 7 then baS (va_up (mtS s v) 5 (if coS (mtS s v) (anS (mtS s v)) < coS (mtS s v) (mtS s v 5) then anS (mtS s v) else mtS s v 5)) else mtS s v
abbrev AnS (s : Nat → Nat) : Prop := EN (sf s) (sg s) (s 1) (s 0) ∧ AnOK (sf s) (sg s) (sc s) (s 6) (s 1) (s 0) (s 2) (s 4)
theorem SB.cst {s : Nat → Nat} (h : SB s) (t : Nat) : coS s t ≤ 108 := by
  have h1 := cst_le (c := sc s) (fun j => by have := h.2.1 (40 + j) (by omega); unfold sc; omega) t (s 1)
  have h2 := h.1.2.2.2.2.1
  unfold coS; omega
theorem SB.anlt {s : Nat → Nat} (h : SB s) : anS s < 4096 := mnN_lt h.1.2.2.2.2.1 _ _ (by decide)
