/-! the builder: the pure words -/
theorem TB.mb {a : Nat → Nat} {r : Nat → Nat → Nat} {x : Nat} (h : TB a r) (hx : x < 128) : TB (va_up a 7 x) r := by
  obtain ⟨t0, t1, t2, t3, t4, t5, t6, t7, t8, t9, t10, t11, t12⟩ := h
  exact ⟨t0, t1, t2, t3, t4, t5, t6, t7, hx, t9, t10, t11, t12⟩
theorem TB.dn {a : Nat → Nat} {r : Nat → Nat → Nat} {x : Nat} (h : TB a r) (hx : x < 4096) : TB (va_up a 9 x) r := by
  obtain ⟨t0, t1, t2, t3, t4, t5, t6, t7, t8, t9, t10, t11, t12⟩ := h
  exact ⟨t0, t1, t2, t3, t4, t5, t6, t7, t8, t9, hx, t11, t12⟩
theorem TB.mc {a : Nat → Nat} {r : Nat → Nat → Nat} {x : Nat} (h : TB a r) (hx : x ≤ 7) : TB (va_up a 10 x) r := by
  obtain ⟨t0, t1, t2, t3, t4, t5, t6, t7, t8, t9, t10, t11, t12⟩ := h
  exact ⟨t0, t1, t2, t3, t4, t5, t6, t7, t8, t9, t10, hx, t12⟩
theorem TB.mk {a : Nat → Nat} {r : Nat → Nat → Nat} {m : Nat → Nat} (h : TB a r) (hx : ∀ j, m j < 7) : TB a (va_up r 3 m) := by
  obtain ⟨t0, t1, t2, t3, t4, t5, t6, t7, t8, t9, t10, t11, t12⟩ := h
  exact ⟨t0, t1, t2, t3, t4, t5, t6, t7, t8, t9, t10, t11, hx⟩
theorem TB.mt {a : Nat → Nat} {r : Nat → Nat → Nat} {m t : Nat} (h : TB a r) (hm : m < 128) (ht : t < 4096) : TB (va_up (va_up a 7 m) 8 t) r := (h.mb hm).tr ht
def upA (a : Nat → Nat) : Nat := nd (2 ^ a 3 - 1) (a 9)
def noA (a : Nat → Nat) (r : Nat → Nat → Nat) (set : Nat) : Nat := nof (r 0) (r 1) (a 1) set (a 3)
/-- the weights to a tree -/
def wtA (a : Nat → Nat) (r : Nat → Nat → Nat) (set : Nat) : Nat → Nat := wtN (r 0) (r 1) (r 2) (upA a) (a 3) (a 0) (noA a r set)
/-- the links of a node's way to a tree -/
def wyA (a : Nat → Nat) (r : Nat → Nat → Nat) (set v : Nat) : Nat := lfr (r 0) (r 1) (r 2) (wtA a r set) (upA a) (a 3) 7 v 0
theorem wtA_le (a : Nat → Nat) (r : Nat → Nat → Nat) (set : Nat) : ∀ j, wtA a r set j ≤ 1048576 := wtN_le _ _ _ _ _ _ _
theorem wyA_lt {a : Nat → Nat} {r : Nat → Nat → Nat} (h : TB a r) (set v : Nat) : wyA a r set v < 4096 := lfr_lt h.2.2.2.2.1 7 v 0 (by decide)
/-- of some nodes the nearest, of the first v -/
def nrS (w : Nat → Nat) (wanted : Nat) : Nat → Option Nat
  | 0 => none
  | v + 1 => match nrS w wanted v with
    | none => if wanted.testBit v = true ∧ w v < 1048576 then some v else none
    | some u => if wanted.testBit v = true ∧ w v < 1048576 ∧ w v / 16 < w u / 16 then some v else some u
theorem nrS_lt {w : Nat → Nat} {wanted : Nat} : ∀ {v u : Nat}, nrS w wanted v = some u → u < v ∧ w u < 1048576 ∧ wanted.testBit u = true
  | 0, u, h => by cases h
  | v + 1, u, h => by
    rw [nrS] at h
    cases h1 : nrS w wanted v with
    | none =>
      rw [h1] at h
      dsimp only at h
      split at h
      · cases h; rename_i h2; exact ⟨by omega, h2.2, h2.1⟩
      · cases h
    | some y =>
      rw [h1] at h
      have h3 := nrS_lt h1
      dsimp only at h
      split at h
      · cases h; rename_i h2; exact ⟨by omega, h2.2.1, h2.1⟩
      · cases h; exact ⟨by omega, h3.2⟩
/-- a tree made anew, in n rounds at most -/
def anw (a : Nat → Nat) (r : Nat → Nat → Nat) : Nat → Nat → Nat
  | 0, t => t
  | n + 1, t => match nrS (wtA a r t) (nd (a 7) (noA a r t)) (a 0) with
    | none => t
    | some v => anw a r n (t ||| wyA a r t v)
theorem anw_lt {a : Nat → Nat} {r : Nat → Nat → Nat} (h : TB a r) : ∀ (n t : Nat), t < 4096 → anw a r n t < 4096
  | 0, _, ht => ht
  | n + 1, t, ht => by
    unfold anw
    split
    · exact ht
    · exact anw_lt h n _ (or_lt (n := 12) ht (wyA_lt h _ _))
def anA (a : Nat → Nat) (r : Nat → Nat → Nat) : Nat := anw a r (a 0) 0
theorem anA_lt {a : Nat → Nat} {r : Nat → Nat → Nat} (h : TB a r) : anA a r < 4096 := anw_lt h _ _ (by decide)
def coA (a : Nat → Nat) (r : Nat → Nat → Nat) (set : Nat) : Nat := cst (r 2) set (a 3)
theorem coA_le {a : Nat → Nat} {r : Nat → Nat → Nat} (h : TB a r) (set : Nat) : coA a r set ≤ 108 := by
  have h1 := cst_le h.2.2.2.2.2.2.2.1 set (a 3)
  have h2 := h.2.2.2.2.1
  unfold coA
  omega
/-- rearranged -/
def reT (a : Nat → Nat) (r : Nat → Nat → Nat) : Nat := if coA a r (anA a r) < coA a r (a 8) then anA a r else a 8
def rrA (a : Nat → Nat) (r : Nat → Nat → Nat) : Nat → Nat := va_up (va_up a 8 (reT a r)) 10 0
theorem TB.rr {a : Nat → Nat} {r : Nat → Nat → Nat} (h : TB a r) : TB (rrA a r) r := by
  refine (h.tr ?_).mc (Nat.zero_le _)
  unfold reT
  split
  · exact anA_lt h
  · exact h.2.2.2.2.2.2.2.2.2.1
/-- a mark turned -/
def tmP (a : Nat → Nat) (r : Nat → Nat → Nat) (v : Nat) : (Nat → Nat) × (Nat → Nat → Nat) := match mkF (r 3) v (a 10) with
  | some j => (va_up a 10 (a 10 - 1), va_up r 3 (va_cpy (r 3) (r 3) (j + 1) j (a 10 - 1 - j)))
  | none => (va_up a 10 (a 10 + 1), va_up r 3 (va_up (r 3) (a 10) v))
theorem TB.tm {a : Nat → Nat} {r : Nat → Nat → Nat} {v : Nat} (h : TB a r) (hv : v < 7) (hc : mkF (r 3) v (a 10) = none → a 10 < 7) : TB (tmP a r v).1 (tmP a r v).2 := by
  have h3 := h.2.2.2.2.2.2.2.2.2.2.2.1
  have h4 := h.2.2.2.2.2.2.2.2.2.2.2.2
  unfold tmP
  cases h1 : mkF (r 3) v (a 10) with
  | none =>
    refine (h.mc ?_).mk ?_
    · have := hc h1; omega
    · intro j
      unfold va_up
      split
      · exact hv
      · exact h4 j
  | some j =>
    refine (h.mc ?_).mk ?_
    · omega
    · intro i
      unfold va_cpy
      split
      · exact h4 _
      · exact h4 i
def mkP (a : Nat → Nat) (r : Nat → Nat → Nat) (v : Nat) : (Nat → Nat) × (Nat → Nat → Nat) := if (tmP a r v).1 2 ≠ 0 ∧ (tmP a r v).1 2 ≤ (tmP a r v).1 10 then (rrA (tmP a r v).1 (tmP a r v).2, (tmP a r v).2) else tmP a r v
/-- the links that hang together with those reached -/
def khN (f g : Nat → Nat) (others reached : Nat) : Nat → Nat
  | 0 => 0
  | k + 1 => if others.testBit k = true ∧ edg f g k &&& reached ≠ 0 then khN f g others reached k ||| 2 ^ k else khN f g others reached k
theorem khN_lt (f g : Nat → Nat) (others reached : Nat) : ∀ k, khN f g others reached k < 2 ^ k
  | 0 => by simp [khN]
  | k + 1 => by
    have h := khN_lt f g others reached k
    have h2 : 2 ^ k < 2 ^ (k + 1) := pw_lt (by omega)
    unfold khN
    split
    · exact or_lt (by omega) h2
    · omega
def khA (a : Nat → Nat) (r : Nat → Nat → Nat) (others : Nat) : Nat := khN (r 0) (r 1) others (hgn (r 0) (r 1) others (a 3) (a 0 - 1) (2 ^ a 1)) (a 3)
theorem khA_lt {a : Nat → Nat} {r : Nat → Nat → Nat} (h : TB a r) (others : Nat) : khA a r others < 4096 := Nat.lt_of_lt_of_le (khN_lt _ _ _ _ _) (pw12 h.2.2.2.2.1)
/-- members that join again, of the first v: the members, the tree -/
def jaS (a : Nat → Nat) (r : Nat → Nat → Nat) : Nat → Nat × Nat
  | 0 => (a 7, a 8)
  | v + 1 => if (jaS a r v).1.testBit v = true then (if wtA a r (jaS a r v).2 v < 1048576 then (jaS a r v).1 else nd (jaS a r v).1 (2 ^ v), (jaS a r v).2 ||| wyA a r (jaS a r v).2 v) else jaS a r v
theorem jaS_lt {a : Nat → Nat} {r : Nat → Nat → Nat} (h : TB a r) : ∀ v, (jaS a r v).1 < 128 ∧ (jaS a r v).2 < 4096
  | 0 => ⟨h.2.2.2.2.2.2.2.2.1, h.2.2.2.2.2.2.2.2.2.1⟩
  | v + 1 => by
    have ih := jaS_lt h v
    unfold jaS
    split
    · refine ⟨?_, or_lt (n := 12) ih.2 (wyA_lt h _ _)⟩
      dsimp only
      split
      · exact ih.1
      · exact Nat.lt_of_le_of_lt (nd_le _ _) ih.1
    · exact ih
theorem jaS_sub (a : Nat → Nat) (r : Nat → Nat → Nat) : ∀ v i, (jaS a r v).1.testBit i = true → (a 7).testBit i = true
  | 0, _, h => h
  | v + 1, i, h => by
    have ih := jaS_sub a r v i
    unfold jaS at h
    split at h
    · dsimp only at h
      split at h
      · exact ih h
      · rw [nd_bit] at h
        simp only [Bool.and_eq_true] at h
        exact ih h.1
    · exact ih h
theorem bts_mono {x y : Nat} (h : ∀ i, x.testBit i = true → y.testBit i = true) : ∀ k, bts x k ≤ bts y k
  | 0 => Nat.le_refl _
  | k + 1 => by
    have ih := bts_mono h k
    unfold bts
    have h2 := h k
    cases h3 : x.testBit k <;> cases h4 : y.testBit k <;> simp_all <;> omega
def prA (a : Nat → Nat) (r : Nat → Nat → Nat) : Nat := prN (r 0) (r 1) (a 7 ||| 2 ^ a 1) (a 3) (a 0) (fun x => bts x 12) (a 0) (a 8)
theorem prA_lt {a : Nat → Nat} {r : Nat → Nat → Nat} (h : TB a r) : prA a r < 4096 := Nat.lt_of_le_of_lt (prN_le _ _ _ _ _ _ _ _) h.2.2.2.2.2.2.2.2.2.1
