/-! the pure words -/
theorem qb_t {a k : Nat} (h : a / 2 ^ k &&& 1 ≠ 0) : a.testBit k = true := by
  rw [qn_bit] at h
  cases h1 : a.testBit k
  · rw [h1] at h; exact absurd rfl h
  · rfl
theorem qb_f {a k : Nat} (h : a / 2 ^ k &&& 1 = 0) : a.testBit k = false := by
  rw [qn_bit] at h
  cases h1 : a.testBit k
  · rfl
  · rw [h1] at h; exact absurd h (by decide)
theorem qb_one (a : Nat) : a &&& 1 < 2 ^ 31 := Nat.lt_of_le_of_lt Nat.and_le_right (by decide)
theorem qn_min {x y : Nat} (h1 : x < 2 ^ 31) (h2 : y < 2 ^ 31) : (if nI y < nI x then nI y else nI x) = nI (min x y) := by
  by_cases h : y < x
  · rw [if_pos (nI_lt h h1), Nat.min_eq_right (Nat.le_of_lt h)]
  · rw [if_neg (nI_nlt (by omega) h2), Nat.min_eq_left (by omega)]
theorem bI_nar (b : Bool) : narrow .boolean (.int (bI b)) = .int (bI b) := by cases b <;> decide
theorem or_lt {a b n : Nat} (h1 : a < 2 ^ n) (h2 : b < 2 ^ n) : a ||| b < 2 ^ n := Nat.or_lt_two_pow h1 h2
theorem pw_lt {a n : Nat} (h : a < n) : 2 ^ a < 2 ^ n := Nat.pow_lt_pow_right (by decide) h
/-- the numbers of a talk, in their ranges -/
def TB (a : Nat → Nat) (r : Nat → Nat → Nat) : Prop := 2 ≤ a 0 ∧ a 0 ≤ 7 ∧ a 1 < a 0 ∧ a 2 ≤ 9 ∧ a 3 ≤ 12 ∧ (∀ j, r 0 j < 7) ∧ (∀ j, r 1 j < 7) ∧ (∀ j, r 2 j ≤ 9) ∧ a 7 < 128 ∧ a 8 < 4096 ∧ a 9 < 4096 ∧ a 10 ≤ 7 ∧ (∀ j, r 3 j < 7)
def edg (f g : Nat → Nat) (k : Nat) : Nat := 2 ^ f k ||| 2 ^ g k
theorem edg_lt {f g : Nat → Nat} (hf : ∀ j, f j < 7) (hg : ∀ j, g j < 7) (k : Nat) : edg f g k < 128 := or_lt (n := 7) (pw_lt (hf k)) (pw_lt (hg k))
def lkA (f g : Nat → Nat) (v : Nat) : Nat → Nat
  | 0 => 0
  | k + 1 => if (edg f g k).testBit v then lkA f g v k ||| 2 ^ k else lkA f g v k
theorem lkA_lt (f g : Nat → Nat) (v : Nat) : ∀ k, lkA f g v k < 2 ^ k
  | 0 => by simp [lkA]
  | k + 1 => by
    have h := lkA_lt f g v k
    have h2 : 2 ^ k < 2 ^ (k + 1) := pw_lt (by omega)
    unfold lkA
    split
    · exact or_lt (by omega) h2
    · omega
theorem pw12 {k : Nat} (h : k ≤ 12) : 2 ^ k ≤ 4096 := Nat.pow_le_pow_right (n := 2) (by decide) h
def cst (c : Nat → Nat) (set : Nat) : Nat → Nat
  | 0 => 0
  | k + 1 => if set.testBit k then cst c set k + c k else cst c set k
theorem cst_le {c : Nat → Nat} (hc : ∀ j, c j ≤ 9) (set : Nat) : ∀ k, cst c set k ≤ 9 * k
  | 0 => by simp [cst]
  | k + 1 => by
    have h := cst_le hc set k
    have h2 := hc k
    unfold cst
    split <;> omega
def nof (f g : Nat → Nat) (src set : Nat) : Nat → Nat
  | 0 => 2 ^ src
  | k + 1 => if set.testBit k then nof f g src set k ||| edg f g k else nof f g src set k
theorem nof_lt {f g : Nat → Nat} (hf : ∀ j, f j < 7) (hg : ∀ j, g j < 7) {src : Nat} (hs : src < 7) (set : Nat) : ∀ k, nof f g src set k < 128
  | 0 => pw_lt (n := 7) hs
  | k + 1 => by
    have h := nof_lt hf hg hs set k
    unfold nof
    split
    · exact or_lt (n := 7) h (edg_lt hf hg k)
    · exact h
/-- one round over the links: who hangs together -/
def hgr (f g : Nat → Nat) (set : Nat) : Nat → Nat → Nat
  | 0, x => x
  | k + 1, x => if set.testBit k = true ∧ hgr f g set k x &&& edg f g k ≠ 0 then hgr f g set k x ||| edg f g k else hgr f g set k x
theorem hgr_lt {f g : Nat → Nat} (hf : ∀ j, f j < 7) (hg : ∀ j, g j < 7) {set x : Nat} (hx : x < 128) : ∀ k, hgr f g set k x < 128
  | 0 => hx
  | k + 1 => by
    have h := hgr_lt hf hg hx (set := set) k
    unfold hgr
    split
    · exact or_lt (n := 7) h (edg_lt hf hg k)
    · exact h
def hgn (f g : Nat → Nat) (set L : Nat) : Nat → Nat → Nat
  | 0, x => x
  | n + 1, x => hgr f g set L (hgn f g set L n x)
theorem hgn_lt {f g : Nat → Nat} (hf : ∀ j, f j < 7) (hg : ∀ j, g j < 7) {set L x : Nat} (hx : x < 128) : ∀ n, hgn f g set L n x < 128
  | 0 => hx
  | n + 1 => hgr_lt hf hg (hgn_lt hf hg hx n) L
theorem out_of {x : Int32} {n : Nat} (h : ¬ (0 ≤ x.toInt ∧ x.toInt < n)) (h1 : ¬ x < 0) (hn : n < 2 ^ 31) : nI n ≤ x := by
  rw [Int32.le_iff_toInt_le, nI_toInt hn]
  have h2 : 0 ≤ x.toInt := by
    have := Int32.not_lt.mp h1
    simpa using Int32.le_iff_toInt_le.mp this
  omega
/-- the place of v among the first k -/
def mkF (m : Nat → Nat) (v : Nat) : Nat → Option Nat
  | 0 => none
  | k + 1 => match mkF m v k with
    | some j => some j
    | none => if m k = v then some k else none
theorem mkF_some {m : Nat → Nat} {v j : Nat} : ∀ {k n : Nat}, k ≤ n → mkF m v k = some j → mkF m v n = some j := by
  intro k n
  induction n with
  | zero => intro h h2; have : k = 0 := by omega
            rw [this] at h2; exact h2
  | succ n ih =>
    intro h h2
    by_cases e : k = n + 1
    · rw [← e]; exact h2
    · have := ih (by omega) h2
      rw [mkF, this]
theorem mkF_lt {m : Nat → Nat} {v : Nat} : ∀ {k j : Nat}, mkF m v k = some j → j < k ∧ m j = v := by
  intro k
  induction k with
  | zero => intro j h; cases h
  | succ k ih =>
    intro j h
    rw [mkF] at h
    cases h1 : mkF m v k with
    | some i =>
      rw [h1] at h
      cases h
      have := ih h1
      exact ⟨by omega, this.2⟩
    | none =>
      rw [h1] at h
      by_cases e : m k = v
      · rw [if_pos e] at h; cases h; exact ⟨by omega, e⟩
      · rw [if_neg e] at h; cases h
/-- one node looked at, in pruning: its links of the tree -/
def prS (f g : Nat → Nat) (served L v t : Nat) (b : Nat → Nat) : Nat := if served.testBit v = false ∧ b (lkA f g v L &&& t) = 1 then nd t (lkA f g v L &&& t) else t
def prR (f g : Nat → Nat) (served L : Nat) (b : Nat → Nat) : Nat → Nat → Nat
  | 0, t => t
  | v + 1, t => prS f g served L v (prR f g served L b v t) b
def prN (f g : Nat → Nat) (served L n : Nat) (b : Nat → Nat) : Nat → Nat → Nat
  | 0, t => t
  | q + 1, t => prR f g served L b n (prN f g served L n b q t)
theorem prS_le (f g : Nat → Nat) (sv L v t : Nat) (b : Nat → Nat) : prS f g sv L v t b ≤ t := by
  unfold prS
  split
  · exact nd_le _ _
  · exact Nat.le_refl _
theorem prR_le (f g : Nat → Nat) (sv L : Nat) (b : Nat → Nat) (t : Nat) : ∀ v, prR f g sv L b v t ≤ t
  | 0 => Nat.le_refl _
  | v + 1 => Nat.le_trans (prS_le _ _ _ _ _ _ _) (prR_le f g sv L b t v)
theorem prN_le (f g : Nat → Nat) (sv L n : Nat) (b : Nat → Nat) (t : Nat) : ∀ q, prN f g sv L n b q t ≤ t
  | 0 => Nat.le_refl _
  | q + 1 => Nat.le_trans (prR_le _ _ _ _ _ _ _) (prN_le f g sv L n b t q)
theorem TB.tr {a : Nat → Nat} {r : Nat → Nat → Nat} {t : Nat} (h : TB a r) (ht : t < 4096) : TB (va_up a 8 t) r := by
  obtain ⟨t0, t1, t2, t3, t4, t5, t6, t7, t8, t9, t10, t11, t12⟩ := h
  exact ⟨t0, t1, t2, t3, t4, t5, t6, t7, t8, ht, t10, t11, t12⟩
