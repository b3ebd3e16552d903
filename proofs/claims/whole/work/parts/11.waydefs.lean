/-! ways: the pure words -/
abbrev NW : Nat := 1048576
def shr (w : Nat → Nat) (x y wt : Nat) : Nat → Nat := va_up (va_up w x (min (w x) (w y + wt))) y (min ((va_up w x (min (w x) (w y + wt))) y) ((va_up w x (min (w x) (w y + wt))) x + wt))
theorem up_le {w : Nat → Nat} {x v N : Nat} (h : ∀ j, w j ≤ N) (hv : v ≤ N) : ∀ j, va_up w x v j ≤ N := by
  intro j
  unfold va_up
  split
  · exact hv
  · exact h j
theorem shr_le {w : Nat → Nat} {x y wt N : Nat} (h : ∀ j, w j ≤ N) : ∀ j, shr w x y wt j ≤ N := by
  have h1 : ∀ j, va_up w x (min (w x) (w y + wt)) j ≤ N := up_le h (Nat.le_trans (Nat.min_le_left _ _) (h x))
  exact up_le h1 (Nat.le_trans (Nat.min_le_left _ _) (h1 y))
def rlx (f g c : Nat → Nat) (us : Nat) : Nat → (Nat → Nat) → (Nat → Nat)
  | 0, w => w
  | k + 1, w => if us.testBit k then shr (rlx f g c us k w) (f k) (g k) (c k * 16 + 1) else rlx f g c us k w
theorem rlx_le {f g c : Nat → Nat} {us N : Nat} {w : Nat → Nat} (h : ∀ j, w j ≤ N) : ∀ k j, rlx f g c us k w j ≤ N
  | 0 => h
  | k + 1 => by
    unfold rlx
    split
    · exact shr_le (rlx_le h k)
    · exact rlx_le h k
def rln (f g c : Nat → Nat) (us L : Nat) : Nat → (Nat → Nat) → (Nat → Nat)
  | 0, w => w
  | n + 1, w => rlx f g c us L (rln f g c us L n w)
theorem rln_le {f g c : Nat → Nat} {us L N : Nat} {w : Nat → Nat} (h : ∀ j, w j ≤ N) : ∀ n j, rln f g c us L n w j ≤ N
  | 0 => h
  | n + 1 => rlx_le (rln_le h n) L
def ini (goals : Nat) : Nat → (Nat → Nat)
  | 0 => fun _ => 1048576
  | v + 1 => if goals.testBit v then va_up (ini goals v) v 0 else ini goals v
theorem ini_le (goals : Nat) : ∀ v j, ini goals v j ≤ 1048576
  | 0 => fun _ => Nat.le_refl _
  | v + 1 => by
    unfold ini
    split
    · exact up_le (ini_le goals v) (Nat.zero_le _)
    · exact ini_le goals v
/-- the weights of all nodes to some goals -/
def wtN (f g c : Nat → Nat) (us L n goals : Nat) : Nat → Nat := rln f g c us L (n - 1) (ini goals n)
theorem wtN_le (f g c : Nat → Nat) (us L n goals : Nat) : ∀ j, wtN f g c us L n goals j ≤ 1048576 := rln_le (ini_le goals n) (n - 1)
def cfr (w : Nat → Nat) (v : Nat) : Option Nat := if w v < 1048576 then some (w v / 16) else none
def sfr (w : Nat → Nat) (v : Nat) : Option Nat := if w v < 1048576 then some (w v % 16) else none
def nxt (f g : Nat → Nat) (k v : Nat) : Nat := if f k = v then g k else f k
theorem nxt_lt {f g : Nat → Nat} (hf : ∀ j, f j < 7) (hg : ∀ j, g j < 7) (k v : Nat) : nxt f g k v < 7 := by
  unfold nxt
  split
  · exact hg k
  · exact hf k
/-- the first link of a node's way among the first k, and where it leads -/
def fsS (f g c w : Nat → Nat) (us v : Nat) : Nat → Option Nat × Nat
  | 0 => (none, 7)
  | k + 1 => if us.testBit k = true ∧ (edg f g k).testBit v = true ∧ nxt f g k v < (fsS f g c w us v k).2 ∧ w (nxt f g k v) + (c k * 16 + 1) = w v then (some k, nxt f g k v) else fsS f g c w us v k
theorem fsS_le (f g c w : Nat → Nat) (us v : Nat) : ∀ k, (fsS f g c w us v k).2 ≤ 7
  | 0 => Nat.le_refl _
  | k + 1 => by
    have h := fsS_le f g c w us v k
    unfold fsS
    split
    · rename_i h2
      show nxt f g k v ≤ 7
      omega
    · exact h
theorem fsS_lt {f g c w : Nat → Nat} {us v : Nat} : ∀ {k j : Nat}, (fsS f g c w us v k).1 = some j → j < k
  | 0, j, h => by cases h
  | k + 1, j, h => by
    unfold fsS at h
    split at h
    · cases h; omega
    · have := fsS_lt h; omega
def fsO (f g c w : Nat → Nat) (us L v : Nat) : Option Nat := (fsS f g c w us v L).1
theorem fsO_lt {f g c w : Nat → Nat} {us L v j : Nat} (h : fsO f g c w us L v = some j) : j < L := fsS_lt h
/-- all links of a node's way, n at most -/
def lfr (f g c w : Nat → Nat) (us L : Nat) : Nat → Nat → Nat → Nat
  | 0, _, set => set
  | n + 1, v, set => match fsO f g c w us L v with
    | none => set
    | some k => lfr f g c w us L n (nxt f g k v) (set ||| 2 ^ k)
theorem lfr_lt {f g c w : Nat → Nat} {us L : Nat} (hL : L ≤ 12) : ∀ (n v set : Nat), set < 4096 → lfr f g c w us L n v set < 4096
  | 0, _, _, h => h
  | n + 1, v, set, h => by
    unfold lfr
    cases h1 : fsO f g c w us L v with
    | none => exact h
    | some k => exact lfr_lt hL n _ _ (or_lt (n := 12) h (pw_lt (by have := fsO_lt h1; omega)))
/-- the link of a way n steps on -/
def saN (f g c w : Nat → Nat) (us L : Nat) : Nat → Nat → Option Nat → Option Nat
  | 0, _, o => o
  | _ + 1, _, none => none
  | n + 1, v, some k => saN f g c w us L n (nxt f g k v) (fsO f g c w us L (nxt f g k v))
