/-! the reference: its world, its words -/
def mow (G : GG) (ad : Nat → Nat) (z : Nat → Nat) (fo : Option Nat) (s : Nat → Nat) (d : Nat → Int32) (pa ke : Nat → Nat) (ik fa : Nat → Int32) (te aw : Nat → Nat) : va_W := [(ad 0, .inr (7, [.int (nI 0), .ref (ad 1), .ref (ad 2), .ref (ad 3), .int (nI (z 4)), .ref (ad 4), .ref (ad 5), .ref (ad 6), .int (nI (z 8)), .ref (ad 7), .int (nI (z 10)), .int (nI (z 11)), .int (nI (z 12)), .int (nI (z 13)), .int (oN fo), .ref (ad 8), .int (nI (z 16))])), (ad 1, .inl (G.2 0, 52, .inl (fun j => nI (s j)))), (ad 2, .inl (G.2 0, 52, .inl d)), (ad 3, .inl (G.2 0, 312, .inl (fun j => nI (pa j)))), (ad 4, .inl (G.2 0, 104, .inl (fun j => nI (ke j)))), (ad 5, .inl (G.2 1, 2, .inl ik)), (ad 6, .inl (G.2 0, 12, .inl fa)), (ad 7, .inl (G.2 2, 120, .inl (fun j => sb_b (te j)))), (ad 8, .inl (G.2 0, 7, .inl (fun j => nI (aw j))))]
def sf (s : Nat → Nat) (k : Nat) : Nat := s (16 + k)
def sg (s : Nat → Nat) (k : Nat) : Nat := s (28 + k)
def sc (s : Nat → Nat) (k : Nat) : Nat := s (40 + k)
def sm (s : Nat → Nat) (k : Nat) : Nat := s (8 + k)
/-- ranges of the reference's numbers -/
def SB (s : Nat → Nat) : Prop := (2 ≤ s 0 ∧ s 0 ≤ 7 ∧ s 2 < s 0 ∧ s 3 ≤ 9 ∧ s 1 ≤ 12 ∧ s 4 < 128 ∧ s 5 < 4096 ∧ s 6 < 4096 ∧ s 7 ≤ 7) ∧ (∀ j, 8 ≤ j → s j < 10) ∧ (∀ j, j < 12 → s (16 + j) < 7) ∧ (∀ j, j < 12 → s (28 + j) < 7) ∧ (∀ j, j < 8 → s (8 + j) < 7)
theorem edg_lt10 {f g : Nat → Nat} (hf : ∀ j, f j < 10) (hg : ∀ j, g j < 10) (k : Nat) : edg f g k < 1024 := or_lt (n := 10) (pw_lt (hf k)) (pw_lt (hg k))
theorem hgr_lt10 {f g : Nat → Nat} (hf : ∀ j, f j < 10) (hg : ∀ j, g j < 10) {set x : Nat} (hx : x < 1024) : ∀ k, hgr f g set k x < 1024
  | 0 => hx
  | k + 1 => by
    have h := hgr_lt10 hf hg hx (set := set) k
    unfold hgr
    split
    · exact or_lt (n := 10) h (edg_lt10 hf hg k)
    · exact h
theorem hgn_lt10 {f g : Nat → Nat} (hf : ∀ j, f j < 10) (hg : ∀ j, g j < 10) {set L x : Nat} (hx : x < 1024) : ∀ n, hgn f g set L n x < 1024
  | 0 => hx
  | n + 1 => hgr_lt10 hf hg (hgn_lt10 hf hg hx n) L
theorem hgr_ge (f g : Nat → Nat) (set x : Nat) : ∀ k, x ≤ hgr f g set k x
  | 0 => Nat.le_refl _
  | k + 1 => by
    have h := hgr_ge f g set x k
    unfold hgr
    split
    · exact Nat.le_trans h Nat.left_le_or
    · exact h
theorem hgn_fix {f g : Nat → Nat} {set L x q : Nat} (h : hgr f g set L (hgn f g set L q x) = hgn f g set L q x) : ∀ m, hgn f g set L (q + m) x = hgn f g set L q x
  | 0 => rfl
  | m + 1 => by
    show hgr f g set L (hgn f g set L (q + m) x) = _
    rw [hgn_fix h m, h]
theorem hgn_grow {f g : Nat → Nat} {set L x : Nat} : ∀ n, (∃ q, q ≤ n ∧ hgr f g set L (hgn f g set L q x) = hgn f g set L q x) ∨ x + n ≤ hgn f g set L n x
  | 0 => Or.inr (Nat.le_refl _)
  | n + 1 => by
    rcases hgn_grow n (f := f) (g := g) (set := set) (L := L) (x := x) with ⟨q, hq, h⟩ | h
    · exact Or.inl ⟨q, by omega, h⟩
    · by_cases e : hgr f g set L (hgn f g set L n x) = hgn f g set L n x
      · exact Or.inl ⟨n, by omega, e⟩
      · right
        show x + (n + 1) ≤ hgr f g set L (hgn f g set L n x)
        have := hgr_ge f g set (hgn f g set L n x) L
        omega
/-- the nodes that come to the source by some links: rounds till nothing changes -/
def clo (f g : Nat → Nat) (set L src : Nat) : Nat := hgn f g set L 1024 (2 ^ src)
theorem clo_of {f g : Nat → Nat} (hf : ∀ j, f j < 10) (hg : ∀ j, g j < 10) {set L src q : Nat} (hs : src < 10) (h : hgr f g set L (hgn f g set L q (2 ^ src)) = hgn f g set L q (2 ^ src)) : hgn f g set L q (2 ^ src) = clo f g set L src := by
  have hx : 2 ^ src < 1024 := pw_lt (n := 10) hs
  unfold clo
  rcases Nat.le_total q 1024 with hq | hq
  · have := hgn_fix h (1024 - q)
    rw [show q + (1024 - q) = 1024 by omega] at this
    exact this.symm
  · rcases hgn_grow 1024 (f := f) (g := g) (set := set) (L := L) (x := 2 ^ src) with ⟨p, hp, h2⟩ | h2
    · have h3 := hgn_fix h2 (1024 - p)
      have h4 := hgn_fix h2 (q - p)
      rw [show p + (1024 - p) = 1024 by omega] at h3
      rw [show p + (q - p) = q by omega] at h4
      rw [h3, h4]
    · have h5 := hgn_lt10 hf hg hx 1024 (set := set) (L := L)
      exact absurd (Nat.le_trans (Nat.le_add_left 1024 (2 ^ src)) h2) (Nat.not_le.mpr h5)
theorem clo_lt {f g : Nat → Nat} (hf : ∀ j, f j < 10) (hg : ∀ j, g j < 10) {set L src : Nat} (hs : src < 10) : clo f g set L src < 1024 := hgn_lt10 hf hg (pw_lt (n := 10) hs) 1024
theorem ed_and {f g : Nat → Nat} {k x : Nat} : x &&& edg f g k ≠ 0 ↔ (x.testBit (f k) = true ∨ x.testBit (g k) = true) := by
  unfold edg
  constructor
  · intro h
    rcases hx : x.testBit (f k) with _ | _
    · rcases hy : x.testBit (g k) with _ | _
      · exfalso
        apply h
        apply Nat.eq_of_testBit_eq
        intro i
        rw [Nat.testBit_and, Nat.testBit_or, Nat.testBit_two_pow, Nat.testBit_two_pow, Nat.zero_testBit]
        by_cases e1 : f k = i
        · subst e1; simp [hx]
        · by_cases e2 : g k = i
          · subst e2; simp [hy]
          · simp [e1, e2]
      · exact Or.inr rfl
    · exact Or.inl rfl
  · intro h e
    have h2 : ∀ i, (x &&& (2 ^ f k ||| 2 ^ g k)).testBit i = false := fun i => by rw [e, Nat.zero_testBit]
    rcases h with h | h
    · have := h2 (f k)
      rw [Nat.testBit_and, Nat.testBit_or, h] at this
      simp at this
    · have := h2 (g k)
      rw [Nat.testBit_and, Nat.testBit_or, h] at this
      simp at this
/-- the node at a link's other end -/
def byO (f g : Nat → Nat) (k v : Nat) : Option Nat := if f k = v then some (g k) else if g k = v then some (f k) else none
/-- how far nodes are: at first, a round, n rounds -/
def mIn (goals : Nat) (aw : Nat → Nat) : Nat → (Nat → Nat)
  | 0 => aw
  | v + 1 => va_up (mIn goals aw v) v (if goals.testBit v then 0 else 1000000)
def stN (c : Nat → Nat) (dn k : Nat) : Nat := if dn.testBit k then 1000000 else 16 * c k + 1
def mRl (f g c : Nat → Nat) (dn : Nat) : Nat → (Nat → Nat) → (Nat → Nat)
  | 0, w => w
  | k + 1, w => shr (mRl f g c dn k w) (f k) (g k) (stN c dn k)
def mRn (f g c : Nat → Nat) (dn L : Nat) : Nat → (Nat → Nat) → (Nat → Nat)
  | 0, w => w
  | n + 1, w => mRl f g c dn L (mRn f g c dn L n w)
theorem mIn_le {goals : Nat} {aw : Nat → Nat} (h : ∀ j, aw j ≤ 1000000) : ∀ v j, mIn goals aw v j ≤ 1000000
  | 0 => h
  | v + 1 => by
    unfold mIn
    refine up_le (mIn_le h v) ?_
    split <;> omega
theorem mRl_le {f g c : Nat → Nat} {dn : Nat} {w : Nat → Nat} (h : ∀ j, w j ≤ 1000000) : ∀ k j, mRl f g c dn k w j ≤ 1000000
  | 0 => h
  | k + 1 => shr_le (mRl_le h k)
theorem mRn_le {f g c : Nat → Nat} {dn L : Nat} {w : Nat → Nat} (h : ∀ j, w j ≤ 1000000) : ∀ n j, mRn f g c dn L n w j ≤ 1000000
  | 0 => h
  | n + 1 => mRl_le (mRn_le h n) L
def mesN (f g c : Nat → Nat) (dn L n goals : Nat) (aw : Nat → Nat) : Nat → Nat := mRn f g c dn L n (mIn goals aw n)
theorem mesN_le {f g c : Nat → Nat} {dn L n goals : Nat} {aw : Nat → Nat} (h : ∀ j, aw j ≤ 1000000) : ∀ j, mesN f g c dn L n goals aw j ≤ 1000000 := mRn_le (mIn_le h n) n
/-- the link by which a way goes on -/
def nlS (f g c w : Nat → Nat) (dn v : Nat) : Nat → Option Nat × Nat
  | 0 => (none, 7)
  | k + 1 => match byO f g k v with
    | none => nlS f g c w dn v k
    | some b => if dn.testBit k = false ∧ w b + 16 * c k + 1 = w v ∧ b < (nlS f g c w dn v k).2 then (some k, b) else nlS f g c w dn v k
theorem nlS_le (f g c w : Nat → Nat) (dn v : Nat) : ∀ k, (nlS f g c w dn v k).2 ≤ 7
  | 0 => Nat.le_refl _
  | k + 1 => by
    have h := nlS_le f g c w dn v k
    unfold nlS
    split
    · exact h
    · split
      · rename_i h2
        show _ ≤ 7
        omega
      · exact h
theorem nlS_lt {f g c w : Nat → Nat} {dn v : Nat} : ∀ {k j : Nat}, (nlS f g c w dn v k).1 = some j → j < k
  | 0, j, h => by cases h
  | k + 1, j, h => by
    unfold nlS at h
    split at h
    · have := nlS_lt h; omega
    · split at h
      · cases h; omega
      · have := nlS_lt h; omega
def nlO (f g c w : Nat → Nat) (dn L v : Nat) : Option Nat := (nlS f g c w dn v L).1
/-- the links of a way, m at most -/
def wfM (f g c w : Nat → Nat) (dn L : Nat) : Nat → Nat → Nat → Nat
  | 0, _, set => set
  | m + 1, v, set => if w v = 0 then set else match nlO f g c w dn L v with
    | none => set
    | some k => match byO f g k v with
      | none => set
      | some b => wfM f g c w dn L m b (set ||| 2 ^ k)
/-- ways go on from every node that is away, and come nearer -/
def WOK (f g c w : Nat → Nat) (dn L n : Nat) : Prop := ∀ v, v < n → 0 < w v → w v < 1000000 → ∃ k b, nlO f g c w dn L v = some k ∧ byO f g k v = some b ∧ b < n ∧ w b < w v
theorem wfM_lt {f g c w : Nat → Nat} {dn L : Nat} (hL : L ≤ 12) : ∀ (m v set : Nat), set < 4096 → wfM f g c w dn L m v set < 4096
  | 0, _, _, h => h
  | m + 1, v, set, h => by
    unfold wfM
    split
    · exact h
    · split
      · exact h
      · rename_i k h1
        split
        · exact h
        · exact wfM_lt hL m _ _ (or_lt (n := 12) h (pw_lt (by have := nlS_lt h1; omega)))
def bstN (ld : Nat → Nat) (tree : Nat) : Nat → Option Nat
  | 0 => none
  | k + 1 => match bstN ld tree k with
    | none => if tree.testBit k = true then some k else none
    | some j => if tree.testBit k = true ∧ ld j < ld k then some k else some j
theorem bstN_lt {ld : Nat → Nat} {tree : Nat} : ∀ {k j : Nat}, bstN ld tree k = some j → j < k
  | 0, j, h => by cases h
  | k + 1, j, h => by
    rw [bstN] at h
    cases h1 : bstN ld tree k with
    | none =>
      rw [h1] at h
      dsimp only at h
      split at h
      · cases h; omega
      · cases h
    | some y =>
      rw [h1] at h
      have h3 := bstN_lt h1
      dsimp only at h
      split at h
      · cases h; omega
      · cases h; omega
def mldN (f g : Nat → Nat) (L src mem tree k : Nat) : Nat := if tree.testBit k then bts (nd mem (clo f g (nd tree (2 ^ k)) L src)) 12 else 0
theorem mldN_le (f g : Nat → Nat) (L src mem tree k : Nat) : mldN f g L src mem tree k ≤ 12 := by
  unfold mldN
  split
  · exact bts_le _ _
  · omega
def mneN (f g : Nat → Nat) (L src mem tree up : Nat) : Nat → Nat
  | 0 => 0
  | k + 1 => if tree.testBit k = true ∧ nd mem (clo f g (nd up (2 ^ k)) L src) ≠ 0 then mneN f g L src mem tree up k ||| 2 ^ k else mneN f g L src mem tree up k
def mfaN (f g c : Nat → Nat) (L src tree v : Nat) : Nat → Nat
  | 0 => 0
  | k + 1 => if tree.testBit k = true ∧ (clo f g (nd tree (2 ^ k)) L src).testBit v = false then mfaN f g c L src tree v k + c k else mfaN f g c L src tree v k
def mlaN (f g : Nat → Nat) (tree v : Nat) : Nat → Nat
  | 0 => 0
  | k + 1 => if tree.testBit k = true ∧ byO f g k v ≠ none then mlaN f g tree v k + 1 else mlaN f g tree v k
def mhaN (f : Nat → Nat) (links nodes : Nat) : Nat → Nat
  | 0 => 0
  | k + 1 => if links.testBit k = true ∧ nodes.testBit (f k) = true then mhaN f links nodes k ||| 2 ^ k else mhaN f links nodes k
/-- the least set of links, of the first i: the set, its cost -/
def mleN (f g c : Nat → Nat) (L src mem dn : Nat) : Nat → Nat × Nat
  | 0 => (0, 1000000)
  | i + 1 => if i &&& dn = 0 ∧ cst c i L < (mleN f g c L src mem dn i).2 ∧ nd mem (clo f g i L src) = 0 then (i, cst c i L) else mleN f g c L src mem dn i
def maw (w : Nat → Nat) (v x : Nat) : Option Nat := if 1000000 ≤ w v then none else if x = 0 then some (w v / 16) else some (w v % 16)
