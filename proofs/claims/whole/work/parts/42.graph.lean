/-! sets as bits; closures; trees that are grown -/
def SU (x y : Nat) : Prop := ∀ i, x.testBit i = true → y.testBit i = true
theorem SU.rf (x : Nat) : SU x x := fun _ h => h
theorem SU.tr {x y z : Nat} (h1 : SU x y) (h2 : SU y z) : SU x z := fun i h => h2 i (h1 i h)
theorem se {x y : Nat} (h1 : SU x y) (h2 : SU y x) : x = y := by
  apply Nat.eq_of_testBit_eq
  intro i
  cases hx : x.testBit i <;> cases hy : y.testBit i
  · rfl
  · have := h2 i hy; rw [hx] at this; cases this
  · have := h1 i hx; rw [hy] at this; cases this
  · rfl
theorem ob {a k i : Nat} : (a ||| 2 ^ k).testBit i = true ↔ (a.testBit i = true ∨ k = i) := by
  rw [Nat.testBit_or, Nat.testBit_two_pow]; simp
theorem obb {a b i : Nat} : (a ||| b).testBit i = true ↔ (a.testBit i = true ∨ b.testBit i = true) := by
  rw [Nat.testBit_or]; simp
theorem abb {a b i : Nat} : (a &&& b).testBit i = true ↔ (a.testBit i = true ∧ b.testBit i = true) := by
  rw [Nat.testBit_and]; simp
theorem nb {a k i : Nat} : (nd a (2 ^ k)).testBit i = true ↔ (a.testBit i = true ∧ k ≠ i) := by
  rw [nd_bit, Nat.testBit_two_pow]; simp
theorem ndb {a b i : Nat} : (nd a b).testBit i = true ↔ (a.testBit i = true ∧ b.testBit i = false) := by
  rw [nd_bit]; simp
theorem eb {f g : Nat → Nat} {k i : Nat} : (edg f g k).testBit i = true ↔ (f k = i ∨ g k = i) := by
  unfold edg; rw [Nat.testBit_or, Nat.testBit_two_pow, Nat.testBit_two_pow]; simp
theorem tf {b : Bool} (h : ¬ b = true) : b = false := by
  cases b
  · rfl
  · exact absurd rfl h
theorem ft {b : Bool} (h : b = false) : ¬ b = true := by
  rw [h]; decide
theorem zb {i : Nat} (h : (0 : Nat).testBit i = true) : False := by
  rw [Nat.zero_testBit] at h; cases h
theorem nz_bit {x : Nat} (h : x ≠ 0) : ∃ i, x.testBit i = true := Nat.exists_testBit_of_ne_zero h
theorem bit_nz {x i : Nat} (h : x.testBit i = true) : x ≠ 0 := by
  intro e; rw [e] at h; exact zb h
theorem nd_0 {x y : Nat} : nd x y = 0 ↔ SU x y := by
  constructor
  · intro h i hi
    cases hy : y.testBit i
    · exact absurd h (bit_nz (ndb.mpr ⟨hi, hy⟩))
    · rfl
  · intro h
    by_cases e : nd x y = 0
    · exact e
    · obtain ⟨i, hi⟩ := nz_bit e
      obtain ⟨h1, h2⟩ := ndb.mp hi
      rw [h i h1] at h2; cases h2
/-- all bits are below n -/
theorem lt_bits {x n : Nat} (h : ∀ i, x.testBit i = true → i < n) : x < 2 ^ n := by
  apply Nat.lt_pow_two_of_testBit
  intro i hi
  cases e : x.testBit i
  · rfl
  · have := h i e; omega
theorem bits_lt {x n i : Nat} (h : x < 2 ^ n) (hi : x.testBit i = true) : i < n := by
  rcases Nat.lt_or_ge i n with h1 | h1
  · exact h1
  · have : x < 2 ^ i := Nat.lt_of_lt_of_le h (Nat.pow_le_pow_right (by decide) h1)
    rw [Nat.testBit_lt_two_pow this] at hi; cases hi
theorem su_le {x y : Nat} (h : SU x y) : x ≤ y := Nat.le_of_testBit h
theorem bts_lt {x y : Nat} (h : SU x y) {i : Nat} (h1 : x.testBit i = false) (h2 : y.testBit i = true) : ∀ n, i < n → bts x n < bts y n
  | 0, hi => absurd hi (Nat.not_lt_zero _)
  | n + 1, hi => by
    unfold bts
    by_cases e : i = n
    · subst e
      have := bts_mono h i
      rw [h1, h2]
      simp
      omega
    · have ih := bts_lt h h1 h2 n (by omega)
      have hn := h n
      cases hx : x.testBit n
      · simp; omega
      · rw [hn hx]; simp; omega
theorem bts_all {x : Nat} : ∀ n, n ≤ bts x n → ∀ i, i < n → x.testBit i = true
  | 0, _, i, hi => absurd hi (Nat.not_lt_zero _)
  | n + 1, h, i, hi => by
    have h1 := bts_le x n
    unfold bts at h
    cases hx : x.testBit n
    · rw [hx] at h; simp at h; omega
    · rw [hx] at h
      simp at h
      by_cases e : i = n
      · subst e; exact hx
      · exact bts_all n h i (by omega)
theorem bts_ext {x y : Nat} : ∀ n, (∀ i, i < n → x.testBit i = y.testBit i) → bts x n = bts y n
  | 0, _ => rfl
  | n + 1, h => by
    unfold bts
    rw [bts_ext n (fun i hi => h i (by omega)), h n (by omega)]
theorem bts_add {x y : Nat} (h : SU x y) {i : Nat} (h1 : x.testBit i = false) (h2 : y.testBit i = true) (h3 : ∀ j, j ≠ i → x.testBit j = y.testBit j) : ∀ n, i < n → bts y n = bts x n + 1
  | 0, hi => absurd hi (Nat.not_lt_zero _)
  | n + 1, hi => by
    unfold bts
    by_cases e : i = n
    · subst e
      rw [h1, h2, bts_ext i (fun j hj => h3 j (by omega))]
      simp
    · rw [bts_add h h1 h2 h3 n (by omega), h3 n (fun e2 => e e2.symm)]
      omega
/-! links join nodes -/
def JN (f g : Nat → Nat) (k u x : Nat) : Prop := (f k = u ∧ g k = x) ∨ (f k = x ∧ g k = u)
theorem JN.sy {f g : Nat → Nat} {k u x : Nat} (h : JN f g k u x) : JN f g k x u := by
  rcases h with h | h
  · exact Or.inr h
  · exact Or.inl h
theorem JN.fg (f g : Nat → Nat) (k : Nat) : JN f g k (f k) (g k) := Or.inl ⟨rfl, rfl⟩
theorem JN.gf (f g : Nat → Nat) (k : Nat) : JN f g k (g k) (f k) := Or.inr ⟨rfl, rfl⟩
def CL (f g : Nat → Nat) (set L X : Nat) : Prop := ∀ k u x, k < L → set.testBit k = true → JN f g k u x → X.testBit u = true → X.testBit x = true
theorem hgr_up (f g : Nat → Nat) (set x : Nat) : ∀ k, SU x (hgr f g set k x)
  | 0 => SU.rf x
  | k + 1 => by
    have h := hgr_up f g set x k
    unfold hgr
    split
    · exact fun i hi => obb.mpr (Or.inl (h i hi))
    · exact h
theorem hgr_in {f g : Nat → Nat} {set L X x : Nat} (hX : CL f g set L X) (hx : SU x X) : ∀ k, k ≤ L → SU (hgr f g set k x) X
  | 0, _ => hx
  | k + 1, hk => by
    have h := hgr_in hX hx k (by omega)
    unfold hgr
    split
    · rename_i h2
      have h4 := ed_and.mp h2.2
      have h5 : X.testBit (f k) = true ∧ X.testBit (g k) = true := by
        rcases h4 with h4 | h4
        · exact ⟨h _ h4, hX k _ _ (by omega) h2.1 (JN.fg f g k) (h _ h4)⟩
        · exact ⟨hX k _ _ (by omega) h2.1 (JN.gf f g k) (h _ h4), h _ h4⟩
      intro i hi
      rcases obb.mp hi with h6 | h6
      · exact h i h6
      · rcases eb.mp h6 with h6 | h6
        · rw [← h6]; exact h5.1
        · rw [← h6]; exact h5.2
    · exact h
theorem hgr_st {f g : Nat → Nat} {set x k : Nat} : ∀ L, k ≤ L → SU (hgr f g set k x) (hgr f g set L x)
  | 0, h => by
    have : k = 0 := by omega
    subst this; exact SU.rf _
  | L + 1, h => by
    by_cases e : k = L + 1
    · subst e; exact SU.rf _
    · have ih := hgr_st L (by omega : k ≤ L) (f := f) (g := g) (set := set) (x := x)
      refine ih.tr ?_
      intro i hi
      rw [hgr]
      split
      · exact obb.mpr (Or.inl hi)
      · exact hi
theorem hgr_cl {f g : Nat → Nat} {set L x : Nat} (h : hgr f g set L x = x) : CL f g set L x := by
  have hk : ∀ k, k ≤ L → hgr f g set k x = x := fun k hk => se (by have := hgr_st (f := f) (g := g) (set := set) (x := x) L hk; rw [h] at this; exact this) (hgr_up f g set x k)
  intro k u y hk' hs hj hu
  have h1 := hk (k + 1) (by omega)
  have h0 := hk k (by omega)
  rw [hgr, h0] at h1
  have hc : x &&& edg f g k ≠ 0 := ed_and.mpr (by
    rcases hj with ⟨e1, e2⟩ | ⟨e1, e2⟩
    · rw [e1]; exact Or.inl hu
    · rw [e2]; exact Or.inr hu)
  rw [if_pos ⟨hs, hc⟩] at h1
  rw [← h1]
  refine obb.mpr (Or.inr (eb.mpr ?_))
  rcases hj with ⟨e1, e2⟩ | ⟨e1, e2⟩
  · exact Or.inr e2
  · exact Or.inl e1
/-- the links, the nodes, the source -/
def GH (f g c : Nat → Nat) (L n src : Nat) : Prop := (∀ j, f j < 7) ∧ (∀ j, g j < 7) ∧ L ≤ 12 ∧ 2 ≤ n ∧ n ≤ 7 ∧ src < n ∧ ∀ k, k < L → f k < n ∧ g k < n ∧ f k ≠ g k ∧ 1 ≤ c k ∧ c k ≤ 9
section GR
variable {f g c : Nat → Nat} {L n src : Nat}
theorem GH.jn (h : GH f g c L n src) {k u x : Nat} (hk : k < L) (hj : JN f g k u x) : u < n ∧ x < n ∧ u ≠ x := by
  obtain ⟨h1, h2, h3, _⟩ := h.2.2.2.2.2.2 k hk
  rcases hj with ⟨e1, e2⟩ | ⟨e1, e2⟩
  · rw [← e1, ← e2]; exact ⟨h1, h2, h3⟩
  · rw [← e1, ← e2]; exact ⟨h2, h1, fun e => h3 e.symm⟩
theorem GH.src7 (h : GH f g c L n src) : src < 7 := Nat.lt_of_lt_of_le h.2.2.2.2.2.1 h.2.2.2.2.1
theorem clo_fix (h : GH f g c L n src) (set : Nat) : hgr f g set L (clo f g set L src) = clo f g set L src := by
  have hf' : ∀ j, f j < 10 := fun j => Nat.lt_of_lt_of_le (h.1 j) (by decide)
  have hg' : ∀ j, g j < 10 := fun j => Nat.lt_of_lt_of_le (h.2.1 j) (by decide)
  have hx : 2 ^ src < 1024 := pw_lt (n := 10) (Nat.lt_of_lt_of_le h.src7 (by decide))
  rcases hgn_grow 1024 (f := f) (g := g) (set := set) (L := L) (x := 2 ^ src) with ⟨q, hq, h1⟩ | h1
  · have h3 := hgn_fix h1 (1024 - q)
    rw [show q + (1024 - q) = 1024 by omega] at h3
    unfold clo
    rw [h3, h1]
  · exfalso
    have h5 := hgn_lt10 hf' hg' hx 1024 (set := set) (L := L)
    exact absurd (Nat.le_trans (Nat.le_add_left 1024 (2 ^ src)) h1) (Nat.not_le.mpr h5)
theorem hgn_up (f g : Nat → Nat) (set L x : Nat) : ∀ q, SU x (hgn f g set L q x)
  | 0 => SU.rf x
  | q + 1 => (hgn_up f g set L x q).tr (hgr_up f g set _ L)
theorem hgn_in {set X x : Nat} (hX : CL f g set L X) (hx : SU x X) : ∀ q, SU (hgn f g set L q x) X
  | 0 => hx
  | q + 1 => hgr_in hX (hgn_in hX hx q) L (Nat.le_refl _)
theorem clo_src (f g : Nat → Nat) (L src set : Nat) : (clo f g set L src).testBit src = true := hgn_up f g set L (2 ^ src) 1024 src (by rw [Nat.testBit_two_pow]; simp)
theorem clo_cl (h : GH f g c L n src) (set : Nat) : CL f g set L (clo f g set L src) := hgr_cl (clo_fix h set)
theorem clo_min {set X : Nat} (hs : X.testBit src = true) (hX : CL f g set L X) : SU (clo f g set L src) X := by
  refine hgn_in hX ?_ 1024
  intro i hi
  rw [Nat.testBit_two_pow] at hi
  have := of_decide_eq_true hi
  subst this; exact hs
theorem clo_mono (h : GH f g c L n src) {s t : Nat} (hst : ∀ k, k < L → s.testBit k = true → t.testBit k = true) : SU (clo f g s L src) (clo f g t L src) :=
  clo_min (clo_src f g L src t) (fun k u x hk hs hj hu => clo_cl h t k u x hk (hst k hk hs) hj hu)
theorem clo_n (h : GH f g c L n src) {set i : Nat} (hi : (clo f g set L src).testBit i = true) : i < n := by
  have hX : CL f g set L (2 ^ n - 1) := by
    intro k u x hk _ hj _
    rw [Nat.testBit_two_pow_sub_one]
    exact decide_eq_true (h.jn hk hj).2.1
  have := clo_min (src := src) (by rw [Nat.testBit_two_pow_sub_one]; exact decide_eq_true h.2.2.2.2.2.1) hX i hi
  rw [Nat.testBit_two_pow_sub_one] at this
  exact of_decide_eq_true this
theorem clo_128 (h : GH f g c L n src) (set : Nat) : clo f g set L src < 128 := by
  have h1 := lt_bits (n := n) (fun i hi => clo_n h (set := set) hi)
  have h2 : 2 ^ n ≤ 2 ^ 7 := Nat.pow_le_pow_right (by decide) h.2.2.2.2.1
  omega
theorem clo_eq (h : GH f g c L n src) {s t : Nat} (hst : ∀ k, k < L → s.testBit k = t.testBit k) : clo f g s L src = clo f g t L src :=
  se (clo_mono h (fun k hk h1 => by rw [← hst k hk]; exact h1)) (clo_mono h (fun k hk h1 => by rw [hst k hk]; exact h1))
theorem hgn_cnt (h : GH f g c L n src) (set : Nat) : ∀ q, (∃ p, p ≤ q ∧ hgr f g set L (hgn f g set L p (2 ^ src)) = hgn f g set L p (2 ^ src)) ∨ q + 1 ≤ bts (hgn f g set L q (2 ^ src)) n
  | 0 => by
    right
    have h0 : (2 ^ src).testBit src = true := by rw [Nat.testBit_two_pow]; simp
    have := bts_lt (x := 0) (y := 2 ^ src) (fun i hi => (zb hi).elim) (Nat.zero_testBit src) h0 n h.2.2.2.2.2.1
    show 1 ≤ bts (2 ^ src) n
    omega
  | q + 1 => by
    rcases hgn_cnt h set q with ⟨p, hp, h1⟩ | h1
    · exact Or.inl ⟨p, by omega, h1⟩
    · by_cases e : hgr f g set L (hgn f g set L q (2 ^ src)) = hgn f g set L q (2 ^ src)
      · exact Or.inl ⟨q, by omega, e⟩
      · right
        have hup := hgr_up f g set (hgn f g set L q (2 ^ src)) L
        have hin : SU (hgn f g set L (q + 1) (2 ^ src)) (clo f g set L src) := hgn_in (clo_cl h set) (fun i hi => by
          rw [Nat.testBit_two_pow] at hi
          have := of_decide_eq_true hi
          subst this; exact clo_src f g L _ set) (q + 1)
        have hex : ∃ i, (hgr f g set L (hgn f g set L q (2 ^ src))).testBit i = true ∧ (hgn f g set L q (2 ^ src)).testBit i = false := by
          apply Classical.byContradiction
          intro hno
          apply e
          refine se (fun i hi => ?_) hup
          cases hb : (hgn f g set L q (2 ^ src)).testBit i
          · exact absurd ⟨i, hi, hb⟩ hno
          · rfl
        obtain ⟨i, hi1, hi2⟩ := hex
        have := bts_lt hup hi2 hi1 n (clo_n h (hin i hi1))
        show q + 1 + 1 ≤ bts (hgr f g set L (hgn f g set L q (2 ^ src))) n
        omega
/-- n - 1 rounds are enough -/
theorem hgn_clo (h : GH f g c L n src) (set : Nat) : hgn f g set L (n - 1) (2 ^ src) = clo f g set L src := by
  have hf' : ∀ j, f j < 10 := fun j => Nat.lt_of_lt_of_le (h.1 j) (by decide)
  have hg' : ∀ j, g j < 10 := fun j => Nat.lt_of_lt_of_le (h.2.1 j) (by decide)
  have hn := h.2.2.2.1
  refine clo_of hf' hg' (Nat.lt_of_lt_of_le h.src7 (by decide)) ?_
  rcases hgn_cnt h set (n - 1) with ⟨p, hp, h1⟩ | h1
  · have h3 := hgn_fix h1 (n - 1 - p)
    rw [show p + (n - 1 - p) = n - 1 by omega] at h3
    rw [h3, h1]
  · have hall := bts_all n (by omega : n ≤ bts (hgn f g set L (n - 1) (2 ^ src)) n)
    have hin : SU (hgn f g set L (n - 1 + 1) (2 ^ src)) (clo f g set L src) := hgn_in (clo_cl h set) (fun i hi => by
      rw [Nat.testBit_two_pow] at hi
      have := of_decide_eq_true hi
      subst this; exact clo_src f g L _ set) (n - 1 + 1)
    exact se (fun i hi => hall i (clo_n h (hin i hi))) (hgr_up f g set _ L)
/-- all links of a set hang together with the source -/
def CN (f g : Nat → Nat) (L src set : Nat) : Prop := ∀ k, k < L → set.testBit k = true → (clo f g set L src).testBit (f k) = true
theorem CN.jn (h : GH f g c L n src) {set : Nat} (hc : CN f g L src set) {k u x : Nat} (hk : k < L) (hs : set.testBit k = true) (hj : JN f g k u x) : (clo f g set L src).testBit u = true := by
  have h1 := hc k hk hs
  rcases hj with ⟨e1, e2⟩ | ⟨e1, e2⟩
  · rw [← e1]; exact h1
  · rw [← e2]; exact clo_cl h set k _ _ hk hs (JN.fg f g k) h1
theorem nof_bit (f g : Nat → Nat) (src set i : Nat) : ∀ k, (nof f g src set k).testBit i = true ↔ (i = src ∨ ∃ j, j < k ∧ set.testBit j = true ∧ (f j = i ∨ g j = i))
  | 0 => by
    unfold nof
    rw [Nat.testBit_two_pow]
    constructor
    · intro h; exact Or.inl (of_decide_eq_true h).symm
    · intro h
      rcases h with h | ⟨j, hj, _⟩
      · exact decide_eq_true h.symm
      · exact absurd hj (Nat.not_lt_zero _)
  | k + 1 => by
    have ih := nof_bit f g src set i k
    unfold nof
    split
    · rename_i hs
      rw [obb, ih, eb]
      constructor
      · rintro ((h | ⟨j, hj, h⟩) | h)
        · exact Or.inl h
        · exact Or.inr ⟨j, by omega, h⟩
        · exact Or.inr ⟨k, by omega, hs, h⟩
      · rintro (h | ⟨j, hj, h⟩)
        · exact Or.inl (Or.inl h)
        · by_cases e : j = k
          · subst e; exact Or.inr h.2
          · exact Or.inl (Or.inr ⟨j, by omega, h⟩)
    · rename_i hs
      rw [ih]
      constructor
      · rintro (h | ⟨j, hj, h⟩)
        · exact Or.inl h
        · exact Or.inr ⟨j, by omega, h⟩
      · rintro (h | ⟨j, hj, h⟩)
        · exact Or.inl h
        · by_cases e : j = k
          · subst e; exact absurd h.1 hs
          · exact Or.inr ⟨j, by omega, h⟩
theorem nof_cl (f g : Nat → Nat) (L src set : Nat) : CL f g set L (nof f g src set L) := by
  intro k u x hk hs hj _
  refine (nof_bit f g src set x L).mpr (Or.inr ⟨k, hk, hs, ?_⟩)
  rcases hj with ⟨e1, e2⟩ | ⟨e1, e2⟩
  · exact Or.inr e2
  · exact Or.inl e1
theorem nof_clo (h : GH f g c L n src) {set : Nat} (hc : CN f g L src set) : nof f g src set L = clo f g set L src := by
  refine se ?_ (clo_min ((nof_bit f g src set src L).mpr (Or.inl rfl)) (nof_cl f g L src set))
  intro i hi
  rcases (nof_bit f g src set i L).mp hi with h1 | ⟨j, hj, hs, h1⟩
  · rw [h1]; exact clo_src f g L src set
  · rcases h1 with h1 | h1
    · rw [← h1]; exact hc j hj hs
    · rw [← h1]; exact hc.jn h hj hs (JN.gf f g j)
/-- a link that brings a new node -/
def LF (f g : Nat → Nat) (L src t k u x : Nat) : Prop := k < L ∧ JN f g k u x ∧ (clo f g t L src).testBit u = true ∧ (clo f g t L src).testBit x = false
def Gw (f g : Nat → Nat) (L src set : Nat) : Prop := ∀ P : Nat → Prop, P 0 → (∀ t k u x, P t → LF f g L src t k u x → P (t ||| 2 ^ k)) → P set
theorem Gw.z (f g : Nat → Nat) (L src : Nat) : Gw f g L src 0 := fun _ h _ => h
theorem Gw.a {t k u x : Nat} (h : Gw f g L src t) (hl : LF f g L src t k u x) : Gw f g L src (t ||| 2 ^ k) := fun P h0 h1 => h1 t k u x (h P h0 h1) hl
theorem clo_lf (h : GH f g c L n src) {t k u x : Nat} (hk : k < L) (hj : JN f g k u x) (hu : (clo f g t L src).testBit u = true) (hx : ∀ j y, j < L → t.testBit j = true → ¬ JN f g j x y) : clo f g (t ||| 2 ^ k) L src = clo f g t L src ||| 2 ^ x := by
  refine se (clo_min (ob.mpr (Or.inl (clo_src f g L src t))) ?_) ?_
  · intro j v y hj1 hs hjn hv
    rcases ob.mp hs with h1 | h1
    · rcases ob.mp hv with h2 | h2
      · exact ob.mpr (Or.inl (clo_cl h t j v y hj1 h1 hjn h2))
      · subst h2; exact absurd hjn (hx j y hj1 h1)
    · subst h1
      have : y = u ∨ y = x := by
        rcases hj with ⟨e1, e2⟩ | ⟨e1, e2⟩ <;> rcases hjn with ⟨e3, e4⟩ | ⟨e3, e4⟩
        · exact Or.inr (e4.symm.trans e2)
        · exact Or.inl (e3.symm.trans e1)
        · exact Or.inl (e4.symm.trans e2)
        · exact Or.inr (e3.symm.trans e1)
      rcases this with e | e
      · rw [e]; exact ob.mpr (Or.inl hu)
      · rw [e]; exact ob.mpr (Or.inr rfl)
  · intro i hi
    have hm : SU (clo f g t L src) (clo f g (t ||| 2 ^ k) L src) := clo_mono h (fun j _ hs => ob.mpr (Or.inl hs))
    rcases ob.mp hi with h1 | h1
    · exact hm i h1
    · subst h1
      exact clo_cl h _ k u x hk (ob.mpr (Or.inr rfl)) hj (hm u hu)
theorem CN.nx (h : GH f g c L n src) {t x : Nat} (hc : CN f g L src t) (hx : (clo f g t L src).testBit x = false) : ∀ j y, j < L → t.testBit j = true → ¬ JN f g j x y := by
  intro j y hj hs hjn
  rw [hc.jn h hj hs hjn] at hx
  cases hx
theorem CN.z (f g : Nat → Nat) (L src : Nat) : CN f g L src 0 := fun _ _ h => (zb h).elim
theorem CN.a (h : GH f g c L n src) {t k u x : Nat} (hc : CN f g L src t) (hl : LF f g L src t k u x) : CN f g L src (t ||| 2 ^ k) := by
  have hm : SU (clo f g t L src) (clo f g (t ||| 2 ^ k) L src) := clo_mono h (fun j _ hs => ob.mpr (Or.inl hs))
  intro j hj hs
  rcases ob.mp hs with h1 | h1
  · exact hm _ (hc j hj h1)
  · subst h1
    have hu := hm u hl.2.2.1
    rcases hl.2.1 with ⟨e1, e2⟩ | ⟨e1, e2⟩
    · rw [e1]; exact hu
    · rw [e1]
      exact clo_cl h _ k u x hl.1 (ob.mpr (Or.inr rfl)) hl.2.1 hu
theorem Gw.cn (h : GH f g c L n src) {t : Nat} (hg : Gw f g L src t) : CN f g L src t := hg _ (CN.z f g L src) (fun _ _ _ _ hc hl => hc.a h hl)
theorem Gw.lt {t : Nat} (hg : Gw f g L src t) : ∀ k, t.testBit k = true → k < L := hg (fun t => ∀ k, t.testBit k = true → k < L) (fun _ h => (zb h).elim) (fun t k u x ih hl j hj => by
  rcases ob.mp hj with h1 | h1
  · exact ih j h1
  · rw [← h1]; exact hl.1)
theorem Gw.ind (h : GH f g c L n src) {P : Nat → Prop} (h0 : P 0) (h1 : ∀ t k u x, Gw f g L src t → CN f g L src t → P t → LF f g L src t k u x → P (t ||| 2 ^ k)) {t : Nat} (hg : Gw f g L src t) : P t :=
  (hg (fun t => Gw f g L src t ∧ P t) ⟨Gw.z f g L src, h0⟩ (fun t k u x ih hl => ⟨ih.1.a hl, h1 t k u x ih.1 (ih.1.cn h) ih.2 hl⟩)).2
theorem LF.nt (h : GH f g c L n src) {t k u x : Nat} (hc : CN f g L src t) (hl : LF f g L src t k u x) : t.testBit k = false := by
  cases e : t.testBit k
  · rfl
  · exact absurd hl.2.1.sy (hc.nx h hl.2.2.2 k u hl.1 e)
/-- what of a set hangs together with the source -/
def hgS (f g : Nat → Nat) (L src set : Nat) : Nat := mhaN f set (clo f g set L src) L
theorem mha_bit (f : Nat → Nat) (x y i : Nat) : ∀ k, (mhaN f x y k).testBit i = true ↔ (i < k ∧ x.testBit i = true ∧ y.testBit (f i) = true)
  | 0 => by
    unfold mhaN
    constructor
    · intro h; exact (zb h).elim
    · intro h; exact absurd h.1 (Nat.not_lt_zero _)
  | k + 1 => by
    have ih := mha_bit f x y i k
    unfold mhaN
    split
    · rename_i hs
      rw [ob, ih]
      constructor
      · rintro (h | h)
        · exact ⟨by omega, h.2⟩
        · subst h; exact ⟨by omega, hs⟩
      · intro h
        by_cases e : k = i
        · exact Or.inr e
        · exact Or.inl ⟨by omega, h.2⟩
    · rename_i hs
      rw [ih]
      constructor
      · intro h; exact ⟨by omega, h.2⟩
      · intro h
        by_cases e : k = i
        · subst e; exact absurd h.2 hs
        · exact ⟨by omega, h.2⟩
theorem hg_bit {set i : Nat} : (hgS f g L src set).testBit i = true ↔ (i < L ∧ set.testBit i = true ∧ (clo f g set L src).testBit (f i) = true) := mha_bit f set _ i L
theorem hg_clo (h : GH f g c L n src) (set : Nat) : clo f g (hgS f g L src set) L src = clo f g set L src := by
  have hm : SU (clo f g (hgS f g L src set) L src) (clo f g set L src) := clo_mono h (fun k _ hs => (hg_bit.mp hs).2.1)
  refine se hm (clo_min (clo_src f g L src _) ?_)
  intro k u x hk hs hj hu
  have h1 : (clo f g set L src).testBit (f k) = true := by
    have hu' := hm u hu
    rcases hj with ⟨e1, e2⟩ | ⟨e1, e2⟩
    · rw [e1]; exact hu'
    · rw [e1]; exact clo_cl h set k u x hk hs (Or.inr ⟨e1, e2⟩) hu'
  exact clo_cl h _ k u x hk (hg_bit.mpr ⟨hk, hs, h1⟩) hj hu
theorem hg_cn (h : GH f g c L n src) (set : Nat) : CN f g L src (hgS f g L src set) := by
  intro k hk hs
  rw [hg_clo h]
  exact (hg_bit.mp hs).2.2
theorem hg_id {set : Nat} (hl : ∀ k, set.testBit k = true → k < L) (hc : CN f g L src set) : hgS f g L src set = set :=
  se (fun i hi => (hg_bit.mp hi).2.1) (fun i hi => hg_bit.mpr ⟨hl i hi, hi, hc i (hl i hi) hi⟩)
/-- what hangs together of a part of a grown tree is grown -/
theorem Gw.sub (h : GH f g c L n src) {t : Nat} (hg : Gw f g L src t) : ∀ s, SU s t → Gw f g L src (hgS f g L src s) := by
  refine hg.ind h (P := fun t => ∀ s, SU s t → Gw f g L src (hgS f g L src s)) ?_ ?_
  · intro s hs
    have : hgS f g L src s = 0 := se (fun i hi => (zb (hs i (hg_bit.mp hi).2.1)).elim) (fun i hi => (zb hi).elim)
    rw [this]; exact Gw.z f g L src
  · intro t k u x hgt hcn ih hl s hs
    obtain ⟨hk, hj, hu, hx⟩ := hl
    have hnx := hcn.nx h hx
    cases hsk : s.testBit k
    · refine ih s (fun i hi => ?_)
      rcases ob.mp (hs i hi) with h1 | h1
      · exact h1
      · subst h1; rw [hsk] at hi; cases hi
    · have hs' : SU (nd s (2 ^ k)) t := by
        intro i hi
        obtain ⟨h1, h2⟩ := nb.mp hi
        rcases ob.mp (hs i h1) with h3 | h3
        · exact h3
        · exact absurd h3 h2
      have es : nd s (2 ^ k) ||| 2 ^ k = s := by
        refine se (fun i hi => ?_) (fun i hi => ?_)
        · rcases ob.mp hi with h1 | h1
          · exact (nb.mp h1).1
          · subst h1; exact hsk
        · by_cases e : k = i
          · exact ob.mpr (Or.inr e)
          · exact ob.mpr (Or.inl (nb.mpr ⟨hi, e⟩))
      have ih' := ih _ hs'
      have hxs : (clo f g (nd s (2 ^ k)) L src).testBit x = false := by
        cases e : (clo f g (nd s (2 ^ k)) L src).testBit x
        · rfl
        · rw [clo_mono h (fun j _ hj => hs' j hj) x e] at hx; cases hx
      have hnx' : ∀ j y, j < L → (nd s (2 ^ k)).testBit j = true → ¬ JN f g j x y := fun j y hj hb => hnx j y hj (hs' j hb)
      cases hus : (clo f g (nd s (2 ^ k)) L src).testBit u
      · -- it hangs nowhere
        have e : clo f g s L src = clo f g (nd s (2 ^ k)) L src := by
          refine se (clo_min (clo_src f g L src _) ?_) (clo_mono h (fun j _ hj => (nb.mp hj).1))
          intro j v y hj1 hb hjn hv
          by_cases e : k = j
          · subst e
            have : v = u ∨ v = x := by
              rcases hj with ⟨e1, e2⟩ | ⟨e1, e2⟩ <;> rcases hjn with ⟨e3, e4⟩ | ⟨e3, e4⟩
              · exact Or.inl (e3.symm.trans e1)
              · exact Or.inr (e4.symm.trans e2)
              · exact Or.inr (e3.symm.trans e1)
              · exact Or.inl (e4.symm.trans e2)
            rcases this with e | e
            · rw [e, hus] at hv; cases hv
            · rw [e, hxs] at hv; cases hv
          · exact clo_cl h _ j v y hj1 (nb.mpr ⟨hb, e⟩) hjn hv
        have e2 : hgS f g L src s = hgS f g L src (nd s (2 ^ k)) := by
          refine se (fun i hi => ?_) (fun i hi => ?_)
          · obtain ⟨h1, h2, h3⟩ := hg_bit.mp hi
            rw [e] at h3
            refine hg_bit.mpr ⟨h1, nb.mpr ⟨h2, ?_⟩, h3⟩
            intro e3
            subst e3
            rcases hj with ⟨e1, e2⟩ | ⟨e1, e2⟩
            · rw [e1, hus] at h3; cases h3
            · rw [e1, hxs] at h3; cases h3
          · obtain ⟨h1, h2, h3⟩ := hg_bit.mp hi
            rw [← e] at h3
            exact hg_bit.mpr ⟨h1, (nb.mp h2).1, h3⟩
        rw [e2]; exact ih'
      · have hl' : LF f g L src (hgS f g L src (nd s (2 ^ k))) k u x := ⟨hk, hj, by rw [hg_clo h]; exact hus, by rw [hg_clo h]; exact hxs⟩
        have e : clo f g s L src = clo f g (nd s (2 ^ k)) L src ||| 2 ^ x := by
          have := clo_lf h hk hj hus hnx'
          rw [es] at this; exact this
        have e2 : hgS f g L src s = hgS f g L src (nd s (2 ^ k)) ||| 2 ^ k := by
          refine se (fun i hi => ?_) (fun i hi => ?_)
          · obtain ⟨h1, h2, h3⟩ := hg_bit.mp hi
            by_cases e3 : k = i
            · exact ob.mpr (Or.inr e3)
            · refine ob.mpr (Or.inl (hg_bit.mpr ⟨h1, nb.mpr ⟨h2, e3⟩, ?_⟩))
              rw [e] at h3
              rcases ob.mp h3 with h4 | h4
              · exact h4
              · exact absurd (h4 ▸ JN.fg f g i) (hnx' i (g i) h1 (nb.mpr ⟨h2, e3⟩))
          · rcases ob.mp hi with h1 | h1
            · obtain ⟨h2, h3, h4⟩ := hg_bit.mp h1
              exact hg_bit.mpr ⟨h2, (nb.mp h3).1, by rw [e]; exact ob.mpr (Or.inl h4)⟩
            · subst h1
              refine hg_bit.mpr ⟨hk, hsk, ?_⟩
              rw [e]
              rcases hj with ⟨e1, e2⟩ | ⟨e1, e2⟩
              · rw [e1]; exact ob.mpr (Or.inl hus)
              · rw [e1]; exact ob.mpr (Or.inr rfl)
        rw [e2]; exact ih'.a hl'
theorem kh_bit (f g : Nat → Nat) (x y i : Nat) : ∀ k, (khN f g x y k).testBit i = true ↔ (i < k ∧ x.testBit i = true ∧ edg f g i &&& y ≠ 0)
  | 0 => by
    unfold khN
    constructor
    · intro h; exact (zb h).elim
    · intro h; exact absurd h.1 (Nat.not_lt_zero _)
  | k + 1 => by
    have ih := kh_bit f g x y i k
    unfold khN
    split
    · rename_i hs
      rw [ob, ih]
      constructor
      · rintro (h | h)
        · exact ⟨by omega, h.2⟩
        · subst h; exact ⟨by omega, hs⟩
      · intro h
        by_cases e : k = i
        · exact Or.inr e
        · exact Or.inl ⟨by omega, h.2⟩
    · rename_i hs
      rw [ih]
      constructor
      · intro h; exact ⟨by omega, h.2⟩
      · intro h
        by_cases e : k = i
        · subst e; exact absurd h.2 hs
        · exact ⟨by omega, h.2⟩
theorem kh_hg (h : GH f g c L n src) (set : Nat) : khN f g set (clo f g set L src) L = hgS f g L src set := by
  refine se (fun i hi => ?_) (fun i hi => ?_)
  · obtain ⟨h1, h2, h3⟩ := (kh_bit f g set _ i L).mp hi
    rw [Nat.and_comm] at h3
    refine hg_bit.mpr ⟨h1, h2, ?_⟩
    rcases ed_and.mp h3 with h4 | h4
    · exact h4
    · exact clo_cl h set i _ _ h1 h2 (JN.gf f g i) h4
  · obtain ⟨h1, h2, h3⟩ := hg_bit.mp hi
    refine (kh_bit f g set _ i L).mpr ⟨h1, h2, ?_⟩
    rw [Nat.and_comm]
    exact ed_and.mpr (Or.inl h3)
end GR
