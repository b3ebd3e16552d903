/-! least ways: what the rounds come to -/
def cnB (p : Nat → Bool) : Nat → Nat
  | 0 => 0
  | k + 1 => cnB p k + (if p k then 1 else 0)
theorem cnB_le (p : Nat → Bool) : ∀ k, cnB p k ≤ k
  | 0 => Nat.le_refl _
  | k + 1 => by
    have := cnB_le p k
    unfold cnB
    split <;> omega
theorem cnB_mono {p q : Nat → Bool} : ∀ k, (∀ i, i < k → p i = true → q i = true) → cnB p k ≤ cnB q k
  | 0, _ => Nat.le_refl _
  | k + 1, h => by
    have ih := cnB_mono k (fun i hi => h i (by omega))
    have h1 := h k (by omega)
    unfold cnB
    cases hp : p k
    · simp; omega
    · rw [h1 hp]; simp; omega
theorem cnB_lt {p q : Nat → Bool} {i : Nat} (h1 : p i = false) (h2 : q i = true) : ∀ k, i < k → (∀ j, j < k → p j = true → q j = true) → cnB p k < cnB q k
  | 0, hi, _ => absurd hi (Nat.not_lt_zero _)
  | k + 1, hi, h => by
    unfold cnB
    by_cases e : i = k
    · subst e
      have := cnB_mono i (fun j hj => h j (by omega))
      rw [h1, h2]; simp; omega
    · have ih := cnB_lt h1 h2 k (by omega) (fun j hj => h j (by omega))
      have h3 := h k (by omega)
      cases hp : p k
      · simp; omega
      · rw [h3 hp]; simp; omega
theorem shr_x {w : Nat → Nat} {x y st : Nat} (h : x ≠ y) : shr w x y st x = min (w x) (w y + st) := by
  unfold shr
  rw [va_up_ne _ _ h, va_up_self]
theorem shr_y {w : Nat → Nat} {x y st : Nat} (h : x ≠ y) : shr w x y st y = min (w y) (min (w x) (w y + st) + st) := by
  unfold shr
  rw [va_up_self, va_up_ne _ _ (fun e => h e.symm), va_up_self]
theorem shr_o {w : Nat → Nat} {x y st j : Nat} (h1 : j ≠ x) (h2 : j ≠ y) : shr w x y st j = w j := by
  unfold shr
  rw [va_up_ne _ _ h2, va_up_ne _ _ h1]
theorem shr_dn {w : Nat → Nat} {x y st : Nat} (h : x ≠ y) (j : Nat) : shr w x y st j ≤ w j := by
  by_cases e1 : j = x
  · subst e1; rw [shr_x h]; exact Nat.min_le_left _ _
  · by_cases e2 : j = y
    · subst e2; rw [shr_y h]; exact Nat.min_le_left _ _
    · rw [shr_o e1 e2]; exact Nat.le_refl _
/-- usable links, their weights -/
def UL (us L k : Nat) : Prop := k < L ∧ us.testBit k = true
abbrev wtK (c : Nat → Nat) (k : Nat) : Nat := c k * 16 + 1
section WY
variable {f g c : Nat → Nat} {L n src us : Nat}
theorem GH.ne (h : GH f g c L n src) {k : Nat} (hk : k < L) : f k ≠ g k := (h.2.2.2.2.2.2 k hk).2.2.1
theorem rlx_dn (h : GH f g c L n src) (w : Nat → Nat) : ∀ k, k ≤ L → ∀ j, rlx f g c us k w j ≤ w j
  | 0, _, _ => Nat.le_refl _
  | k + 1, hk, j => by
    have ih := rlx_dn h w k (by omega) j
    unfold rlx
    split
    · exact Nat.le_trans (shr_dn (h.ne (by omega)) j) ih
    · exact ih
theorem rlx_st (h : GH f g c L n src) (w : Nat → Nat) {i : Nat} : ∀ k, k ≤ L → i ≤ k → ∀ j, rlx f g c us k w j ≤ rlx f g c us i w j
  | 0, _, hi, j => by
    have : i = 0 := by omega
    subst this; exact Nat.le_refl _
  | k + 1, hk, hi, j => by
    by_cases e : i = k + 1
    · subst e; exact Nat.le_refl _
    · have ih := rlx_st h w k (by omega) (by omega : i ≤ k) j
      refine Nat.le_trans ?_ ih
      rw [rlx]
      split
      · exact shr_dn (h.ne (by omega)) j
      · exact Nat.le_refl _
theorem rlx_rel (h : GH f g c L n src) (w : Nat → Nat) {k u v : Nat} (hk : UL us L k) (hj : JN f g k u v) : rlx f g c us (k + 1) w v ≤ rlx f g c us k w u + wtK c k := by
  have hne := h.ne hk.1
  rw [rlx, if_pos hk.2]
  rcases hj with ⟨e1, e2⟩ | ⟨e1, e2⟩
  · rw [← e2, ← e1, shr_y hne]
    have h1 := Nat.min_le_right (rlx f g c us k w (g k)) (min (rlx f g c us k w (f k)) (rlx f g c us k w (g k) + (c k * 16 + 1)) + (c k * 16 + 1))
    have h2 := Nat.min_le_left (rlx f g c us k w (f k)) (rlx f g c us k w (g k) + (c k * 16 + 1))
    show _ ≤ _ + (c k * 16 + 1)
    omega
  · rw [← e2, ← e1, shr_x hne]
    exact Nat.min_le_right _ _
def Stb (f g c : Nat → Nat) (us L : Nat) (D : Nat → Nat) : Prop := ∀ k u v, UL us L k → JN f g k u v → D v ≤ D u + wtK c k
theorem rlx_lb (h : GH f g c L n src) {D w : Nat → Nat} (hD : Stb f g c us L D) (hw : ∀ j, D j ≤ w j) : ∀ k, k ≤ L → ∀ j, D j ≤ rlx f g c us k w j
  | 0, _, j => hw j
  | k + 1, hk, j => by
    have ih := rlx_lb h hD hw k (by omega)
    unfold rlx
    split
    · rename_i hs
      have hne := h.ne (by omega : k < L)
      have h1 := hD k _ _ ⟨by omega, hs⟩ (JN.fg f g k)
      have h2 := hD k _ _ ⟨by omega, hs⟩ (JN.gf f g k)
      have i1 := ih (f k)
      have i2 := ih (g k)
      have e9 : wtK c k = c k * 16 + 1 := rfl
      by_cases e1 : j = f k
      · subst e1; rw [shr_x hne]
        exact Nat.le_min.mpr ⟨i1, by omega⟩
      · by_cases e2 : j = g k
        · subst e2; rw [shr_y hne]
          refine Nat.le_min.mpr ⟨i2, ?_⟩
          have : D (f k) ≤ min (rlx f g c us k w (f k)) (rlx f g c us k w (g k) + (c k * 16 + 1)) := Nat.le_min.mpr ⟨i1, by omega⟩
          omega
        · rw [shr_o e1 e2]; exact ih j
    · exact ih j
theorem rlx_7 (h : GH f g c L n src) (w : Nat → Nat) {j : Nat} (hj : 7 ≤ j) : ∀ k, rlx f g c us k w j = w j
  | 0 => rfl
  | k + 1 => by
    have ih := rlx_7 h w hj k
    have h1 := h.1 k
    have h2 := h.2.1 k
    unfold rlx
    split
    · rw [shr_o (by omega) (by omega)]; exact ih
    · exact ih
theorem stb_fix (h : GH f g c L n src) {w : Nat → Nat} (hw : ∀ j, rlx f g c us L w j = w j) : Stb f g c us L w := by
  intro k u v hk hj
  have hkL := hk.1
  have h1 := rlx_rel h w hk hj
  have h2 := rlx_st h w (us := us) L (Nat.le_refl _) (by omega : k + 1 ≤ L) v
  have h3 := rlx_dn h w (us := us) k (by omega) u
  rw [hw v] at h2
  omega
def sm7 (w : Nat → Nat) : Nat := w 0 + w 1 + w 2 + w 3 + w 4 + w 5 + w 6
theorem lim_ex (h : GH f g c L n src) (w0 : Nat → Nat) : ∃ Q, ∀ j, rlx f g c us L (rln f g c us L Q w0) j = rln f g c us L Q w0 j := by
  have key : ∀ m, (∃ Q, ∀ j, rlx f g c us L (rln f g c us L Q w0) j = rln f g c us L Q w0 j) ∨ sm7 (rln f g c us L m w0) + m ≤ sm7 w0 := by
    intro m
    induction m with
    | zero => exact Or.inr (Nat.le_refl _)
    | succ m ih =>
      rcases ih with ih | ih
      · exact Or.inl ih
      · by_cases e : ∀ j, rlx f g c us L (rln f g c us L m w0) j = rln f g c us L m w0 j
        · exact Or.inl ⟨m, e⟩
        · right
          have hd := rlx_dn h (rln f g c us L m w0) (us := us) L (Nat.le_refl _)
          have hlt : sm7 (rlx f g c us L (rln f g c us L m w0)) < sm7 (rln f g c us L m w0) := by
            apply Classical.byContradiction
            intro hno
            apply e
            have d0 := hd 0
            have d1 := hd 1
            have d2 := hd 2
            have d3 := hd 3
            have d4 := hd 4
            have d5 := hd 5
            have d6 := hd 6
            unfold sm7 at hno
            intro j
            rcases Nat.lt_or_ge j 7 with hj | hj
            · have : j = 0 ∨ j = 1 ∨ j = 2 ∨ j = 3 ∨ j = 4 ∨ j = 5 ∨ j = 6 := by omega
              rcases this with rfl | rfl | rfl | rfl | rfl | rfl | rfl <;> omega
            · exact rlx_7 h _ hj L
          show sm7 (rlx f g c us L (rln f g c us L m w0)) + (m + 1) ≤ _
          omega
  rcases key (sm7 w0 + 1) with h1 | h1
  · exact h1
  · omega
/-- where each weight comes from -/
def AT (f g c : Nat → Nat) (us L n goals INF : Nat) (w : Nat → Nat) : Prop := ∀ v, v < n → w v = INF ∨ (goals.testBit v = true ∧ w v = 0) ∨ ∃ k u, UL us L k ∧ JN f g k v u ∧ w u + wtK c k ≤ w v
theorem AT.rl (h : GH f g c L n src) {goals INF : Nat} {w : Nat → Nat} (ha : AT f g c us L n goals INF w) : ∀ k, k ≤ L → AT f g c us L n goals INF (rlx f g c us k w)
  | 0, _ => ha
  | k + 1, hk => by
    have ih := AT.rl h ha k (by omega)
    unfold rlx
    split
    · rename_i hs
      have hne := h.ne (by omega : k < L)
      intro v hv
      have hdn := shr_dn (w := rlx f g c us k w) (st := c k * 16 + 1) hne
      by_cases e : shr (rlx f g c us k w) (f k) (g k) (c k * 16 + 1) v = rlx f g c us k w v
      · rcases ih v hv with h1 | h1 | ⟨j, u, h1, h2, h3⟩
        · exact Or.inl (e.trans h1)
        · exact Or.inr (Or.inl ⟨h1.1, e.trans h1.2⟩)
        · refine Or.inr (Or.inr ⟨j, u, h1, h2, ?_⟩)
          rw [e]
          have := hdn u
          omega
      · have hx := shr_x (w := rlx f g c us k w) (st := c k * 16 + 1) hne
        have hy := shr_y (w := rlx f g c us k w) (st := c k * 16 + 1) hne
        by_cases e1 : v = f k
        · subst e1
          refine Or.inr (Or.inr ⟨k, g k, ⟨by omega, hs⟩, JN.fg f g k, ?_⟩)
          have h5 := hdn (g k)
          rw [hx] at e ⊢
          have : min (rlx f g c us k w (f k)) (rlx f g c us k w (g k) + (c k * 16 + 1)) = rlx f g c us k w (g k) + (c k * 16 + 1) := by
            rcases Nat.le_total (rlx f g c us k w (f k)) (rlx f g c us k w (g k) + (c k * 16 + 1)) with h6 | h6
            · exact absurd (Nat.min_eq_left h6) e
            · exact Nat.min_eq_right h6
          rw [this]
          show _ + (c k * 16 + 1) ≤ _
          omega
        · by_cases e2 : v = g k
          · subst e2
            refine Or.inr (Or.inr ⟨k, f k, ⟨by omega, hs⟩, JN.gf f g k, ?_⟩)
            rw [hx]
            rw [hy] at e ⊢
            have : min (rlx f g c us k w (g k)) (min (rlx f g c us k w (f k)) (rlx f g c us k w (g k) + (c k * 16 + 1)) + (c k * 16 + 1)) = min (rlx f g c us k w (f k)) (rlx f g c us k w (g k) + (c k * 16 + 1)) + (c k * 16 + 1) := by
              rcases Nat.le_total (rlx f g c us k w (g k)) (min (rlx f g c us k w (f k)) (rlx f g c us k w (g k) + (c k * 16 + 1)) + (c k * 16 + 1)) with h6 | h6
              · exact absurd (Nat.min_eq_left h6) e
              · exact Nat.min_eq_right h6
            rw [this]
            exact Nat.le_refl _
          · exact absurd (shr_o e1 e2) e
    · exact ih
theorem AT.rn (h : GH f g c L n src) {goals INF : Nat} {w : Nat → Nat} (ha : AT f g c us L n goals INF w) : ∀ q, AT f g c us L n goals INF (rln f g c us L q w)
  | 0 => ha
  | q + 1 => (AT.rn h ha q).rl h L (Nat.le_refl _)
/-- weights as they must be -/
def DS (f g c : Nat → Nat) (us L n goals INF : Nat) (w : Nat → Nat) : Prop := Stb f g c us L w ∧ (∀ v, v < n → w v = INF ∨ (goals.testBit v = true ∧ w v = 0) ∨ ∃ k u, UL us L k ∧ JN f g k v u ∧ w v = w u + wtK c k) ∧ (∀ v, v < n → goals.testBit v = true → w v = 0) ∧ ∀ v, v < n → w v ≤ INF
theorem rln_lb (h : GH f g c L n src) {D w : Nat → Nat} (hD : Stb f g c us L D) (hw : ∀ j, D j ≤ w j) : ∀ q j, D j ≤ rln f g c us L q w j
  | 0 => hw
  | q + 1 => rlx_lb h hD (rln_lb h hD hw q) L (Nat.le_refl _)
theorem rln_dn (h : GH f g c L n src) (w : Nat → Nat) : ∀ q j, rln f g c us L q w j ≤ w j
  | 0, _ => Nat.le_refl _
  | q + 1, j => Nat.le_trans (rlx_dn h _ L (Nat.le_refl _) j) (rln_dn h w q j)
theorem rln_ds (h : GH f g c L n src) {goals INF : Nat} {w0 : Nat → Nat} (h0 : ∀ v, v < n → w0 v = if goals.testBit v then 0 else INF) {q : Nat} (hq : n - 1 ≤ q) : DS f g c us L n goals INF (rln f g c us L q w0) := by
  have hn := h.2.2.2.1
  obtain ⟨Q, hQ⟩ := lim_ex h w0 (us := us)
  have hS := stb_fix h hQ
  have hA0 : AT f g c us L n goals INF w0 := by
    intro v hv
    rw [h0 v hv]
    cases hb : goals.testBit v
    · exact Or.inl rfl
    · exact Or.inr (Or.inl ⟨rfl, rfl⟩)
  have hA := hA0.rn h Q
  have hle : ∀ q j, rln f g c us L Q w0 j ≤ rln f g c us L q w0 j := rln_lb h hS (rln_dn h w0 Q)
  have hI : ∀ q v, v < n → rln f g c us L q w0 v ≤ INF := by
    intro q v hv
    have h1 := rln_dn h w0 (us := us) q v
    rw [h0 v hv] at h1
    split at h1 <;> omega
  have hE : ∀ v, v < n → rln f g c us L Q w0 v = INF ∨ (goals.testBit v = true ∧ rln f g c us L Q w0 v = 0) ∨ ∃ k u, UL us L k ∧ JN f g k v u ∧ rln f g c us L Q w0 v = rln f g c us L Q w0 u + wtK c k := by
    intro v hv
    rcases hA v hv with h1 | h1 | ⟨k, u, h1, h2, h3⟩
    · exact Or.inl h1
    · exact Or.inr (Or.inl h1)
    · exact Or.inr (Or.inr ⟨k, u, h1, h2, Nat.le_antisymm (hS k u v h1 h2.sy) h3⟩)
  have bf : ∀ q v, v < n → cnB (fun u => decide (rln f g c us L Q w0 u < rln f g c us L Q w0 v)) n ≤ q → rln f g c us L q w0 v = rln f g c us L Q w0 v := by
    intro q
    induction q with
    | zero =>
      intro v hv hc
      refine Nat.le_antisymm ?_ (hle 0 v)
      show w0 v ≤ _
      rcases hE v hv with h1 | h1 | ⟨k, u, h1, h2, h3⟩
      · rw [h1]; exact hI 0 v hv
      · rw [h0 v hv, h1.1]; exact Nat.zero_le _
      · exfalso
        have e9 : wtK c k = c k * 16 + 1 := rfl
        have hu := (h.jn h1.1 h2).2.1
        have := cnB_lt (p := fun _ => false) (q := fun u => decide (rln f g c us L Q w0 u < rln f g c us L Q w0 v)) (i := u) rfl (decide_eq_true (by omega)) n hu (fun _ _ h => by cases h)
        omega
    | succ q ih =>
      intro v hv hc
      refine Nat.le_antisymm ?_ (hle (q + 1) v)
      rcases hE v hv with h1 | h1 | ⟨k, u, h1, h2, h3⟩
      · rw [h1]; exact hI (q + 1) v hv
      · have := rln_dn h w0 (us := us) (q + 1) v
        rw [h0 v hv, h1.1] at this
        have e : (if true = true then 0 else INF) = 0 := rfl
        omega
      · have e9 : wtK c k = c k * 16 + 1 := rfl
        have hu := (h.jn h1.1 h2).2.1
        have hlt := cnB_lt (p := fun x => decide (rln f g c us L Q w0 x < rln f g c us L Q w0 u)) (q := fun x => decide (rln f g c us L Q w0 x < rln f g c us L Q w0 v)) (i := u) (decide_eq_false (by omega)) (decide_eq_true (by omega)) n hu (fun x _ hx => decide_eq_true (by have := of_decide_eq_true hx; omega))
        have hu2 := ih u hu (by omega)
        have r1 := rlx_rel h (rln f g c us L q w0) h1 h2.sy
        have r2 := rlx_st h (rln f g c us L q w0) (us := us) L (Nat.le_refl _) (by have := h1.1; omega : k + 1 ≤ L) v
        have r3 := rlx_dn h (rln f g c us L q w0) (us := us) k (by have := h1.1; omega) u
        show rlx f g c us L (rln f g c us L q w0) v ≤ _
        omega
  have hall : ∀ v, v < n → rln f g c us L q w0 v = rln f g c us L Q w0 v := by
    intro v hv
    refine bf q v hv ?_
    have := cnB_lt (p := fun u => decide (rln f g c us L Q w0 u < rln f g c us L Q w0 v)) (q := fun _ => true) (i := v) (decide_eq_false (Nat.lt_irrefl _)) rfl n hv (fun _ _ _ => rfl)
    have h2 := cnB_le (fun _ => true) n
    omega
  refine ⟨?_, ?_, ?_, fun v hv => hI q v hv⟩
  · intro k u v hk hj
    have hn := h.jn hk.1 hj
    rw [hall v hn.2.1, hall u hn.1]
    exact hS k u v hk hj
  · intro v hv
    rw [hall v hv]
    rcases hE v hv with h1 | h1 | ⟨k, u, h1, h2, h3⟩
    · exact Or.inl h1
    · exact Or.inr (Or.inl h1)
    · refine Or.inr (Or.inr ⟨k, u, h1, h2, ?_⟩)
      rw [hall u (h.jn h1.1 h2).2.1]; exact h3
  · intro v hv hg
    have := rln_dn h w0 (us := us) q v
    rw [h0 v hv, hg] at this
    have e : (if true = true then 0 else INF) = 0 := rfl
    omega
/-- they are what they are -/
theorem DS.le (h : GH f g c L n src) {goals I1 I2 : Nat} {w1 w2 : Nat → Nat} (d1 : DS f g c us L n goals I1 w1) (d2 : DS f g c us L n goals I2 w2) : ∀ m v, v < n → w1 v ≤ m → w1 v < I1 → w2 v ≤ w1 v := by
  intro m
  induction m with
  | zero =>
    intro v hv hm hI
    rcases d1.2.1 v hv with h1 | h1 | ⟨k, u, h1, h2, h3⟩
    · omega
    · rw [d2.2.2.1 v hv h1.1]; exact Nat.zero_le _
    · have : wtK c k = c k * 16 + 1 := rfl
      omega
  | succ m ih =>
    intro v hv hm hI
    rcases d1.2.1 v hv with h1 | h1 | ⟨k, u, h1, h2, h3⟩
    · omega
    · rw [d2.2.2.1 v hv h1.1]; exact Nat.zero_le _
    · have e : wtK c k = c k * 16 + 1 := rfl
      have := ih u (h.jn h1.1 h2).2.1 (by omega) (by omega)
      have h5 := d2.1 k u v h1 h2.sy
      omega
theorem DS.bd (h : GH f g c L n src) {goals INF : Nat} {w : Nat → Nat} (d : DS f g c us L n goals INF w) {v : Nat} (hv : v < n) (hI : w v < INF) : w v ≤ 870 ∧ w v % 16 ≤ 6 := by
  have key : ∀ m, m ≤ 6 → ∀ v, v < n → w v < INF → cnB (fun u => decide (w u < w v)) n ≤ m → w v ≤ 145 * m ∧ w v % 16 ≤ m := by
    intro m
    induction m with
    | zero =>
      intro _ v hv hI hc
      rcases d.2.1 v hv with h1 | h1 | ⟨k, u, h1, h2, h3⟩
      · omega
      · rw [h1.2]; decide
      · exfalso
        have e : wtK c k = c k * 16 + 1 := rfl
        have hu := (h.jn h1.1 h2).2.1
        have := cnB_lt (p := fun _ => false) (q := fun u => decide (w u < w v)) (i := u) rfl (decide_eq_true (by omega)) n hu (fun _ _ h => by cases h)
        omega
    | succ m ih =>
      intro hm v hv hI hc
      rcases d.2.1 v hv with h1 | h1 | ⟨k, u, h1, h2, h3⟩
      · omega
      · rw [h1.2]; omega
      · have e : wtK c k = c k * 16 + 1 := rfl
        have hu := (h.jn h1.1 h2).2.1
        have hc9 := (h.2.2.2.2.2.2 k h1.1).2.2.2.2
        have hlt := cnB_lt (p := fun x => decide (w x < w u)) (q := fun x => decide (w x < w v)) (i := u) (decide_eq_false (by omega)) (decide_eq_true (by omega)) n hu (fun x _ hx => decide_eq_true (by have := of_decide_eq_true hx; omega))
        have := ih (by omega) u hu (by omega) (by omega)
        omega
  have h1 := cnB_lt (p := fun u => decide (w u < w v)) (q := fun _ => true) (i := v) (decide_eq_false (Nat.lt_irrefl _)) rfl n hv (fun _ _ _ => rfl)
  have h2 := cnB_le (fun _ => true) n
  have h3 := h.2.2.2.2.1
  have := key 6 (Nat.le_refl _) v hv hI (by omega)
  omega
theorem DS.pos (h : GH f g c L n src) {goals INF : Nat} {w : Nat → Nat} (d : DS f g c us L n goals INF w) {v : Nat} (hv : v < n) (hI : w v < INF) (h0 : w v % 16 = 0) : w v = 0 := by
  rcases d.2.1 v hv with h1 | h1 | ⟨k, u, h1, h2, h3⟩
  · omega
  · exact h1.2
  · have e : wtK c k = c k * 16 + 1 := rfl
    have := d.bd h (h.jn h1.1 h2).2.1 (by omega)
    omega
/-- the same weights, whatever stands for none -/
theorem DS.same (h : GH f g c L n src) {goals I1 I2 : Nat} {w1 w2 : Nat → Nat} (d1 : DS f g c us L n goals I1 w1) (d2 : DS f g c us L n goals I2 w2) (h1 : 870 < I1) (h2 : 870 < I2) {v : Nat} (hv : v < n) : (w1 v < I1 ∧ w2 v < I2 ∧ w1 v = w2 v ∧ w1 v ≤ 870) ∨ (w1 v = I1 ∧ w2 v = I2) := by
  by_cases e1 : w1 v < I1
  · have b := d1.bd h hv e1
    have l := d1.le h d2 _ v hv (Nat.le_refl _) e1
    have l2 := d2.le h d1 _ v hv (Nat.le_refl _) (by omega)
    left; omega
  · by_cases e2 : w2 v < I2
    · have b := d2.bd h hv e2
      have l := d2.le h d1 _ v hv (Nat.le_refl _) e2
      omega
    · have := d1.2.2.2 v hv
      have := d2.2.2.2 v hv
      right; omega
/-- from every node that hangs together with a goal there is a way -/
theorem DS.fin (h : GH f g c L n src) {goals INF : Nat} {w : Nat → Nat} (d : DS f g c us L n goals INF w) (hI : 1015 < INF) {s : Nat} (hX : ∀ k, k < L → s.testBit k = true → us.testBit k = true) (hg : goals.testBit src = true) {v : Nat} (hv : (clo f g s L src).testBit v = true) : w v < INF := by
  have key : ∀ q i, (hgn f g s L q (2 ^ src)).testBit i = true → i < n ∧ w i < INF := by
    have stepK : ∀ x, (∀ i, x.testBit i = true → i < n ∧ w i < INF) → ∀ k, k ≤ L → ∀ i, (hgr f g s k x).testBit i = true → i < n ∧ w i < INF := by
      intro x hx k
      induction k with
      | zero => intro _ i hi; exact hx i hi
      | succ k ih =>
        intro hk i hi
        have ih := ih (by omega)
        rw [hgr] at hi
        split at hi
        · rename_i h2
          rcases obb.mp hi with h3 | h3
          · exact ih i h3
          · have hc9 := (h.2.2.2.2.2.2 k (by omega)).2.2.2.2
            have hu : UL us L k := ⟨by omega, hX k (by omega) h2.1⟩
            have both : (f k < n ∧ w (f k) < INF) ∧ (g k < n ∧ w (g k) < INF) := by
              rcases ed_and.mp h2.2 with h4 | h4
              · have a := ih _ h4
                have b := d.bd h a.1 a.2
                have s1 := d.1 k _ _ hu (JN.fg f g k)
                have e : wtK c k = c k * 16 + 1 := rfl
                exact ⟨a, (h.jn (by omega : k < L) (JN.fg f g k)).2.1, by omega⟩
              · have a := ih _ h4
                have b := d.bd h a.1 a.2
                have s1 := d.1 k _ _ hu (JN.gf f g k)
                have e : wtK c k = c k * 16 + 1 := rfl
                exact ⟨⟨(h.jn (by omega : k < L) (JN.fg f g k)).1, by omega⟩, a⟩
            rcases eb.mp h3 with h5 | h5
            · rw [← h5]; exact both.1
            · rw [← h5]; exact both.2
        · exact ih i hi
    intro q
    induction q with
    | zero =>
      intro i hi
      have : (2 ^ src).testBit i = true := hi
      rw [Nat.testBit_two_pow] at this
      have := of_decide_eq_true this
      subst this
      have hs := h.2.2.2.2.2.1
      rw [d.2.2.1 _ hs hg]
      exact ⟨hs, by omega⟩
    | succ q ih => exact stepK _ ih L (Nat.le_refl _)
  exact (key 1024 v hv).2
theorem ini_bit (goals : Nat) : ∀ n v, v < n → ini goals n v = if goals.testBit v then 0 else 1048576 := by
  have hi : ∀ n v, n ≤ v → ini goals n v = 1048576 := by
    intro n
    induction n with
    | zero => intro v _; rfl
    | succ n ih =>
      intro v hv
      rw [ini]
      split
      · rw [va_up_ne _ _ (by omega)]; exact ih v (by omega)
      · exact ih v (by omega)
  intro n
  induction n with
  | zero => intro v hv; exact absurd hv (Nat.not_lt_zero _)
  | succ n ih =>
    intro v hv
    rw [ini]
    by_cases e : v = n
    · subst e
      cases hb : goals.testBit v
      · exact hi v v (Nat.le_refl _)
      · exact va_up_self _ _ _
    · split
      · rw [va_up_ne _ _ e]; exact ih v (by omega)
      · exact ih v (by omega)
theorem wtN_ds (h : GH f g c L n src) (us goals : Nat) : DS f g c us L n goals 1048576 (wtN f g c us L n goals) := rln_ds h (fun v hv => ini_bit goals n v hv) (Nat.le_refl _)
theorem mIn_bit (goals : Nat) (aw : Nat → Nat) : ∀ n v, v < n → mIn goals aw n v = if goals.testBit v then 0 else 1000000 := by
  intro n
  induction n with
  | zero => intro v hv; exact absurd hv (Nat.not_lt_zero _)
  | succ n ih =>
    intro v hv
    rw [mIn]
    by_cases e : v = n
    · subst e; exact va_up_self _ _ _
    · rw [va_up_ne _ _ e]; exact ih v (by omega)
theorem mRl_rlx {dn : Nat} (hud : ∀ k, k < L → us.testBit k = !dn.testBit k) {w : Nat → Nat} (hw : ∀ j, w j ≤ 1000000) : ∀ k, k ≤ L → mRl f g c dn k w = rlx f g c us k w
  | 0, _ => rfl
  | k + 1, hk => by
    have ih := mRl_rlx hud hw k (by omega)
    have hu := hud k (by omega)
    unfold mRl rlx
    rw [ih]
    unfold stN
    cases hd : dn.testBit k
    · rw [hd] at hu
      rw [hu]
      have e : 16 * c k + 1 = c k * 16 + 1 := by omega
      simp [e]
    · rw [hd] at hu
      rw [hu]
      have hle := rlx_le (f := f) (g := g) (c := c) (us := us) hw k
      simp only [Bool.not_true, if_true]
      funext j
      have e1 : min (rlx f g c us k w (f k)) (rlx f g c us k w (g k) + 1000000) = rlx f g c us k w (f k) := Nat.min_eq_left (by have := hle (f k); omega)
      have e2 : va_up (rlx f g c us k w) (f k) (rlx f g c us k w (f k)) = rlx f g c us k w := by
        funext i
        unfold va_up
        split
        · rename_i h; rw [h]
        · rfl
      unfold shr
      rw [e1, e2]
      have e3 : min (rlx f g c us k w (g k)) (rlx f g c us k w (f k) + 1000000) = rlx f g c us k w (g k) := Nat.min_eq_left (by have := hle (g k); omega)
      rw [e3]
      unfold va_up
      split
      · rename_i h; rw [h]; simp
      · simp
theorem mRn_rln {dn : Nat} (hud : ∀ k, k < L → us.testBit k = !dn.testBit k) {w : Nat → Nat} (hw : ∀ j, w j ≤ 1000000) : ∀ q, mRn f g c dn L q w = rln f g c us L q w
  | 0 => rfl
  | q + 1 => by
    have ih := mRn_rln hud hw q
    unfold mRn rln
    rw [ih]
    exact mRl_rlx hud (rln_le hw q) L (Nat.le_refl _)
theorem W0_ds (h : GH f g c L n src) {dn : Nat} (hud : ∀ k, k < L → us.testBit k = !dn.testBit k) (goals : Nat) : DS f g c us L n goals 1000000 (W0 f g c dn L n goals) := by
  unfold W0 mesN
  rw [mRn_rln hud (mIn_le (fun _ => Nat.le_refl _) n)]
  exact rln_ds h (fun v hv => mIn_bit goals _ n v hv) (by omega)
end WY
