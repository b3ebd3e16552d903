/-! the reference: more words -/
theorem nI_n9 {n : Nat} (h : n < 2 ^ 31) : nI n ≠ -9 := by
  intro h9
  exact absurd (show nI n < 0 by rw [h9]; decide) (nI_pos h)
theorem nlS_none {f g c w : Nat → Nat} {dn v k : Nat} (h : byO f g k v = none) : nlS f g c w dn v (k + 1) = nlS f g c w dn v k := by
  rw [nlS, h]
theorem nlS_yes {f g c w : Nat → Nat} {dn v k b : Nat} (h : byO f g k v = some b) (h1 : dn.testBit k = false) (h2 : w b + 16 * c k + 1 = w v) (h3 : b < (nlS f g c w dn v k).2) : nlS f g c w dn v (k + 1) = (some k, b) := by
  rw [nlS, h]
  exact if_pos ⟨h1, h2, h3⟩
theorem nlS_no {f g c w : Nat → Nat} {dn v k b : Nat} (h : byO f g k v = some b) (h1 : ¬ (dn.testBit k = false ∧ w b + 16 * c k + 1 = w v ∧ b < (nlS f g c w dn v k).2)) : nlS f g c w dn v (k + 1) = nlS f g c w dn v k := by
  rw [nlS, h]
  exact if_neg h1
theorem byO_lt {f g : Nat → Nat} {N k v b : Nat} (hf : f k < N) (hg : g k < N) (h : byO f g k v = some b) : b < N := by
  unfold byO at h
  split at h
  · cases h; exact hg
  · split at h
    · cases h; exact hf
    · cases h
theorem stN_le {c : Nat → Nat} (hc : ∀ j, c j ≤ 9) (dn k : Nat) : stN c dn k ≤ 1000000 := by
  have := hc k
  unfold stN
  split <;> omega
theorem wfM_go {f g c w : Nat → Nat} {dn L m v set k b : Nat} (h0 : 0 < w v) (h1 : nlO f g c w dn L v = some k) (h2 : byO f g k v = some b) : wfM f g c w dn L (m + 1) v set = wfM f g c w dn L m b (set ||| 2 ^ k) := by
  rw [wfM, if_neg (by omega), h1]
  simp only [h2]
theorem wfM_at {f g c w : Nat → Nat} {dn L m v set : Nat} (h0 : w v = 0) : wfM f g c w dn L m v set = set := by
  cases m with
  | zero => rfl
  | succ m => rw [wfM, if_pos h0]
/-- pruning: how many links of a set are at a node, the last of them; a round; rounds -/
def mpS (f g : Nat → Nat) (set v : Nat) : Nat → Nat × Option Nat
  | 0 => (0, none)
  | k + 1 => if set.testBit k = true ∧ byO f g k v ≠ none then ((mpS f g set v k).1 + 1, some k) else mpS f g set v k
theorem mpS_le (f g : Nat → Nat) (set v : Nat) : ∀ k, (mpS f g set v k).1 ≤ k
  | 0 => Nat.le_refl _
  | k + 1 => by
    have h := mpS_le f g set v k
    unfold mpS
    split
    · show _ + 1 ≤ _; omega
    · omega
theorem mpS_some {f g : Nat → Nat} {set v : Nat} : ∀ {k : Nat}, (mpS f g set v k).1 = 1 → ∃ j, (mpS f g set v k).2 = some j ∧ j < k ∧ set.testBit j = true
  | 0, h => by cases h
  | k + 1, h => by
    unfold mpS at h ⊢
    split at h
    · rename_i h2
      rw [if_pos h2]
      exact ⟨k, rfl, by omega, h2.1⟩
    · rename_i h2
      rw [if_neg h2]
      obtain ⟨j, h3, h4, h5⟩ := mpS_some h
      exact ⟨j, h3, by omega, h5⟩
def mpR (f g : Nat → Nat) (L src mem set : Nat) : Nat → Nat × Nat
  | 0 => (set, 0)
  | v + 1 => if (mpS f g (mpR f g L src mem set v).1 v L).1 = 1 ∧ v ≠ src ∧ mem.testBit v = false then (nd (mpR f g L src mem set v).1 (2 ^ ((mpS f g (mpR f g L src mem set v).1 v L).2.getD 0)), 1) else mpR f g L src mem set v
theorem nd_lt {a j : Nat} (h : a.testBit j = true) : nd a (2 ^ j) < a := by
  have h1 := nd_le a (2 ^ j)
  rcases Nat.lt_or_eq_of_le h1 with h2 | h2
  · exact h2
  · have h3 := nd_bit a (2 ^ j) j
    rw [h2, h, Nat.testBit_two_pow_self] at h3
    cases h3
theorem mpR_le (f g : Nat → Nat) (L src mem set : Nat) : ∀ v, (mpR f g L src mem set v).1 ≤ set ∧ (mpR f g L src mem set v).2 ≤ 1 ∧ ((mpR f g L src mem set v).2 = 1 → (mpR f g L src mem set v).1 < set)
  | 0 => ⟨Nat.le_refl _, Nat.zero_le _, fun h => by cases h⟩
  | v + 1 => by
    have h := mpR_le f g L src mem set v
    unfold mpR
    split
    · rename_i h2
      obtain ⟨j, h3, h4, h5⟩ := mpS_some h2.1
      rw [h3]
      have h6 := nd_lt h5
      refine ⟨?_, Nat.le_refl _, fun _ => ?_⟩
      · show nd _ (2 ^ j) ≤ set; omega
      · show nd _ (2 ^ j) < set; omega
    · exact h
def mpN (f g : Nat → Nat) (L n src mem : Nat) : Nat → Nat → Nat
  | 0, set => set
  | m + 1, set => if (mpR f g L src mem set n).2 = 0 then (mpR f g L src mem set n).1 else mpN f g L n src mem m (mpR f g L src mem set n).1
theorem mpN_le (f g : Nat → Nat) (L n src mem : Nat) : ∀ m set, mpN f g L n src mem m set ≤ set
  | 0, _ => Nat.le_refl _
  | m + 1, set => by
    have h := mpR_le f g L src mem set n
    have h2 := mpN_le f g L n src mem m (mpR f g L src mem set n).1
    unfold mpN
    split <;> omega
/-- ends of links are nodes -/
def EN (f g : Nat → Nat) (L n : Nat) : Prop := ∀ k, k < L → f k < n ∧ g k < n
/-- how far nodes are, whatever was noted before -/
def W0 (f g c : Nat → Nat) (dn L n goals : Nat) : Nat → Nat := mesN f g c dn L n goals (fun _ => 1000000)
theorem mIn_ag {goals : Nat} {aw aw2 : Nat → Nat} : ∀ v j, j < v → mIn goals aw v j = mIn goals aw2 v j
  | 0, _, h => absurd h (Nat.not_lt_zero _)
  | v + 1, j, h => by
    unfold mIn va_up
    by_cases e : j = v
    · rw [if_pos e, if_pos e]
    · rw [if_neg e, if_neg e]
      exact mIn_ag v j (by omega)
theorem shr_ag {w w2 : Nat → Nat} {x y st n : Nat} (hx : x < n) (hy : y < n) (h : ∀ j, j < n → w j = w2 j) : ∀ j, j < n → shr w x y st j = shr w2 x y st j := by
  have h1 : ∀ j, j < n → va_up w x (min (w x) (w y + st)) j = va_up w2 x (min (w2 x) (w2 y + st)) j := by
    intro j hj
    unfold va_up
    rw [h x hx, h y hy, h j hj]
  intro j hj
  unfold shr
  have e1 := h1 y hy
  have e2 := h1 x hx
  have e3 := h1 j hj
  rw [e1, e2]
  unfold va_up at e3 ⊢
  rw [e3]
theorem mRl_ag {f g c : Nat → Nat} {dn n : Nat} {w w2 : Nat → Nat} (h : ∀ j, j < n → w j = w2 j) : ∀ k, (∀ i, i < k → f i < n ∧ g i < n) → ∀ j, j < n → mRl f g c dn k w j = mRl f g c dn k w2 j
  | 0, _ => h
  | k + 1, he => by
    have ih := mRl_ag h k (fun i hi => he i (by omega)) (f := f) (g := g) (c := c) (dn := dn)
    have e := he k (by omega)
    exact shr_ag e.1 e.2 ih
theorem mRn_ag {f g c : Nat → Nat} {dn L n : Nat} {w w2 : Nat → Nat} (he : EN f g L n) (h : ∀ j, j < n → w j = w2 j) : ∀ q j, j < n → mRn f g c dn L q w j = mRn f g c dn L q w2 j
  | 0 => h
  | q + 1 => mRl_ag (mRn_ag he h q) L he
theorem mes_ag {f g c : Nat → Nat} {dn L n goals : Nat} (he : EN f g L n) (aw : Nat → Nat) : ∀ j, j < n → mesN f g c dn L n goals aw j = W0 f g c dn L n goals j := mRn_ag he (fun j hj => mIn_ag n j hj) n
theorem W0_le (f g c : Nat → Nat) (dn L n goals : Nat) : ∀ j, W0 f g c dn L n goals j ≤ 1000000 := mesN_le (fun _ => Nat.le_refl _)
theorem nlS_ag {f g c w w2 : Nat → Nat} {dn n v : Nat} (hv : v < n) (h : ∀ j, j < n → w j = w2 j) : ∀ k, (∀ i, i < k → f i < n ∧ g i < n) → nlS f g c w dn v k = nlS f g c w2 dn v k
  | 0, _ => rfl
  | k + 1, he => by
    have ih := nlS_ag hv h k (fun i hi => he i (by omega)) (f := f) (g := g) (c := c) (dn := dn)
    have e := he k (by omega)
    unfold nlS
    cases hb : byO f g k v with
    | none => exact ih
    | some b =>
      have := byO_lt e.1 e.2 hb
      simp only [ih, h v hv, h b this]
theorem nlO_ag {f g c w w2 : Nat → Nat} {dn L n v : Nat} (he : EN f g L n) (hv : v < n) (h : ∀ j, j < n → w j = w2 j) : nlO f g c w dn L v = nlO f g c w2 dn L v := by
  unfold nlO
  rw [nlS_ag hv h L he]
theorem wfM_ag {f g c w w2 : Nat → Nat} {dn L n : Nat} (he : EN f g L n) (h : ∀ j, j < n → w j = w2 j) : ∀ m v set, v < n → wfM f g c w dn L m v set = wfM f g c w2 dn L m v set
  | 0, _, _, _ => rfl
  | m + 1, v, set, hv => by
    unfold wfM
    rw [h v hv, nlO_ag he hv h]
    split
    · rfl
    · split
      · rfl
      · rename_i k hk
        split
        · rfl
        · rename_i b hb
          have e := he k (nlS_lt hk)
          exact wfM_ag he h m b _ (byO_lt e.1 e.2 hb)
theorem WOK_ag {f g c w w2 : Nat → Nat} {dn L n : Nat} (he : EN f g L n) (h : ∀ j, j < n → w j = w2 j) (hw : WOK f g c w2 dn L n) : WOK f g c w dn L n := by
  intro v hv h1 h2
  rw [h v hv] at h1 h2 ⊢
  obtain ⟨k, b, h3, h4, h5, h6⟩ := hw v hv h1 h2
  refine ⟨k, b, ?_, h4, h5, ?_⟩
  · rw [nlO_ag he hv h]; exact h3
  · rw [h b h5]; exact h6
/-- of some nodes the nearest, of the first v -/
def maS (w : Nat → Nat) (left : Nat) : Nat → Option Nat
  | 0 => none
  | v + 1 => match maS w left v with
    | none => if left.testBit v = true then some v else none
    | some u => if left.testBit v = true ∧ w v / 16 < w u / 16 then some v else some u
theorem maS_lt {w : Nat → Nat} {left : Nat} : ∀ {v u : Nat}, maS w left v = some u → u < v ∧ left.testBit u = true
  | 0, u, h => by cases h
  | v + 1, u, h => by
    rw [maS] at h
    cases h1 : maS w left v with
    | none =>
      rw [h1] at h
      dsimp only at h
      split at h
      · cases h; rename_i h2; exact ⟨by omega, h2⟩
      · cases h
    | some y =>
      rw [h1] at h
      have h3 := maS_lt h1
      dsimp only at h
      split at h
      · cases h; rename_i h2; exact ⟨by omega, h2.1⟩
      · cases h; exact ⟨by omega, h3.2⟩
/-- the members that a tree leaves out; the links that bring the next -/
def leF (f g : Nat → Nat) (L src mem t : Nat) : Nat := nd mem (clo f g t L src)
def wyM (f g c : Nat → Nat) (dn L n src t v : Nat) : Nat := wfM f g c (W0 f g c dn L n (clo f g t L src)) dn L 1000000 v 0
def mnN (f g c : Nat → Nat) (dn L n src mem : Nat) : Nat → Nat → Nat
  | 0, t => t
  | m + 1, t => if leF f g L src mem t = 0 then t else match maS (W0 f g c dn L n (clo f g t L src)) (leF f g L src mem t) n with
    | none => t
    | some v => mnN f g c dn L n src mem m (t ||| wyM f g c dn L n src t v)
/-- what making a tree anew needs, so that it comes to an end -/
def AnOK (f g c : Nat → Nat) (dn L n src mem : Nat) : Prop := ∃ PA : Nat → Prop, PA 0 ∧ ∀ t, t < 4096 → PA t → leF f g L src mem t ≠ 0 → ∃ v, maS (W0 f g c dn L n (clo f g t L src)) (leF f g L src mem t) n = some v ∧ W0 f g c dn L n (clo f g t L src) v < 1000000 ∧ WOK f g c (W0 f g c dn L n (clo f g t L src)) dn L n ∧ PA (t ||| wyM f g c dn L n src t v) ∧ leF f g L src mem (t ||| wyM f g c dn L n src t v) < leF f g L src mem t
theorem mnN_go {f g c : Nat → Nat} {dn L n src mem m t v : Nat} (h0 : leF f g L src mem t ≠ 0) (h : maS (W0 f g c dn L n (clo f g t L src)) (leF f g L src mem t) n = some v) : mnN f g c dn L n src mem (m + 1) t = mnN f g c dn L n src mem m (t ||| wyM f g c dn L n src t v) := by
  rw [mnN, if_neg h0, h]
theorem mnN_end {f g c : Nat → Nat} {dn L n src mem m t : Nat} (h0 : leF f g L src mem t = 0) : mnN f g c dn L n src mem m t = t := by
  cases m with
  | zero => rfl
  | succ m => rw [mnN, if_pos h0]
theorem mnN_lt {f g c : Nat → Nat} {dn L n src mem : Nat} (hL : L ≤ 12) : ∀ m t, t < 4096 → mnN f g c dn L n src mem m t < 4096
  | 0, _, h => h
  | m + 1, t, h => by
    unfold mnN
    split
    · exact h
    · split
      · exact h
      · exact mnN_lt hL m _ (or_lt (n := 12) h (wfM_lt hL _ _ _ (by decide)))
/-- moves of arrays -/
def shP (pa : Nat → Nat) (k : Nat) : Nat → Nat := fun j => if j < k then pa (j + 52) else pa j
theorem shP_0 (pa : Nat → Nat) : shP pa 0 = pa := by
  funext j; simp [shP]
theorem shP_s (pa : Nat → Nat) (k : Nat) : va_up (shP pa k) k (shP pa k (k + 52)) = shP pa (k + 1) := by
  funext j
  unfold va_up shP
  by_cases e : j = k
  · subst e; rw [if_pos rfl, if_neg (by omega), if_pos (by omega)]
  · by_cases h : j < k
    · simp [e, h, Nat.lt_succ_of_lt h]
    · have : ¬ j < k + 1 := by omega
      simp [e, h, this]
def coP (pa s : Nat → Nat) (b k : Nat) : Nat → Nat := fun j => if b ≤ j ∧ j < b + k then s (j - b) else pa j
theorem coP_0 (pa s : Nat → Nat) (b : Nat) : coP pa s b 0 = pa := by
  funext j; unfold coP; rw [if_neg (by omega)]
theorem coP_s (pa s : Nat → Nat) (b k : Nat) : va_up (coP pa s b k) (b + k) (s k) = coP pa s b (k + 1) := by
  funext j
  unfold va_up coP
  by_cases e : j = b + k
  · subst e
    rw [if_pos rfl, if_pos (by omega)]
    congr 1; omega
  · rw [if_neg e]
    by_cases h : b ≤ j ∧ j < b + k
    · rw [if_pos h, if_pos (by omega)]
    · rw [if_neg h, if_neg (by omega)]
/-- s got from a row of another array -/
def geP (s pa : Nat → Nat) (b k : Nat) : Nat → Nat := fun j => if j < k then pa (b + j) else s j
theorem geP_0 (s pa : Nat → Nat) (b : Nat) : geP s pa b 0 = s := by
  funext j; simp [geP]
theorem geP_s (s pa : Nat → Nat) (b k : Nat) : va_up (geP s pa b k) k (pa (b + k)) = geP s pa b (k + 1) := by
  funext j
  unfold va_up geP
  by_cases e : j = k
  · subst e; simp
  · by_cases h : j < k
    · simp [e, h, Nat.lt_succ_of_lt h]
    · have : ¬ j < k + 1 := by omega
      simp [e, h, this]
def ntU (u : Nat) : Nat := if u = 6 then 5 else u
def ntP (pa s : Nat → Nat) (u : Nat) : Nat → Nat := coP (if u = 6 then shP pa 260 else pa) s (52 * ntU u) 52
/-- the last place of v among the first k -/
def mmF (m : Nat → Nat) (v : Nat) : Nat → Option Nat
  | 0 => none
  | k + 1 => if m k = v then some k else mmF m v k
theorem mmF_lt {m : Nat → Nat} {v : Nat} : ∀ {k j : Nat}, mmF m v k = some j → j < k ∧ m j = v
  | 0, j, h => by cases h
  | k + 1, j, h => by
    unfold mmF at h
    split at h
    · cases h; rename_i h2; exact ⟨by omega, h2⟩
    · have := mmF_lt h; exact ⟨by omega, this.2⟩
def brS (s : Nat → Nat) (k : Nat) : Nat → Nat := fun j => if 8 ≤ j ∧ j < 8 + k then 0 else s j
theorem brS_0 (s : Nat → Nat) : brS s 0 = s := by
  funext j; unfold brS; rw [if_neg (by omega)]
theorem brS_s (s : Nat → Nat) (k : Nat) : va_up (brS s k) (8 + k) 0 = brS s (k + 1) := by
  funext j
  unfold va_up brS
  by_cases e : j = 8 + k
  · subst e; rw [if_pos rfl, if_pos (by omega)]
  · rw [if_neg e]
    by_cases h : 8 ≤ j ∧ j < 8 + k
    · rw [if_pos h, if_pos (by omega)]
    · rw [if_neg h, if_neg (by omega)]
def baS (s : Nat → Nat) : Nat → Nat := va_up (brS s 7) 7 0
def shM (s : Nat → Nat) (b k : Nat) : Nat → Nat := fun j => if b ≤ j ∧ j < b + k then s (j + 1) else s j
theorem shM_0 (s : Nat → Nat) (b : Nat) : shM s b 0 = s := by
  funext j; unfold shM; rw [if_neg (by omega)]
theorem shM_s (s : Nat → Nat) (b k : Nat) : va_up (shM s b k) (b + k) (shM s b k (b + k + 1)) = shM s b (k + 1) := by
  funext j
  unfold va_up
  have h0 : shM s b k (b + k + 1) = s (b + k + 1) := by unfold shM; rw [if_neg (by omega)]
  rw [h0]
  unfold shM
  by_cases e : j = b + k
  · subst e
    rw [if_pos rfl, if_pos (by omega)]
  · rw [if_neg e]
    by_cases h : b ≤ j ∧ j < b + k
    · rw [if_pos h, if_pos (by omega)]
    · rw [if_neg h, if_neg (by omega)]
/-- a mark turned -/
def mtS (s : Nat → Nat) (v : Nat) : Nat → Nat := match mmF (sm s) v (s 7) with
  | none => va_up (va_up s (8 + s 7) v) 7 (s 7 + 1)
  | some j => va_up (va_up (shM s (8 + j) (s 7 - 1 - j)) 7 (s 7 - 1)) (8 + (s 7 - 1)) 0
