/-! both read alike -/
theorem nI_ij {a b : Nat} (ha : a < 2 ^ 31) (hb : b < 2 ^ 31) (h : nI a = nI b) : a = b := by
  have h1 := nI_toInt ha
  have h2 := nI_toInt hb
  rw [h] at h1
  rw [h1] at h2
  exact Int.ofNat.inj h2
theorem runP_all {p : Nat → Bool} {len : Nat} : ∀ n j i, j ≤ i → i < runP p len n j → p i = true
  | 0, j, i, h1, h2 => by
    have : runP p len 0 j = j := rfl
    omega
  | n + 1, j, i, h1, h2 => by
    rw [runP] at h2
    split at h2
    · rename_i h3
      by_cases e : i = j
      · rw [e]; exact h3.2
      · exact runP_all n (j + 1) i (by omega) h2
    · omega
theorem cd_1 {te : Nat → Nat} {s m : Nat} (hm : m ≤ 6) (hL : ∀ j, j < m → 97 ≤ te (s + j) ∧ te (s + j) ≤ 122) : cdN te s m = 7738489 ↔ (m = 5 ∧ te (s + 0) = 110 ∧ te (s + 1) = 111 ∧ te (s + 2) = 100 ∧ te (s + 3) = 101 ∧ te (s + 4) = 115) := by
  have : m = 0 ∨ m = 1 ∨ m = 2 ∨ m = 3 ∨ m = 4 ∨ m = 5 ∨ m = 6 := by omega
  rcases this with rfl | rfl | rfl | rfl | rfl | rfl | rfl
  · simp only [cdN]; omega
  · have := hL 0 (by omega); simp only [cdN]; omega
  · have := hL 0 (by omega); have := hL 1 (by omega); simp only [cdN]; omega
  · have := hL 0 (by omega); have := hL 1 (by omega); have := hL 2 (by omega); simp only [cdN]; omega
  · have := hL 0 (by omega); have := hL 1 (by omega); have := hL 2 (by omega); have := hL 3 (by omega); simp only [cdN]; omega
  · have := hL 0 (by omega); have := hL 1 (by omega); have := hL 2 (by omega); have := hL 3 (by omega); have := hL 4 (by omega)
    have h0 : cdN te s 0 = 0 := rfl
    have h1 : cdN te s 1 = 27 * cdN te s 0 + te (s + 0) - 96 := rfl
    have h2 : cdN te s 2 = 27 * cdN te s 1 + te (s + 1) - 96 := rfl
    have h3 : cdN te s 3 = 27 * cdN te s 2 + te (s + 2) - 96 := rfl
    have h4 : cdN te s 4 = 27 * cdN te s 3 + te (s + 3) - 96 := rfl
    have h5 : cdN te s 5 = 27 * cdN te s 4 + te (s + 4) - 96 := rfl
    constructor
    · intro h; refine ⟨rfl, ?_, ?_, ?_, ?_, ?_⟩ <;> omega
    · intro h; omega
  · have := hL 0 (by omega); have := hL 1 (by omega); have := hL 2 (by omega); have := hL 3 (by omega); have := hL 4 (by omega); have := hL 5 (by omega); simp only [cdN]; omega
theorem cd_2 {te : Nat → Nat} {s m : Nat} (hm : m ≤ 6) (hL : ∀ j, j < m → 97 ≤ te (s + j) ∧ te (s + j) ≤ 122) : cdN te s m = 281027399 ↔ (m = 6 ∧ te (s + 0) = 115 ∧ te (s + 1) = 111 ∧ te (s + 2) = 117 ∧ te (s + 3) = 114 ∧ te (s + 4) = 99 ∧ te (s + 5) = 101) := by
  have : m = 0 ∨ m = 1 ∨ m = 2 ∨ m = 3 ∨ m = 4 ∨ m = 5 ∨ m = 6 := by omega
  rcases this with rfl | rfl | rfl | rfl | rfl | rfl | rfl
  · simp only [cdN]; omega
  · have := hL 0 (by omega); simp only [cdN]; omega
  · have := hL 0 (by omega); have := hL 1 (by omega); simp only [cdN]; omega
  · have := hL 0 (by omega); have := hL 1 (by omega); have := hL 2 (by omega); simp only [cdN]; omega
  · have := hL 0 (by omega); have := hL 1 (by omega); have := hL 2 (by omega); have := hL 3 (by omega); simp only [cdN]; omega
  · have := hL 0 (by omega); have := hL 1 (by omega); have := hL 2 (by omega); have := hL 3 (by omega); have := hL 4 (by omega); simp only [cdN]; omega
  · have := hL 0 (by omega); have := hL 1 (by omega); have := hL 2 (by omega); have := hL 3 (by omega); have := hL 4 (by omega); have := hL 5 (by omega)
    have h0 : cdN te s 0 = 0 := rfl
    have h1 : cdN te s 1 = 27 * cdN te s 0 + te (s + 0) - 96 := rfl
    have h2 : cdN te s 2 = 27 * cdN te s 1 + te (s + 1) - 96 := rfl
    have h3 : cdN te s 3 = 27 * cdN te s 2 + te (s + 2) - 96 := rfl
    have h4 : cdN te s 4 = 27 * cdN te s 3 + te (s + 3) - 96 := rfl
    have h5 : cdN te s 5 = 27 * cdN te s 4 + te (s + 4) - 96 := rfl
    have h6 : cdN te s 6 = 27 * cdN te s 5 + te (s + 5) - 96 := rfl
    constructor
    · intro h; refine ⟨rfl, ?_, ?_, ?_, ?_, ?_, ?_⟩ <;> omega
    · intro h; omega
theorem cd_3 {te : Nat → Nat} {s m : Nat} (hm : m ≤ 6) (hL : ∀ j, j < m → 97 ≤ te (s + j) ∧ te (s + j) ≤ 122) : cdN te s m = 6564179 ↔ (m = 5 ∧ te (s + 0) = 108 ∧ te (s + 1) = 105 ∧ te (s + 2) = 109 ∧ te (s + 3) = 105 ∧ te (s + 4) = 116) := by
  have : m = 0 ∨ m = 1 ∨ m = 2 ∨ m = 3 ∨ m = 4 ∨ m = 5 ∨ m = 6 := by omega
  rcases this with rfl | rfl | rfl | rfl | rfl | rfl | rfl
  · simp only [cdN]; omega
  · have := hL 0 (by omega); simp only [cdN]; omega
  · have := hL 0 (by omega); have := hL 1 (by omega); simp only [cdN]; omega
  · have := hL 0 (by omega); have := hL 1 (by omega); have := hL 2 (by omega); simp only [cdN]; omega
  · have := hL 0 (by omega); have := hL 1 (by omega); have := hL 2 (by omega); have := hL 3 (by omega); simp only [cdN]; omega
  · have := hL 0 (by omega); have := hL 1 (by omega); have := hL 2 (by omega); have := hL 3 (by omega); have := hL 4 (by omega)
    have h0 : cdN te s 0 = 0 := rfl
    have h1 : cdN te s 1 = 27 * cdN te s 0 + te (s + 0) - 96 := rfl
    have h2 : cdN te s 2 = 27 * cdN te s 1 + te (s + 1) - 96 := rfl
    have h3 : cdN te s 3 = 27 * cdN te s 2 + te (s + 2) - 96 := rfl
    have h4 : cdN te s 4 = 27 * cdN te s 3 + te (s + 3) - 96 := rfl
    have h5 : cdN te s 5 = 27 * cdN te s 4 + te (s + 4) - 96 := rfl
    constructor
    · intro h; refine ⟨rfl, ?_, ?_, ?_, ?_, ?_⟩ <;> omega
    · intro h; omega
  · have := hL 0 (by omega); have := hL 1 (by omega); have := hL 2 (by omega); have := hL 3 (by omega); have := hL 4 (by omega); have := hL 5 (by omega); simp only [cdN]; omega
theorem cd_4 {te : Nat → Nat} {s m : Nat} (hm : m ≤ 6) (hL : ∀ j, j < m → 97 ≤ te (s + j) ∧ te (s + j) ≤ 122) : cdN te s m = 243146 ↔ (m = 4 ∧ te (s + 0) = 108 ∧ te (s + 1) = 105 ∧ te (s + 2) = 110 ∧ te (s + 3) = 107) := by
  have : m = 0 ∨ m = 1 ∨ m = 2 ∨ m = 3 ∨ m = 4 ∨ m = 5 ∨ m = 6 := by omega
  rcases this with rfl | rfl | rfl | rfl | rfl | rfl | rfl
  · simp only [cdN]; omega
  · have := hL 0 (by omega); simp only [cdN]; omega
  · have := hL 0 (by omega); have := hL 1 (by omega); simp only [cdN]; omega
  · have := hL 0 (by omega); have := hL 1 (by omega); have := hL 2 (by omega); simp only [cdN]; omega
  · have := hL 0 (by omega); have := hL 1 (by omega); have := hL 2 (by omega); have := hL 3 (by omega)
    have h0 : cdN te s 0 = 0 := rfl
    have h1 : cdN te s 1 = 27 * cdN te s 0 + te (s + 0) - 96 := rfl
    have h2 : cdN te s 2 = 27 * cdN te s 1 + te (s + 1) - 96 := rfl
    have h3 : cdN te s 3 = 27 * cdN te s 2 + te (s + 2) - 96 := rfl
    have h4 : cdN te s 4 = 27 * cdN te s 3 + te (s + 3) - 96 := rfl
    constructor
    · intro h; refine ⟨rfl, ?_, ?_, ?_, ?_⟩ <;> omega
    · intro h; omega
  · have := hL 0 (by omega); have := hL 1 (by omega); have := hL 2 (by omega); have := hL 3 (by omega); have := hL 4 (by omega); simp only [cdN]; omega
  · have := hL 0 (by omega); have := hL 1 (by omega); have := hL 2 (by omega); have := hL 3 (by omega); have := hL 4 (by omega); have := hL 5 (by omega); simp only [cdN]; omega
theorem wcN_1 (c : Nat) : wcN c = 1 ↔ c = 7738489 := by
  unfold wcN
  split
  · omega
  · split
    · omega
    · split
      · omega
      · split <;> omega
theorem wcN_2 (c : Nat) : wcN c = 2 ↔ c = 281027399 := by
  unfold wcN
  split
  · omega
  · split
    · omega
    · split
      · omega
      · split <;> omega
theorem wcN_3 (c : Nat) : wcN c = 3 ↔ c = 6564179 := by
  unfold wcN
  split
  · omega
  · split
    · omega
    · split
      · omega
      · split <;> omega
theorem wcN_4 (c : Nat) : wcN c = 4 ↔ c = 243146 := by
  unfold wcN
  split
  · omega
  · split
    · omega
    · split
      · omega
      · split <;> omega
/-- the token that both look at -/
def TKR (tl zc zm : Nat → Nat) : Prop := zc 1 = zm 10 ∧ zc 2 = zm 11 ∧ zc 3 = zm 12 ∧ zc 4 = tK tl (zc 1) (zc 2) ∧ zm 13 = mK tl (zc 1) (zc 2) ∧ zc 3 = tE tl (zc 1) (zc 2) ∧ zc 2 ≤ zc 1 ∧ zc 3 ≤ zc 1
theorem tok_R {tl zc zm : Nat → Nat} (h1 : zc 1 = zm 10) (h3 : zc 3 = zm 12) (hle : zc 3 ≤ zc 1) : TKR tl (tok zc tl) (stZ tl zm) := by
  have a1 := tS_le (tl := tl) hle
  have a2 := tE_le (tl := tl) a1.2
  have e10 : (stZ tl zm) 10 = zm 10 := rfl
  have e11 : (stZ tl zm) 11 = tS tl (zm 10) (zm 12) := rfl
  have e12 : (stZ tl zm) 12 = tE tl (zm 10) (tS tl (zm 10) (zm 12)) := rfl
  have e13 : (stZ tl zm) 13 = mK tl (zm 10) (tS tl (zm 10) (zm 12)) := rfl
  have c1 : (tok zc tl) 1 = zc 1 := rfl
  have c2 : (tok zc tl) 2 = tS tl (zc 1) (zc 3) := rfl
  have c3 : (tok zc tl) 3 = tE tl (zc 1) (tS tl (zc 1) (zc 3)) := rfl
  have c4 : (tok zc tl) 4 = tK tl (zc 1) (tS tl (zc 1) (zc 3)) := rfl
  refine ⟨?_, ?_, ?_, ?_, ?_, ?_, ?_, ?_⟩
  · rw [c1, e10, h1]
  · rw [c2, e11, h1, h3]
  · rw [c3, e12, h1, h3]
  · rw [c4, c1, c2]
  · rw [e13, c1, c2, h1, h3]
  · rw [c3, c1, c2]
  · rw [c2, c1]; exact a1.2
  · rw [c3, c1]; exact a2.2
theorem TKR.word {tl zc zm : Nat → Nat} (h : TKR tl zc zm) : (zc 4 = 1 ∧ zm 13 = wdM tl (zc 2) (zc 3) ∧ ∀ j, zc 2 ≤ j → j < zc 3 → 97 ≤ tl j ∧ tl j ≤ 122) ∨ (zc 4 ≠ 1 ∧ zm 13 ≠ 1 ∧ zm 13 ≠ 2 ∧ zm 13 ≠ 3 ∧ zm 13 ≠ 4) := by
  obtain ⟨h1, h2, h3, h4, h5, h6, h7, h8⟩ := h
  rw [h4, h5]
  unfold tK mK
  by_cases e1 : zc 1 ≤ zc 2
  · rw [if_pos e1, if_pos e1]; right; decide
  · rw [if_neg e1, if_neg e1]
    by_cases e2 : isD tl (zc 2) = true
    · rw [if_pos e2, if_pos e2]
      right
      split <;> decide
    · rw [if_neg e2, if_neg e2]
      by_cases e3 : isL tl (zc 2) = true
      · rw [if_pos e3, if_pos e3]
        left
        refine ⟨rfl, by rw [h6], ?_⟩
        intro j hj1 hj2
        have e : tE tl (zc 1) (zc 2) = runP (isL tl) (zc 1) (zc 1 - zc 2) (zc 2) := by
          unfold tE; rw [if_neg e1, if_neg e2, if_pos e3]
        rw [h6, e] at hj2
        exact of_decide_eq_true (runP_all _ _ j hj1 hj2)
      · rw [if_neg e3, if_neg e3]
        right
        split <;> decide
theorem wdN_5 {tl ch : Nat → Nat} {s : Nat} : wdN tl s ch 5 = true ↔ (tl (s + 0) = ch 0 ∧ tl (s + 1) = ch 1 ∧ tl (s + 2) = ch 2 ∧ tl (s + 3) = ch 3 ∧ tl (s + 4) = ch 4) := by
  simp only [wdN, Bool.and_eq_true, decide_eq_true_eq, true_and, and_assoc]
theorem wdN_6 {tl ch : Nat → Nat} {s : Nat} : wdN tl s ch 6 = true ↔ (tl (s + 0) = ch 0 ∧ tl (s + 1) = ch 1 ∧ tl (s + 2) = ch 2 ∧ tl (s + 3) = ch 3 ∧ tl (s + 4) = ch 4 ∧ tl (s + 5) = ch 5) := by
  simp only [wdN, Bool.and_eq_true, decide_eq_true_eq, true_and, and_assoc]
theorem wdN_4 {tl ch : Nat → Nat} {s : Nat} : wdN tl s ch 4 = true ↔ (tl (s + 0) = ch 0 ∧ tl (s + 1) = ch 1 ∧ tl (s + 2) = ch 2 ∧ tl (s + 3) = ch 3) := by
  simp only [wdN, Bool.and_eq_true, decide_eq_true_eq, true_and, and_assoc]
theorem wdM_eq {te : Nat → Nat} {s e x : Nat} (hx : x ≠ 7) : wdM te s e = x ↔ (e - s ≤ 6 ∧ wcN (cdN te s (e - s)) = x) := by
  unfold wdM
  split
  · constructor
    · intro h; exact absurd h.symm hx
    · intro h; omega
  · constructor
    · intro h; exact ⟨by omega, h⟩
    · intro h; exact h.2
theorem wd_0 {tl zc zm : Nat → Nat} (h : TKR tl zc zm) : wdI zc tl 0 = true ↔ zm 13 = 1 := by
  unfold wdI wdB
  rw [Bool.and_eq_true, decide_eq_true_eq]
  show (zc 4 = 1 ∧ zc 3 - zc 2 = 5) ∧ wdN tl (zc 2) (sch 0) 5 = true ↔ _
  rw [wdN_5]
  show (zc 4 = 1 ∧ zc 3 - zc 2 = 5) ∧ tl (zc 2 + 0) = 110 ∧ tl (zc 2 + 1) = 111 ∧ tl (zc 2 + 2) = 100 ∧ tl (zc 2 + 3) = 101 ∧ tl (zc 2 + 4) = 115 ↔ _
  rcases h.word with ⟨a1, a2, a3⟩ | ⟨a1, a2⟩
  · have hL : ∀ j, j < zc 3 - zc 2 → 97 ≤ tl (zc 2 + j) ∧ tl (zc 2 + j) ≤ 122 := fun j hj => a3 _ (by omega) (by omega)
    rw [a2, wdM_eq (by decide), wcN_1]
    constructor
    · intro h1; exact ⟨by omega, (cd_1 (by omega) hL).mpr ⟨h1.1.2, h1.2⟩⟩
    · intro h1
      have := (cd_1 h1.1 hL).mp h1.2
      exact ⟨⟨a1, this.1⟩, this.2⟩
  · constructor
    · intro h1; exact absurd h1.1.1 a1
    · intro h1; exact absurd h1 a2.1
theorem wd_1 {tl zc zm : Nat → Nat} (h : TKR tl zc zm) : wdI zc tl 1 = true ↔ zm 13 = 2 := by
  unfold wdI wdB
  rw [Bool.and_eq_true, decide_eq_true_eq]
  show (zc 4 = 1 ∧ zc 3 - zc 2 = 6) ∧ wdN tl (zc 2) (sch 1) 6 = true ↔ _
  rw [wdN_6]
  show (zc 4 = 1 ∧ zc 3 - zc 2 = 6) ∧ tl (zc 2 + 0) = 115 ∧ tl (zc 2 + 1) = 111 ∧ tl (zc 2 + 2) = 117 ∧ tl (zc 2 + 3) = 114 ∧ tl (zc 2 + 4) = 99 ∧ tl (zc 2 + 5) = 101 ↔ _
  rcases h.word with ⟨a1, a2, a3⟩ | ⟨a1, a2⟩
  · have hL : ∀ j, j < zc 3 - zc 2 → 97 ≤ tl (zc 2 + j) ∧ tl (zc 2 + j) ≤ 122 := fun j hj => a3 _ (by omega) (by omega)
    rw [a2, wdM_eq (by decide), wcN_2]
    constructor
    · intro h1; exact ⟨by omega, (cd_2 (by omega) hL).mpr ⟨h1.1.2, h1.2⟩⟩
    · intro h1
      have := (cd_2 h1.1 hL).mp h1.2
      exact ⟨⟨a1, this.1⟩, this.2⟩
  · constructor
    · intro h1; exact absurd h1.1.1 a1
    · intro h1; exact absurd h1 a2.2.1
theorem wd_2 {tl zc zm : Nat → Nat} (h : TKR tl zc zm) : wdI zc tl 2 = true ↔ zm 13 = 3 := by
  unfold wdI wdB
  rw [Bool.and_eq_true, decide_eq_true_eq]
  show (zc 4 = 1 ∧ zc 3 - zc 2 = 5) ∧ wdN tl (zc 2) (sch 2) 5 = true ↔ _
  rw [wdN_5]
  show (zc 4 = 1 ∧ zc 3 - zc 2 = 5) ∧ tl (zc 2 + 0) = 108 ∧ tl (zc 2 + 1) = 105 ∧ tl (zc 2 + 2) = 109 ∧ tl (zc 2 + 3) = 105 ∧ tl (zc 2 + 4) = 116 ↔ _
  rcases h.word with ⟨a1, a2, a3⟩ | ⟨a1, a2⟩
  · have hL : ∀ j, j < zc 3 - zc 2 → 97 ≤ tl (zc 2 + j) ∧ tl (zc 2 + j) ≤ 122 := fun j hj => a3 _ (by omega) (by omega)
    rw [a2, wdM_eq (by decide), wcN_3]
    constructor
    · intro h1; exact ⟨by omega, (cd_3 (by omega) hL).mpr ⟨h1.1.2, h1.2⟩⟩
    · intro h1
      have := (cd_3 h1.1 hL).mp h1.2
      exact ⟨⟨a1, this.1⟩, this.2⟩
  · constructor
    · intro h1; exact absurd h1.1.1 a1
    · intro h1; exact absurd h1 a2.2.2.1
theorem wd_3 {tl zc zm : Nat → Nat} (h : TKR tl zc zm) : wdI zc tl 3 = true ↔ zm 13 = 4 := by
  unfold wdI wdB
  rw [Bool.and_eq_true, decide_eq_true_eq]
  show (zc 4 = 1 ∧ zc 3 - zc 2 = 4) ∧ wdN tl (zc 2) (sch 3) 4 = true ↔ _
  rw [wdN_4]
  show (zc 4 = 1 ∧ zc 3 - zc 2 = 4) ∧ tl (zc 2 + 0) = 108 ∧ tl (zc 2 + 1) = 105 ∧ tl (zc 2 + 2) = 110 ∧ tl (zc 2 + 3) = 107 ↔ _
  rcases h.word with ⟨a1, a2, a3⟩ | ⟨a1, a2⟩
  · have hL : ∀ j, j < zc 3 - zc 2 → 97 ≤ tl (zc 2 + j) ∧ tl (zc 2 + j) ≤ 122 := fun j hj => a3 _ (by omega) (by omega)
    rw [a2, wdM_eq (by decide), wcN_4]
    constructor
    · intro h1; exact ⟨by omega, (cd_4 (by omega) hL).mpr ⟨h1.1.2, h1.2⟩⟩
    · intro h1
      have := (cd_4 h1.1 hL).mp h1.2
      exact ⟨⟨a1, this.1⟩, this.2⟩
  · constructor
    · intro h1; exact absurd h1.1.1 a1
    · intro h1; exact absurd h1 a2.2.2.2
/-- ends, figures, semicolons -/
theorem TKR.kinds {tl zc zm : Nat → Nat} (h : TKR tl zc zm) : (zc 4 = 0 ↔ zm 13 = 0) ∧ (zm 13 = 5 ↔ (zc 4 = 2 ∧ zc 3 - zc 2 = 1)) ∧ (zc 4 = 3 ↔ zm 13 = 6) := by
  obtain ⟨h1, h2, h3, h4, h5, h6, h7, h8⟩ := h
  rw [h4, h5, h6]
  unfold tK mK
  by_cases e1 : zc 1 ≤ zc 2
  · rw [if_pos e1, if_pos e1]
    refine ⟨by simp, by simp, by simp⟩
  · rw [if_neg e1, if_neg e1]
    by_cases e2 : isD tl (zc 2) = true
    · rw [if_pos e2, if_pos e2]
      by_cases e4 : tE tl (zc 1) (zc 2) - zc 2 = 1
      · rw [if_pos e4]; refine ⟨by simp, by simp [e4], by simp⟩
      · rw [if_neg e4]; refine ⟨by simp, by simp [e4], by simp⟩
    · rw [if_neg e2, if_neg e2]
      by_cases e3 : isL tl (zc 2) = true
      · rw [if_pos e3, if_pos e3]
        have hw : wdM tl (zc 2) (tE tl (zc 1) (zc 2)) ≠ 0 ∧ wdM tl (zc 2) (tE tl (zc 1) (zc 2)) ≠ 5 ∧ wdM tl (zc 2) (tE tl (zc 1) (zc 2)) ≠ 6 := by
          unfold wdM
          split
          · decide
          · generalize cdN tl (zc 2) (tE tl (zc 1) (zc 2) - zc 2) = c
            unfold wcN
            split
            · decide
            · split
              · decide
              · split
                · decide
                · split <;> decide
        refine ⟨?_, ?_, ?_⟩
        · constructor
          · intro h; cases h
          · intro h; exact absurd h hw.1
        · constructor
          · intro h; exact absurd h hw.2.1
          · intro h; cases h.1
        · constructor
          · intro h; cases h
          · intro h; exact absurd h hw.2.2
      · rw [if_neg e3, if_neg e3]
        by_cases e4 : tl (zc 2) = 59
        · rw [if_pos e4, if_pos e4]; refine ⟨by simp, by simp, by simp⟩
        · rw [if_neg e4, if_neg e4]; refine ⟨by simp, by simp, by simp⟩
theorem fv_fg {tl zc zm : Nat → Nat} (h : TKR tl (tok zc tl) zm) : fvM tl zm = fgO zc tl := by
  have hk := h.kinds.2.1
  have h2 := h.2.1
  unfold fvM fgO
  by_cases e : zm 13 = 5
  · rw [if_pos e, if_pos (hk.mp e), h2]
  · rw [if_neg e, if_neg (fun h9 => e (hk.mpr h9))]
theorem fg_B {tl zc zm : Nat → Nat} (h : TKR tl (tok zc tl) zm) {lo hi : Nat} (hlo : lo < 2 ^ 31) (hhi : hi < 2 ^ 31) : decide (nI lo ≤ oN (fvM tl zm) ∧ oN (fvM tl zm) ≤ nI hi) = fgB zc tl lo hi := by
  rw [fv_fg h]
  unfold fgB
  cases e : fgO zc tl with
  | none =>
    apply decide_eq_false
    intro h9
    have h1 : nI lo ≤ (-9 : Int32) := h9.1
    rw [Int32.le_iff_toInt_le, nI_toInt hlo] at h1
    have h2 : (-9 : Int32).toInt = -9 := by decide
    omega
  | some d =>
    have hd := fgO_le e
    show decide (nI lo ≤ nI d ∧ nI d ≤ nI hi) = decide (lo ≤ d ∧ d ≤ hi)
    exact in_nn hlo (by omega) hhi
theorem fg_M {tl zc zm : Nat → Nat} (h : TKR tl (tok zc tl) zm) {lo hi : Nat} (hlo : lo < 2 ^ 31) (hhi : hi < 2 ^ 31) : fgM tl (nI lo) (nI hi) (zm, none) = if fgB zc tl lo hi = true then (stZ tl zm, none) else (zm, some (zm 11)) := by
  have e : (decide (zm 13 = 5) && decide (nI lo ≤ oN (fvM tl zm) ∧ oN (fvM tl zm) ≤ nI hi)) = fgB zc tl lo hi := by
    rw [fg_B h hlo hhi]
    by_cases e5 : zm 13 = 5
    · rw [decide_eq_true e5, Bool.true_and]
    · rw [decide_eq_false e5, Bool.false_and]
      have := fv_fg h
      unfold fvM at this
      rw [if_neg e5] at this
      unfold fgB
      rw [← this]
  show tkM tl (decide (zm 13 = 5) && decide (nI lo ≤ oN (fvM tl zm) ∧ oN (fvM tl zm) ≤ nI hi)) (zm, none) = _
  rw [e]
  cases fgB zc tl lo hi <;> rfl
theorem fgz_o {z tl : Nat → Nat} {j : Nat} (hj : j ≠ 5) : fgz z tl j = tok z tl j := by
  unfold fgz
  cases fgO z tl with
  | none => rfl
  | some d => exact va_up_ne _ _ hj
theorem fgz_5 {z tl : Nat → Nat} {lo hi : Nat} (h : fgB z tl lo hi = true) : fgO z tl = some (fgz z tl 5) := by
  unfold fgB at h
  unfold fgz
  cases e : fgO z tl with
  | none => rw [e] at h; cases h
  | some d => show some d = some (va_up (tok z tl) 5 d 5); rw [va_up_self]
/-- after a figure, the next token -/
theorem fg_nx {tl zc zm : Nat → Nat} (h : TKR tl (tok zc tl) zm) : TKR tl (tok (fgz zc tl) tl) (stZ tl zm) := by
  refine tok_R ?_ ?_ ?_
  · rw [fgz_o (by decide)]; exact h.1
  · rw [fgz_o (by decide)]; exact h.2.2.1
  · rw [fgz_o (by decide), fgz_o (by decide)]; exact h.2.2.2.2.2.2.2
theorem TKR.nx {tl zc zm : Nat → Nat} (h : TKR tl zc zm) : TKR tl (tok zc tl) (stZ tl zm) := tok_R h.1 h.2.2.1 h.2.2.2.2.2.2.2
/-! what is told, as it grows -/
def DR (a : Nat → Nat) (r : Nat → Nat → Nat) (d : Nat → Int32) : Prop := d 0 = nI (a 0) ∧ d 1 = nI (a 3) ∧ d 2 = nI (a 1) ∧ d 3 = nI (a 2) ∧ (∀ j, 4 ≤ j → j < 16 → d j = nI 0) ∧ (∀ k, k < a 3 → d (16 + k) = nI (r 0 k) ∧ d (28 + k) = nI (r 1 k) ∧ d (40 + k) = nI (r 2 k)) ∧ ∀ k, a 3 ≤ k → k < 12 → d (16 + k) = nI 0 ∧ d (28 + k) = nI 0 ∧ d (40 + k) = nI 0
def GI (a : Nat → Nat) (r : Nat → Nat → Nat) (i : Nat) : Prop := (∀ k, k < a 3 → r 0 k < a 0 ∧ r 1 k < a 0 ∧ r 0 k ≠ r 1 k ∧ 1 ≤ r 2 k ∧ r 2 k ≤ 9) ∧ (i = 0 → a 3 = 0) ∧ a 7 = 0 ∧ a 8 = 0 ∧ a 9 = 0 ∧ a 10 = 0
def HD (tl : Nat → Nat) (i : Nat) (z a : Nat → Nat) (r : Nat → Nat → Nat) (x : RS) : Prop := x.1 = i ∧ x.2.1 = decide (z 6 ≠ 0) ∧ DR a r x.2.2.1 ∧ x.2.2.2.1 = a 3 ∧ x.2.2.2.2.2 = none ∧ TKR tl z x.2.2.2.2.1 ∧ TI a r i ∧ GI a r i ∧ XB z tl ∧ YR tl x ∧ i ≤ z 2
theorem upd_s {f : Nat → Int32} {k : Nat} {v : Int32} : upd f k v k = v := by simp [upd]
theorem upd_n {f : Nat → Int32} {k j : Nat} {v : Int32} (h : j ≠ k) : upd f k v j = f j := by simp [upd, h]
theorem ln_al {a : Nat → Nat} {r : Nat → Nat → Nat} {d : Nat → Int32} (hd : DR a r d) (hg : ∀ k, k < a 3 → r 0 k < 7 ∧ r 1 k < 7) {u v : Nat} (hu : u < 10) (hv : v < 10) (hne : v ≠ u) : alB d (nI u) (nI v) (a 3) = lnkB a r u v := by
  have key : ∀ K, K ≤ a 3 → (alB d (nI u) (nI v) K = true ↔ ∃ k, k < K ∧ ((r 0 k = u ∧ r 1 k = v) ∨ (r 0 k = v ∧ r 1 k = u))) := by
    intro K
    induction K with
    | zero =>
      intro _
      constructor
      · intro h; cases h
      · rintro ⟨k, hk, _⟩; exact absurd hk (Nat.not_lt_zero _)
    | succ K ih =>
      intro hK
      have ih := ih (by omega)
      have hdk := hd.2.2.2.2.2.1 K (by omega)
      have h7 := hg K (by omega)
      have i1 : ∀ x y, x < 10 → y < 7 → (nI y = nI x ↔ y = x) := fun x y hx hy => ⟨fun h => nI_ij (by omega) (by omega) h, fun h => by rw [h]⟩
      rw [alB, Bool.or_eq_true, Bool.or_eq_true, ih, Bool.and_eq_true, Bool.and_eq_true, decide_eq_true_eq, decide_eq_true_eq, decide_eq_true_eq, decide_eq_true_eq, hdk.1, hdk.2.1, i1 u _ hu h7.1, i1 v _ hv h7.2, i1 v _ hv h7.1, i1 u _ hu h7.2]
      constructor
      · rintro ((⟨k, hk, h1⟩ | h1) | h1)
        · exact ⟨k, by omega, h1⟩
        · exact ⟨K, by omega, Or.inl h1⟩
        · exact ⟨K, by omega, Or.inr h1⟩
      · rintro ⟨k, hk, h1⟩
        by_cases e : k = K
        · subst e
          rcases h1 with h1 | h1
          · exact Or.inl (Or.inr h1)
          · exact Or.inr h1
        · exact Or.inl (Or.inl ⟨k, by omega, h1⟩)
  have hl : lnkB a r u v = true ↔ ∃ k, k < a 3 ∧ ((r 0 k = u ∧ r 1 k = v) ∨ (r 0 k = v ∧ r 1 k = u)) := by
    unfold lnkB
    rw [decide_eq_true_eq]
    constructor
    · intro h
      obtain ⟨k, hk⟩ := nz_bit h
      obtain ⟨h1, h2⟩ := abb.mp hk
      obtain ⟨h3, h4⟩ := (lk_bit _ _ _ _ _).mp h1
      obtain ⟨_, h5⟩ := (lk_bit _ _ _ _ _).mp h2
      refine ⟨k, h3, ?_⟩
      rcases eb.mp h4 with h6 | h6 <;> rcases eb.mp h5 with h7 | h7
      · exact absurd (h7.symm.trans h6) hne
      · exact Or.inl ⟨h6, h7⟩
      · exact Or.inr ⟨h7, h6⟩
      · exact absurd (h7.symm.trans h6) hne
    · rintro ⟨k, hk, h1⟩
      refine bit_nz (i := k) (abb.mpr ⟨(lk_bit _ _ _ _ _).mpr ⟨hk, eb.mpr ?_⟩, (lk_bit _ _ _ _ _).mpr ⟨hk, eb.mpr ?_⟩⟩)
      · rcases h1 with h1 | h1
        · exact Or.inl h1.1
        · exact Or.inr h1.2
      · rcases h1 with h1 | h1
        · exact Or.inr h1.2
        · exact Or.inl h1.1
  have := key (a 3) (Nat.le_refl _)
  cases e1 : alB d (nI u) (nI v) (a 3) <;> cases e2 : lnkB a r u v
  · rfl
  · rw [this.mpr (hl.mp e2)] at e1; cases e1
  · rw [hl.mpr (this.mp e1)] at e2; cases e2
  · rfl
