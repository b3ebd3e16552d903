/-! the reference reads: its words -/
def atI (te : Nat → Nat) (len k : Nat) : Int32 := if k < len then nI (te k) else -1
theorem in_nn {a x b : Nat} (ha : a < 2 ^ 31) (hx : x < 2 ^ 31) (hb : b < 2 ^ 31) : decide (nI a ≤ nI x ∧ nI x ≤ nI b) = decide (a ≤ x ∧ x ≤ b) := by
  congr 1
  rw [nI_leI ha hx, nI_leI hx hb]
theorem y_bI {y : Nat} {b : Bool} (h1 : y ≤ 1) (h : y = 1 ↔ b = true) : nI y = bI b := by
  cases b with
  | true => rw [h.mpr rfl]; rfl
  | false =>
    have : y ≠ 1 := fun e => absurd (h.mp e) (by decide)
    have : y = 0 := by omega
    rw [this]; rfl
/-- letters as a number -/
def cdN (te : Nat → Nat) (s : Nat) : Nat → Nat
  | 0 => 0
  | i + 1 => 27 * cdN te s i + te (s + i) - 96
theorem cdN_lt {te : Nat → Nat} {s : Nat} : ∀ i, (∀ j, j < i → isL te (s + j) = true) → cdN te s i < 27 ^ i
  | 0, _ => by simp [cdN]
  | i + 1, h => by
    have h1 := cdN_lt i (fun j hj => h j (by omega))
    have h2 : 97 ≤ te (s + i) ∧ te (s + i) ≤ 122 := of_decide_eq_true (h i (by omega))
    unfold cdN
    have : 27 ^ (i + 1) = 27 * 27 ^ i := by rw [Nat.pow_succ, Nat.mul_comm]
    omega
theorem cdN_lt6 {te : Nat → Nat} {s i : Nat} (h : ∀ j, j < i → isL te (s + j) = true) (hi : i ≤ 6) : cdN te s i < 2 ^ 30 := by
  have h1 := cdN_lt i h
  have h2 : 27 ^ i ≤ 27 ^ 6 := Nat.pow_le_pow_right (by decide) hi
  have h3 : (27 : Nat) ^ 6 = 387420489 := by decide
  omega
def wcN (c : Nat) : Nat := if c = 243146 then 4 else if c = 6564179 then 3 else if c = 7738489 then 1 else if c = 281027399 then 2 else 7
theorem lk_def {c : Nat} (hc : c < 2 ^ 31) (h1 : c ≠ 243146) (h2 : c ≠ 6564179) (h3 : c ≠ 7738489) (h4 : c ≠ 281027399) : Op.lookupswitch.offset (#[((243146 : Int), (49 : Int)), (6564179, 47), (7738489, 43), (281027399, 45)] : Array (Int × Int)).toList 51 (nI c).toInt = 51 := by
  rw [nI_toInt hc]
  show Op.lookupswitch.offset [((243146 : Int), (49 : Int)), (6564179, 47), (7738489, 43), (281027399, 45)] 51 (c : Int) = 51
  unfold Op.lookupswitch.offset
  rw [if_neg (by omega)]
  unfold Op.lookupswitch.offset
  rw [if_neg (by omega)]
  unfold Op.lookupswitch.offset
  rw [if_neg (by omega)]
  unfold Op.lookupswitch.offset
  rw [if_neg (by omega)]
  rfl
def wdM (te : Nat → Nat) (s e : Nat) : Nat := if 6 < e - s then 7 else wcN (cdN te s (e - s))
def mK (te : Nat → Nat) (len s : Nat) : Nat := if len ≤ s then 0 else if isD te s = true then (if tE te len s - s = 1 then 5 else 7) else if isL te s = true then wdM te s (tE te len s) else if te s = 59 then 6 else 7
def stZ (te z : Nat → Nat) : Nat → Nat := va_up (va_up (va_up z 11 (tS te (z 10) (z 12))) 12 (tE te (z 10) (tS te (z 10) (z 12)))) 13 (mK te (z 10) (tS te (z 10) (z 12)))
theorem wcN_le (c : Nat) : wcN c ≤ 7 ∧ wcN c ≠ 5 ∧ wcN c ≠ 0 := by
  unfold wcN
  split
  · decide
  · split
    · decide
    · split
      · decide
      · split <;> decide
theorem mK_le (te : Nat → Nat) (len s : Nat) : mK te len s ≤ 7 ∧ (mK te len s = 5 → s < len ∧ isD te s = true) ∧ (mK te len s ≠ 0 → s < len) := by
  unfold mK
  by_cases h : len ≤ s
  · rw [if_pos h]
    exact ⟨by decide, fun h => absurd h (by decide), fun h => absurd rfl h⟩
  · rw [if_neg h]
    by_cases hd : isD te s = true
    · rw [if_pos hd]
      refine ⟨?_, fun _ => ⟨by omega, hd⟩, fun _ => by omega⟩
      split <;> decide
    · rw [if_neg hd]
      refine ⟨?_, ?_, fun _ => by omega⟩
      · split
        · unfold wdM
          split
          · decide
          · exact (wcN_le _).1
        · split <;> decide
      · intro h5
        split at h5
        · unfold wdM at h5
          split at h5
          · cases h5
          · exact absurd h5 (wcN_le _).2.1
        · split at h5 <;> cases h5
/-- ranges of what reads -/
def YB (te z : Nat → Nat) : Prop := (∀ j, te j < 256) ∧ z 10 ≤ 120 ∧ z 11 ≤ z 12 ∧ z 12 ≤ z 10 ∧ z 13 ≤ 7 ∧ (z 13 = 5 → z 11 < z 10 ∧ isD te (z 11) = true) ∧ (z 13 ≠ 0 → z 11 < z 12)
theorem tE_gt {te : Nat → Nat} {len s : Nat} (h : s < len) : s < tE te len s := by
  unfold tE
  rw [if_neg (by omega)]
  split
  · rename_i hd
    rw [runP_step h hd]
    have := (runP_le (p := isD te) (len := len) (len - (s + 1)) (s + 1) (by omega)).1
    omega
  · split
    · rename_i hd
      rw [runP_step h hd]
      have := (runP_le (p := isL te) (len := len) (len - (s + 1)) (s + 1) (by omega)).1
      omega
    · omega
theorem YB.st {te z : Nat → Nat} (h0 : ∀ j, te j < 256) (h1 : z 10 ≤ 120) (h2 : z 12 ≤ z 10) : YB te (stZ te z) := by
  have a1 := tS_le (tl := te) h2
  have a2 := tE_le (tl := te) a1.2
  have a3 := mK_le te (z 10) (tS te (z 10) (z 12))
  exact ⟨h0, h1, a2.1, a2.2, a3.1, a3.2.1, fun h => tE_gt (a3.2.2 h)⟩
abbrev FS : Type := (Nat → Nat) × Option Nat
def tkM (te : Nat → Nat) (b : Bool) (q : FS) : FS := match q.2 with
  | some _ => q
  | none => if b = true then (stZ te q.1, none) else (q.1, some (q.1 11))
theorem YB.tk {te : Nat → Nat} {q : FS} (h : YB te q.1) (b : Bool) : YB te (tkM te b q).1 := by
  unfold tkM
  split
  · exact h
  · split
    · exact YB.st h.1 h.2.1 h.2.2.2.1
    · exact h
theorem tk_10 (te : Nat → Nat) (b : Bool) (q : FS) : (tkM te b q).1 10 = q.1 10 := by
  unfold tkM
  split
  · rfl
  · split <;> rfl
/-- a step taken goes on -/
theorem tk_on {te : Nat → Nat} {q : FS} {b : Bool} (h : YB te q.1) (hq : (tkM te b q).2 = none) : q.2 = none ∧ b = true ∧ q.1 12 ≤ (tkM te b q).1 11 := by
  obtain ⟨z, fo⟩ := q
  cases fo with
  | some q0 => exact absurd (show (some q0 : Option Nat) = none from hq) (fun h => by cases h)
  | none =>
    cases b with
    | false => exact absurd (show (some (z 11) : Option Nat) = none from hq) (fun h => by cases h)
    | true => exact ⟨rfl, rfl, (tS_le (tl := te) h.2.2.2.1).1⟩
def fvM (te z : Nat → Nat) : Option Nat := if z 13 = 5 then some (te (z 11) - 48) else none
def fgM (te : Nat → Nat) (lo hi : Int32) (q : FS) : FS := tkM te (decide (q.1 13 = 5) && decide (lo ≤ oN (fvM te q.1) ∧ oN (fvM te q.1) ≤ hi)) q
def alB (d : Nat → Int32) (a b : Int32) : Nat → Bool
  | 0 => false
  | k + 1 => alB d a b k || (decide (d (16 + k) = a) && decide (d (28 + k) = b)) || (decide (d (16 + k) = b) && decide (d (28 + k) = a))
/-- a link read -/
def rl1 (te : Nat → Nat) (L : Nat) (q : FS) : FS := tkM te (decide (L < 12)) q
def rl2 (te : Nat → Nat) (d : Nat → Int32) (L : Nat) (q : FS) : FS := fgM te (nI 0) (d 0 - nI 1) (rl1 te L q)
def rlB (te : Nat → Nat) (d : Nat → Int32) (L : Nat) (q : FS) : Bool := decide (nI 0 ≤ oN (fvM te (rl2 te d L q).1) ∧ oN (fvM te (rl2 te d L q).1) ≤ d 0 - nI 1) && !decide (oN (fvM te (rl2 te d L q).1) = oN (fvM te (rl1 te L q).1)) && !alB d (oN (fvM te (rl1 te L q).1)) (oN (fvM te (rl2 te d L q).1)) L
def rl3 (te : Nat → Nat) (d : Nat → Int32) (L : Nat) (q : FS) : FS := tkM te (rlB te d L q) (rl2 te d L q)
def rl4 (te : Nat → Nat) (d : Nat → Int32) (L : Nat) (q : FS) : FS := fgM te (nI 1) (nI 9) (rl3 te d L q)
def rlD (te : Nat → Nat) (d : Nat → Int32) (L : Nat) (q : FS) : Nat → Int32 := if (rl4 te d L q).2 = none then upd (upd (upd (upd d (16 + L) (oN (fvM te (rl1 te L q).1))) (28 + L) (oN (fvM te (rl2 te d L q).1))) (40 + L) (oN (fvM te (rl3 te d L q).1))) 1 (nI (L + 1)) else d
def rlL (te : Nat → Nat) (d : Nat → Int32) (L : Nat) (q : FS) : Nat := if (rl4 te d L q).2 = none then L + 1 else L
/-- what is read: items, whether source was told, the draft, its links, where -/
abbrev RS : Type := Nat × Bool × (Nat → Int32) × Nat × FS
def it1 (te : Nat → Nat) (x : RS) : RS :=
  if x.2.2.2.2.1 13 = 1 then (x.1, x.2.1, upd x.2.2.1 0 (oN (fvM te (tkM te (decide (x.1 = 0)) x.2.2.2.2).1)), x.2.2.2.1, fgM te (nI 2) (nI 7) (tkM te (decide (x.1 = 0)) x.2.2.2.2))
  else if x.2.2.2.2.1 13 = 2 then (x.1, true, upd x.2.2.1 2 (oN (fvM te (tkM te (!x.2.1) x.2.2.2.2).1)), x.2.2.2.1, fgM te (nI 0) (x.2.2.1 0 - nI 1) (tkM te (!x.2.1) x.2.2.2.2))
  else if x.2.2.2.2.1 13 = 3 then (x.1, x.2.1, upd x.2.2.1 3 (oN (fvM te (tkM te true x.2.2.2.2).1)), x.2.2.2.1, fgM te (nI 0) (nI 9) (tkM te true x.2.2.2.2))
  else if x.2.2.2.2.1 13 = 4 then (x.1, x.2.1, rlD te x.2.2.1 x.2.2.2.1 x.2.2.2.2, rlL te x.2.2.1 x.2.2.2.1 x.2.2.2.2, rl4 te x.2.2.1 x.2.2.2.1 x.2.2.2.2)
  else (x.1, x.2.1, x.2.2.1, x.2.2.2.1, tkM te false x.2.2.2.2)
def it2 (te : Nat → Nat) (x : RS) : RS := (x.1 + 1, x.2.1, x.2.2.1, x.2.2.2.1, tkM te (decide (x.2.2.2.2.1 13 = 6)) x.2.2.2.2)
def itM (te : Nat → Nat) (x : RS) : RS := it2 te (it1 te x)
def rdM (te : Nat → Nat) : Nat → RS → RS
  | 0, x => x
  | m + 1, x => if x.2.2.2.2.2 = none ∧ x.2.2.2.2.1 13 ≠ 0 then rdM te m (itM te x) else x
theorem rdM_go {te : Nat → Nat} {m : Nat} {x : RS} (h1 : x.2.2.2.2.2 = none) (h2 : x.2.2.2.2.1 13 ≠ 0) : rdM te (m + 1) x = rdM te m (itM te x) := by
  rw [rdM, if_pos ⟨h1, h2⟩]
theorem rdM_end {te : Nat → Nat} {m : Nat} {x : RS} (h : ¬ (x.2.2.2.2.2 = none ∧ x.2.2.2.2.1 13 ≠ 0)) : rdM te m x = x := by
  cases m with
  | zero => rfl
  | succ m => rw [rdM, if_neg h]
theorem YB.fg {te : Nat → Nat} {q : FS} (h : YB te q.1) (lo hi : Int32) : YB te (fgM te lo hi q).1 := h.tk _
theorem fg_on {te : Nat → Nat} {q : FS} {lo hi : Int32} (h : YB te q.1) (hq : (fgM te lo hi q).2 = none) : q.2 = none ∧ q.1 12 ≤ (fgM te lo hi q).1 11 ∧ ∃ v, fvM te q.1 = some v ∧ lo ≤ nI v ∧ nI v ≤ hi := by
  obtain ⟨h1, h2, h3⟩ := tk_on h hq
  refine ⟨h1, h3, ?_⟩
  simp only [Bool.and_eq_true, decide_eq_true_eq] at h2
  obtain ⟨h4, h5⟩ := h2
  unfold fvM at h5 ⊢
  rw [if_pos h4] at h5 ⊢
  exact ⟨_, rfl, h5⟩
theorem YB.r1 {te : Nat → Nat} {q : FS} (h : YB te q.1) (L : Nat) : YB te (rl1 te L q).1 := h.tk _
theorem YB.r2 {te : Nat → Nat} {q : FS} (h : YB te q.1) (d : Nat → Int32) (L : Nat) : YB te (rl2 te d L q).1 := (h.r1 L).fg _ _
theorem YB.r3 {te : Nat → Nat} {q : FS} (h : YB te q.1) (d : Nat → Int32) (L : Nat) : YB te (rl3 te d L q).1 := (h.r2 d L).tk _
theorem YB.r4 {te : Nat → Nat} {q : FS} (h : YB te q.1) (d : Nat → Int32) (L : Nat) : YB te (rl4 te d L q).1 := (h.r3 d L).fg _ _
theorem rl_on {te : Nat → Nat} {q : FS} {d : Nat → Int32} {L : Nat} (h : YB te q.1) (hq : (rl4 te d L q).2 = none) : q.2 = none ∧ L < 12 ∧ q.1 12 ≤ (rl4 te d L q).1 11 := by
  have a4 := fg_on (h.r3 d L) hq
  have a3 := tk_on (h.r2 d L) a4.1
  have a2 := fg_on (h.r1 L) a3.1
  have a1 := tk_on h a2.1
  refine ⟨a1.1, of_decide_eq_true a1.2.1, ?_⟩
  have b1 : (rl1 te L q).1 11 ≤ (rl1 te L q).1 12 := (h.r1 L).2.2.1
  have b2 : (rl2 te d L q).1 11 ≤ (rl2 te d L q).1 12 := (h.r2 d L).2.2.1
  have b3 : (rl3 te d L q).1 11 ≤ (rl3 te d L q).1 12 := (h.r3 d L).2.2.1
  have c1 : q.1 12 ≤ (rl1 te L q).1 11 := a1.2.2
  have c2 : (rl1 te L q).1 12 ≤ (rl2 te d L q).1 11 := a2.2.1
  have c3 : (rl2 te d L q).1 12 ≤ (rl3 te d L q).1 11 := a3.2.2
  have c4 : (rl3 te d L q).1 12 ≤ (rl4 te d L q).1 11 := a4.2.1
  omega
def YR (te : Nat → Nat) (x : RS) : Prop := YB te x.2.2.2.2.1 ∧ x.2.2.2.1 ≤ 12 ∧ x.2.2.1 1 = nI x.2.2.2.1
theorem YR.i1 {te : Nat → Nat} {x : RS} (h : YR te x) : YR te (it1 te x) := by
  obtain ⟨h1, h2, h3⟩ := h
  unfold it1
  split
  · exact ⟨(h1.tk _).fg _ _, h2, h3⟩
  · split
    · exact ⟨(h1.tk _).fg _ _, h2, h3⟩
    · split
      · exact ⟨(h1.tk _).fg _ _, h2, h3⟩
      · split
        · refine ⟨h1.r4 _ _, ?_, ?_⟩
          · show rlL te x.2.2.1 x.2.2.2.1 x.2.2.2.2 ≤ 12
            unfold rlL
            split
            · rename_i hq
              have := (rl_on h1 hq).2.1
              omega
            · exact h2
          · show rlD te x.2.2.1 x.2.2.2.1 x.2.2.2.2 1 = nI (rlL te x.2.2.1 x.2.2.2.1 x.2.2.2.2)
            unfold rlD rlL
            split
            · rfl
            · exact h3
        · exact ⟨h1.tk _, h2, h3⟩
theorem YR.it {te : Nat → Nat} {x : RS} (h : YR te x) : YR te (itM te x) := by
  obtain ⟨h1, h2, h3⟩ := h.i1
  exact ⟨h1.tk _, h2, h3⟩
theorem i1_10 (te : Nat → Nat) (x : RS) : (it1 te x).2.2.2.2.1 10 = x.2.2.2.2.1 10 := by
  unfold it1
  split
  · show (fgM te _ _ (tkM te _ _)).1 10 = _
    unfold fgM; rw [tk_10, tk_10]
  · split
    · show (fgM te _ _ (tkM te _ _)).1 10 = _
      unfold fgM; rw [tk_10, tk_10]
    · split
      · show (fgM te _ _ (tkM te _ _)).1 10 = _
        unfold fgM; rw [tk_10, tk_10]
      · split
        · show (rl4 te _ _ _).1 10 = _
          unfold rl4 rl3 rl2 rl1 fgM; rw [tk_10, tk_10, tk_10, tk_10]
        · exact tk_10 _ _ _
theorem it_10 (te : Nat → Nat) (x : RS) : (itM te x).2.2.2.2.1 10 = x.2.2.2.2.1 10 := by
  show (tkM te _ (it1 te x).2.2.2.2).1 10 = _
  rw [tk_10, i1_10]
theorem i1_on {te : Nat → Nat} {x : RS} (h : YR te x) (hq : (it1 te x).2.2.2.2.2 = none) : x.2.2.2.2.2 = none ∧ x.2.2.2.2.1 11 ≤ (it1 te x).2.2.2.2.1 11 := by
  obtain ⟨h1, h2, h3⟩ := h
  have g0 := h1.2.2.1
  have key : ∀ (b : Bool) (lo hi : Int32), (fgM te lo hi (tkM te b x.2.2.2.2)).2 = none → x.2.2.2.2.2 = none ∧ x.2.2.2.2.1 11 ≤ (fgM te lo hi (tkM te b x.2.2.2.2)).1 11 := by
    intro b lo hi hq
    have a1 := fg_on (h1.tk b) hq
    have a2 := tk_on h1 a1.1
    have g1 := (h1.tk b).2.2.1
    exact ⟨a2.1, by omega⟩
  unfold it1 at hq ⊢
  split at hq
  · rename_i e; rw [if_pos e]; exact key _ _ _ hq
  · rename_i e1
    rw [if_neg e1]
    split at hq
    · rename_i e; rw [if_pos e]; exact key _ _ _ hq
    · rename_i e2
      rw [if_neg e2]
      split at hq
      · rename_i e; rw [if_pos e]; exact key _ _ _ hq
      · rename_i e3
        rw [if_neg e3]
        split at hq
        · rename_i e
          rw [if_pos e]
          have a := rl_on h1 hq
          exact ⟨a.1, by show _ ≤ (rl4 te _ _ _).1 11; omega⟩
        · rename_i e4
          have a := tk_on h1 hq
          exact absurd a.2.1 (by decide)
theorem it_on {te : Nat → Nat} {x : RS} (h : YR te x) (hq : (itM te x).2.2.2.2.2 = none) (h0 : x.2.2.2.2.1 13 ≠ 0) : x.2.2.2.2.1 11 < (itM te x).2.2.2.2.1 11 := by
  have a1 := tk_on h.i1.1 hq
  have a2 := i1_on h a1.1
  have g := h.i1.1.2.2.1
  have c : (it1 te x).2.2.2.2.1 12 ≤ (itM te x).2.2.2.2.1 11 := a1.2.2
  have d : (it1 te x).2.2.2.2.1 11 < (it1 te x).2.2.2.2.1 12 := by
    refine h.i1.1.2.2.2.2.2.2 ?_
    intro e
    have := a1.2.1
    rw [e] at this
    exact absurd this (by decide)
  omega
def dzP (d : Nat → Int32) (k : Nat) : Nat → Int32 := fun j => if j < k then nI 0 else d j
theorem dzP_0 (d : Nat → Int32) : dzP d 0 = d := by
  funext j; simp [dzP]
theorem dzP_s (d : Nat → Int32) (k : Nat) : upd (dzP d k) k (nI 0) = dzP d (k + 1) := by
  funext j
  unfold upd dzP
  by_cases e : j = k
  · subst e; simp
  · by_cases h : j < k
    · simp [e, h, Nat.lt_succ_of_lt h]
    · have : ¬ j < k + 1 := by omega
      simp [e, h, this]
def rx0 (te z : Nat → Nat) (d : Nat → Int32) : RS := (0, false, upd (dzP d 52) 0 (nI 2), 0, stZ te (va_up z 12 0), none)
def rxA (te z : Nat → Nat) (d : Nat → Int32) : RS := rdM te 130 (rx0 te z d)
