/-! what is done to a talk, on both sides -/
theorem up_up {α : Type} (f : Nat → α) (k : Nat) (x y : α) : va_up (va_up f k x) k y = va_up f k y := by
  funext j
  unfold va_up
  by_cases h : j = k <;> simp [h]
theorem AG.u {s f' g' c' : Nat → Nat} {L i x : Nat} (hi : i < 8) (h : AG (sf s) (sg s) (sc s) f' g' c' L) : AG (sf (va_up s i x)) (sg (va_up s i x)) (sc (va_up s i x)) f' g' c' L := by
  rw [sf_u (by omega), sg_u (by omega), sc_u (by omega)]; exact h
theorem mk_mm {m m' : Nat → Nat} {v : Nat} : ∀ K, (∀ i j, i < K → j < K → m i = m j → i = j) → (∀ k, k < K → m' k = m k) → mkF m v K = mmF m' v K
  | 0, _, _ => rfl
  | K + 1, h1, h2 => by
    have ih := mk_mm K (fun i j hi hj => h1 i j (by omega) (by omega)) (fun k hk => h2 k (by omega)) (v := v)
    rw [mkF, mmF, h2 K (by omega)]
    by_cases e : m K = v
    · rw [if_pos e, if_pos e]
      cases h3 : mkF m v K with
      | none => rfl
      | some j =>
        have := mkF_lt h3
        have := h1 j K (by omega) (by omega) (this.2.trans e.symm)
        omega
    · rw [if_neg e, if_neg e, ← ih]
      cases mkF m v K <;> rfl
theorem mkF_none {m : Nat → Nat} {v : Nat} : ∀ {K : Nat}, mkF m v K = none → ∀ j, j < K → m j ≠ v
  | 0, _, j, hj => absurd hj (Nat.not_lt_zero _)
  | K + 1, h, j, hj => by
    rw [mkF] at h
    cases h1 : mkF m v K with
    | some i => rw [h1] at h; cases h
    | none =>
      rw [h1] at h
      dsimp only at h
      by_cases e : j = K
      · subst e
        intro h2
        rw [if_pos h2] at h; cases h
      · exact mkF_none h1 j (by omega)
def soN (m : Nat → Nat) : Nat → Nat
  | 0 => 0
  | K + 1 => soN m K ||| 2 ^ m K
theorem so_bit {m : Nat → Nat} {i : Nat} : ∀ K, (soN m K).testBit i = true ↔ ∃ j, j < K ∧ m j = i
  | 0 => by
    constructor
    · intro h; exact (zb h).elim
    · rintro ⟨j, hj, _⟩; exact absurd hj (Nat.not_lt_zero _)
  | K + 1 => by
    rw [soN, ob, so_bit K]
    constructor
    · rintro (⟨j, hj, h⟩ | h)
      · exact ⟨j, by omega, h⟩
      · exact ⟨K, by omega, h⟩
    · rintro ⟨j, hj, h⟩
      by_cases e : j = K
      · subst e; exact Or.inr h
      · exact Or.inl ⟨j, by omega, h⟩
theorem or_bts {X v n : Nat} (h : X.testBit v = false) (hv : v < n) : bts (X ||| 2 ^ v) n = bts X n + 1 := by
  refine bts_add (x := X) (y := X ||| 2 ^ v) (fun i hi => ob.mpr (Or.inl hi)) h (ob.mpr (Or.inr rfl)) ?_ n hv
  intro j hj
  rw [Nat.testBit_or, Nat.testBit_two_pow, decide_eq_false (fun e => hj e.symm), Bool.or_false]
theorem so_cnt {m : Nat → Nat} {n : Nat} : ∀ K, (∀ i j, i < K → j < K → m i = m j → i = j) → (∀ i, i < K → m i < n) → bts (soN m K) n = K
  | 0, _, _ => by
    have : ∀ n, bts 0 n = 0 := by
      intro n
      induction n with
      | zero => rfl
      | succ n ih => rw [bts, ih, Nat.zero_testBit]; rfl
    exact this n
  | K + 1, h1, h2 => by
    have ih := so_cnt K (fun i j hi hj => h1 i j (by omega) (by omega)) (fun i hi => h2 i (by omega))
    rw [soN, or_bts (tf (fun h9 => ?_)) (h2 K (by omega)), ih]
    obtain ⟨j, hj, e⟩ := (so_bit K).mp h9
    have := h1 j K (by omega) (by omega) e
    omega
section TO
variable {a : Nat → Nat} {r : Nat → Nat → Nat} {s : Nat → Nat}
theorem WFT.mk7 (h : WFT a r) {v : Nat} (hv : v < a 0) (hn : mkF (r 3) v (a 10) = none) : a 10 < a 0 := by
  have h1 := so_cnt (a 10) h.2.2.2.2.2.1 h.2.2.2.2.2.2
  have h2 : (soN (r 3) (a 10)).testBit v = false := tf (fun h9 => by
    obtain ⟨j, hj, e⟩ := (so_bit _).mp h9
    exact mkF_none hn j hj e)
  have h3 := or_bts h2 hv
  have h4 := bts_le (soN (r 3) (a 10) ||| 2 ^ v) (a 0)
  omega
theorem TR.lim (h : TR a r s) {x : Nat} (hx : x ≤ 9) : TR (va_up a 2 x) r (va_up s 3 x) := by
  obtain ⟨⟨⟨t0, t1, t2, t3, t4, t5, t6, t7, t8, t9, t10, t11, t12⟩, hG, hg, hd, hm, hk1, hk2⟩, hB, ⟨e0, e1, e2, e3, e4, e5, e6, e7⟩, hag, hmk⟩ := h
  exact ⟨⟨⟨t0, t1, t2, hx, t4, t5, t6, t7, t8, t9, t10, t11, t12⟩, hG, hg, hd, hm, hk1, hk2⟩, hB.u3 hx, ⟨e0, e1, e2, rfl, e4, e5, e6, e7⟩, hag.u (by decide), fun k hk => by rw [sm_u (by decide)]; exact hmk k hk⟩
theorem TR.dn (h : TR a r s) {x : Nat} (hx : x < 4096) (hdx : ∀ k, (a 8).testBit k = true → x.testBit k = false) : TR (va_up a 9 x) r (va_up s 6 x) := by
  obtain ⟨⟨⟨t0, t1, t2, t3, t4, t5, t6, t7, t8, t9, t10, t11, t12⟩, hG, hg, hd, hm, hk1, hk2⟩, hB, ⟨e0, e1, e2, e3, e4, e5, e6, e7⟩, hag, hmk⟩ := h
  exact ⟨⟨⟨t0, t1, t2, t3, t4, t5, t6, t7, t8, t9, hx, t11, t12⟩, hG, hg, hdx, hm, hk1, hk2⟩, hB.u6 hx, ⟨e0, e1, e2, e3, e4, e5, rfl, e7⟩, hag.u (by decide), fun k hk => by rw [sm_u (by decide)]; exact hmk k hk⟩
theorem TR.less (h : TR a r s) {x : Nat} (hx : SU x (a 7)) : TR (va_up a 7 x) r (va_up s 4 x) := by
  obtain ⟨⟨⟨t0, t1, t2, t3, t4, t5, t6, t7, t8, t9, t10, t11, t12⟩, hG, hg, hd, hm, hk1, hk2⟩, hB, ⟨e0, e1, e2, e3, e4, e5, e6, e7⟩, hag, hmk⟩ := h
  have hx8 : x < 128 := Nat.lt_of_le_of_lt (su_le hx) t8
  exact ⟨⟨⟨t0, t1, t2, t3, t4, t5, t6, t7, hx8, t9, t10, t11, t12⟩, hG, hg, hd, fun v hv => hm v (hx v hv), hk1, hk2⟩, hB.u4 hx8, ⟨e0, e1, e2, e3, rfl, e5, e6, e7⟩, hag.u (by decide), fun k hk => by rw [sm_u (by decide)]; exact hmk k hk⟩
theorem TR.tree (h : TR a r s) {x : Nat} (hx : x < 4096) (hg : GT a r x) (hdx : ∀ k, x.testBit k = true → (a 9).testBit k = false) (hmx : ∀ v, (a 7).testBit v = true → (CO a r x).testBit v = true) : TR (va_up a 8 x) r (va_up s 5 x) := by
  obtain ⟨⟨⟨t0, t1, t2, t3, t4, t5, t6, t7, t8, t9, t10, t11, t12⟩, hG, hg0, hd, hm, hk1, hk2⟩, hB, ⟨e0, e1, e2, e3, e4, e5, e6, e7⟩, hag, hmk⟩ := h
  exact ⟨⟨⟨t0, t1, t2, t3, t4, t5, t6, t7, t8, hx, t10, t11, t12⟩, hG, hg, hdx, fun v hv => ⟨(hm v hv).1, (hm v hv).2.1, hmx v hv⟩, hk1, hk2⟩, hB.u5 hx, ⟨e0, e1, e2, e3, e4, rfl, e6, e7⟩, hag.u (by decide), fun k hk => by rw [sm_u (by decide)]; exact hmk k hk⟩
theorem pr_A (h : GA a r) : prA a r = mpN (r 0) (r 1) (a 3) (a 0) (a 1) (a 7) 4096 (a 8) := by
  have hn := h.2.2.2.2.1
  exact pr_mp h.2.2.1 (a 0) (a 8) (cnB_le _ _) (a 0) 4096 (Nat.le_refl _) (by omega)
theorem TR.prn (h : TR a r s) : TR (va_up a 8 (prA a r)) r (va_up s 5 (mpN (sf s) (sg s) (s 1) (s 0) (s 2) (s 4) 4096 (s 5))) := by
  have e : mpN (sf s) (sg s) (s 1) (s 0) (s 2) (s 4) 4096 (s 5) = prA a r := by
    obtain ⟨hw, hB, ⟨e0, e1, e2, e3, e4, e5, e6, e7⟩, hag, hmk⟩ := h
    rw [e0, e1, e2, e4, e5, mpN_cg hag, pr_A hw.2.1]
  have hok := mpN_ok h.1.2.1 (mem := a 7) 4096 (a 8) h.1.2.2.1 (fun v hv => (h.1.2.2.2.2.1 v hv).2.2)
  rw [e]
  rw [← pr_A h.1.2.1] at hok
  exact h.tree (prA_lt h.1.1) hok.1 (fun k hk => h.1.2.2.2.1 k (hok.2.2 k hk)) hok.2.1
theorem TR.leave (h : TR a r s) (v : Nat) : TR (leA a r v) r (leS s v) := by
  have h4 := h.2.2.1.2.2.2.2.1
  have h1 := h.less (x := nd (a 7) (2 ^ v)) (fun i hi => (nb.mp hi).1)
  have h2 := h1.prn
  rw [sf_u (by decide), sg_u (by decide)] at h2
  unfold leS
  rw [h4]
  exact h2
theorem TR.join (h : TR a r s) {v : Nat} (hv : v < a 0) (hns : v ≠ a 1) (hf : WW a r (a 8) v < 1000000) (aw : Nat → Nat) : TR (joA a r v) r (joS s (ME s aw) v) := by
  have hw := h.way aw hv
  unfold joS joA
  rw [hw]
  obtain ⟨⟨hT, hG, hg, hd, hm, hk1, hk2⟩, hB, ⟨e0, e1, e2, e3, e4, e5, e6, e7⟩, hag, hmk⟩ := h
  have ey := wy_eq hG hg hv hf
  have hlt := wyA_lt hT (a 8) v
  rw [ey] at hlt ⊢
  rw [e4, e5]
  have hk := wy_ok hG hg hv hf
  have h7 : a 7 ||| 2 ^ v < 128 := or_lt (n := 7) hT.2.2.2.2.2.2.2.2.1 (pw_lt (by have := hT.2.1; omega))
  have h8 : a 8 ||| YM a r (a 8) v < 4096 := or_lt (n := 12) hT.2.2.2.2.2.2.2.2.2.1 hlt
  have hmo : SU (CO a r (a 8)) (CO a r (a 8 ||| YM a r (a 8) v)) := clo_mono hG (fun k _ hk => obb.mpr (Or.inl hk))
  refine ⟨⟨hT.mt h7 h8, hG, hk.1, ?_, ?_, hk1, hk2⟩, (hB.u4 h7).u5 h8, ⟨e0, e1, e2, e3, rfl, rfl, e6, e7⟩, (hag.u (by decide)).u (by decide), fun k hk => by rw [sm_u (by decide), sm_u (by decide)]; exact hmk k hk⟩
  · intro k hk9
    rcases obb.mp hk9 with h1 | h1
    · exact hd k h1
    · exact (hk.2.2 k h1).2
  · intro u hu
    rcases ob.mp hu with h1 | h1
    · exact ⟨(hm u h1).1, (hm u h1).2.1, hmo u (hm u h1).2.2⟩
    · subst h1
      exact ⟨hns, hv, hk.2.1⟩
/-! marks -/
theorem TR.tm (h : TR a r s) {v : Nat} (hv : v < a 0) : TR (tmP a r v).1 (tmP a r v).2 (mtS s v) := by
  obtain ⟨hw, hB, ⟨e0, e1, e2, e3, e4, e5, e6, e7⟩, hag, hmk⟩ := h
  have hc : mkF (r 3) v (a 10) = none → a 10 < 7 := fun h9 => by
    have := hw.mk7 hv h9
    have := hw.1.2.1
    omega
  have hTB := hw.1.tm (v := v) (by have := hw.1.2.1; omega) hc
  have hmm := mk_mm (v := v) (m' := sm s) (a 10) hw.2.2.2.2.2.1 hmk
  obtain ⟨hT, hG, hg, hd, hm, hk1, hk2⟩ := hw
  have h10 := hT.2.2.2.2.2.2.2.2.2.2.2.1
  have hn7 := hT.2.1
  obtain ⟨b0, b1, b2, b3, b4⟩ := hB
  unfold mtS
  rw [e7, ← hmm]
  unfold tmP at hTB ⊢
  cases hk : mkF (r 3) v (a 10) with
  | none =>
    rw [hk] at hTB
    have hTB : TB (va_up a 10 (a 10 + 1)) (va_up r 3 (va_up (r 3) (a 10) v)) := hTB
    show TR (va_up a 10 (a 10 + 1)) (va_up r 3 (va_up (r 3) (a 10) v)) (va_up (va_up s (8 + a 10) v) 7 (a 10 + 1))
    have hl := hc hk
    have hno := mkF_none hk
    have eo : ∀ j, j ≠ 7 → j ≠ 8 + a 10 → va_up (va_up s (8 + a 10) v) 7 (a 10 + 1) j = s j := fun j h1 h2 => by rw [va_up_ne _ _ h1, va_up_ne _ _ h2]
    refine ⟨⟨hTB, hG, hg, hd, hm, ?_, ?_⟩, ⟨?_, ?_, ?_, ?_, ?_⟩, ⟨(eo 0 (by omega) (by omega)).trans e0, (eo 1 (by omega) (by omega)).trans e1, (eo 2 (by omega) (by omega)).trans e2, (eo 3 (by omega) (by omega)).trans e3, (eo 4 (by omega) (by omega)).trans e4, (eo 5 (by omega) (by omega)).trans e5, (eo 6 (by omega) (by omega)).trans e6, va_up_self _ _ _⟩, ?_, ?_⟩
    · intro i j hi hj
      have hi2 : i < a 10 + 1 := hi
      have hj2 : j < a 10 + 1 := hj
      show va_up (r 3) (a 10) v i = va_up (r 3) (a 10) v j → i = j
      by_cases ei : i = a 10 <;> by_cases ej : j = a 10
      · intro _; omega
      · rw [ei, va_up_self, va_up_ne _ _ ej]
        intro h9; exact absurd h9.symm (hno j (by omega))
      · rw [ej, va_up_self, va_up_ne _ _ ei]
        intro h9; exact absurd h9 (hno i (by omega))
      · rw [va_up_ne _ _ ei, va_up_ne _ _ ej]
        exact hk1 i j (by omega) (by omega)
    · intro i hi
      have hi2 : i < a 10 + 1 := hi
      show va_up (r 3) (a 10) v i < a 0
      by_cases ei : i = a 10
      · rw [ei, va_up_self]; exact hv
      · rw [va_up_ne _ _ ei]; exact hk2 i (by omega)
    · rw [eo 0 (by omega) (by omega), eo 1 (by omega) (by omega), eo 2 (by omega) (by omega), eo 3 (by omega) (by omega), eo 4 (by omega) (by omega), eo 5 (by omega) (by omega), eo 6 (by omega) (by omega), va_up_self]
      exact ⟨b0.1, b0.2.1, b0.2.2.1, b0.2.2.2.1, b0.2.2.2.2.1, b0.2.2.2.2.2.1, b0.2.2.2.2.2.2.1, b0.2.2.2.2.2.2.2.1, by omega⟩
    · intro j hj
      by_cases ej : j = 8 + a 10
      · rw [ej, va_up_ne _ _ (by omega), va_up_self]; omega
      · rw [eo j (by omega) ej]; exact b1 j hj
    · intro j hj; rw [eo _ (by omega) (by omega)]; exact b2 j hj
    · intro j hj; rw [eo _ (by omega) (by omega)]; exact b3 j hj
    · intro j hj
      by_cases ej : 8 + j = 8 + a 10
      · rw [ej, va_up_ne _ _ (by omega), va_up_self]; omega
      · rw [eo _ (by omega) ej]; exact b4 j hj
    · intro k hk9
      have hL := hT.2.2.2.2.1
      have hk8 : k < a 3 := hk9
      have := hag k hk9
      exact ⟨(eo (16 + k) (by omega) (by omega)).trans this.1, (eo (28 + k) (by omega) (by omega)).trans this.2.1, (eo (40 + k) (by omega) (by omega)).trans this.2.2⟩
    · intro k hk9
      have hk8 : k < a 10 + 1 := hk9
      show va_up (va_up s (8 + a 10) v) 7 (a 10 + 1) (8 + k) = va_up (r 3) (a 10) v k
      by_cases ek : k = a 10
      · rw [ek, va_up_ne _ _ (by omega), va_up_self, va_up_self]
      · rw [eo _ (by omega) (by omega), va_up_ne _ _ ek]; exact hmk k (by omega)
  | some j =>
    rw [hk] at hTB
    have hTB : TB (va_up a 10 (a 10 - 1)) (va_up r 3 (va_cpy (r 3) (r 3) (j + 1) j (a 10 - 1 - j))) := hTB
    show TR (va_up a 10 (a 10 - 1)) (va_up r 3 (va_cpy (r 3) (r 3) (j + 1) j (a 10 - 1 - j))) (va_up (va_up (shM s (8 + j) (a 10 - 1 - j)) 7 (a 10 - 1)) (8 + (a 10 - 1)) 0)
    have hj := mkF_lt hk
    have eo : ∀ i, i < 7 ∨ 8 + a 10 ≤ i → va_up (va_up (shM s (8 + j) (a 10 - 1 - j)) 7 (a 10 - 1)) (8 + (a 10 - 1)) 0 i = s i := by
      intro i hi
      rw [va_up_ne _ _ (by omega), va_up_ne _ _ (by omega)]
      unfold shM
      rw [if_neg (by omega)]
    have e7' : va_up (va_up (shM s (8 + j) (a 10 - 1 - j)) 7 (a 10 - 1)) (8 + (a 10 - 1)) 0 7 = a 10 - 1 := by
      rw [va_up_ne _ _ (by omega), va_up_self]
    have em : ∀ i, 8 ≤ i → i < 8 + a 10 → va_up (va_up (shM s (8 + j) (a 10 - 1 - j)) 7 (a 10 - 1)) (8 + (a 10 - 1)) 0 i < 7 := by
      intro i h1 h2
      by_cases ei : i = 8 + (a 10 - 1)
      · rw [ei, va_up_self]; omega
      · rw [va_up_ne _ _ ei, va_up_ne _ _ (by omega)]
        unfold shM
        split
        · have := b4 (i + 1 - 8) (by omega)
          rw [show 8 + (i + 1 - 8) = i + 1 by omega] at this
          exact this
        · have := b4 (i - 8) (by omega)
          rw [show 8 + (i - 8) = i by omega] at this
          exact this
    have ec : ∀ i, va_cpy (r 3) (r 3) (j + 1) j (a 10 - 1 - j) i = if j ≤ i ∧ i < a 10 - 1 then r 3 (i + 1) else r 3 i := by
      intro i
      unfold va_cpy
      by_cases e : j ≤ i ∧ i < j + (a 10 - 1 - j)
      · rw [if_pos e, if_pos (by omega)]
        congr 1; omega
      · rw [if_neg e, if_neg (by omega)]
    refine ⟨⟨hTB, hG, hg, hd, hm, ?_, ?_⟩, ⟨?_, ?_, ?_, ?_, ?_⟩, ⟨(eo 0 (by omega)).trans e0, (eo 1 (by omega)).trans e1, (eo 2 (by omega)).trans e2, (eo 3 (by omega)).trans e3, (eo 4 (by omega)).trans e4, (eo 5 (by omega)).trans e5, (eo 6 (by omega)).trans e6, e7'⟩, ?_, ?_⟩
    · intro i1 i2 hi1 hi2
      have hi3 : i1 < a 10 - 1 := hi1
      have hi4 : i2 < a 10 - 1 := hi2
      show va_cpy (r 3) (r 3) (j + 1) j (a 10 - 1 - j) i1 = va_cpy (r 3) (r 3) (j + 1) j (a 10 - 1 - j) i2 → i1 = i2
      rw [ec, ec]
      by_cases c1 : j ≤ i1 ∧ i1 < a 10 - 1 <;> by_cases c2 : j ≤ i2 ∧ i2 < a 10 - 1
      · rw [if_pos c1, if_pos c2]
        intro h9
        have := hk1 _ _ (by omega) (by omega) h9
        omega
      · rw [if_pos c1, if_neg c2]
        intro h9
        have := hk1 _ _ (by omega) (by omega) h9
        omega
      · rw [if_neg c1, if_pos c2]
        intro h9
        have := hk1 _ _ (by omega) (by omega) h9
        omega
      · rw [if_neg c1, if_neg c2]
        exact hk1 i1 i2 (by omega) (by omega)
    · intro i hi
      have hi3 : i < a 10 - 1 := hi
      show va_cpy (r 3) (r 3) (j + 1) j (a 10 - 1 - j) i < a 0
      rw [ec]
      split
      · exact hk2 _ (by omega)
      · exact hk2 _ (by omega)
    · rw [eo 0 (by omega), eo 1 (by omega), eo 2 (by omega), eo 3 (by omega), eo 4 (by omega), eo 5 (by omega), eo 6 (by omega), e7']
      exact ⟨b0.1, b0.2.1, b0.2.2.1, b0.2.2.2.1, b0.2.2.2.2.1, b0.2.2.2.2.2.1, b0.2.2.2.2.2.2.1, b0.2.2.2.2.2.2.2.1, by omega⟩
    · intro i hi
      rcases Nat.lt_or_ge i (8 + a 10) with h9 | h9
      · have := em i hi h9
        omega
      · rw [eo i (Or.inr h9)]; exact b1 i hi
    · intro i hi; rw [eo _ (by omega)]; exact b2 i hi
    · intro i hi; rw [eo _ (by omega)]; exact b3 i hi
    · intro i hi
      rcases Nat.lt_or_ge (8 + i) (8 + a 10) with h9 | h9
      · exact em (8 + i) (by omega) h9
      · rw [eo _ (Or.inr h9)]; exact b4 i hi
    · intro k hk9
      have hL := hT.2.2.2.2.1
      have hk8 : k < a 3 := hk9
      have := hag k hk9
      exact ⟨(eo (16 + k) (by omega)).trans this.1, (eo (28 + k) (by omega)).trans this.2.1, (eo (40 + k) (by omega)).trans this.2.2⟩
    · intro k hk9
      have hk8 : k < a 10 - 1 := hk9
      show va_up (va_up (shM s (8 + j) (a 10 - 1 - j)) 7 (a 10 - 1)) (8 + (a 10 - 1)) 0 (8 + k) = va_cpy (r 3) (r 3) (j + 1) j (a 10 - 1 - j) k
      rw [ec, va_up_ne _ _ (by omega), va_up_ne _ _ (by omega)]
      unfold shM
      by_cases c1 : j ≤ k ∧ k < a 10 - 1
      · rw [if_pos c1, if_pos (by omega)]
        exact hmk (k + 1) (by omega)
      · rw [if_neg c1, if_neg (by omega)]
        exact hmk k (by omega)
theorem TR.bare (h : TR a r s) : TR (va_up a 10 0) r (baS s) := by
  obtain ⟨⟨hT, hG, hg, hd, hm, hk1, hk2⟩, hB, ⟨e0, e1, e2, e3, e4, e5, e6, e7⟩, hag, hmk⟩ := h
  obtain ⟨b0, b1, b2, b3, b4⟩ := hB
  have eo : ∀ j, j < 7 ∨ 15 ≤ j → baS s j = s j := by
    intro j hj
    unfold baS
    rw [va_up_ne _ _ (by omega)]
    unfold brS
    rw [if_neg (by omega)]
  have ez : ∀ j, 7 ≤ j → j < 15 → baS s j = 0 := by
    intro j h1 h2
    unfold baS
    by_cases e : j = 7
    · rw [e, va_up_self]
    · rw [va_up_ne _ _ e]
      unfold brS
      rw [if_pos (by omega)]
  refine ⟨⟨hT.mc (Nat.zero_le _), hG, hg, hd, hm, fun i j hi => absurd hi (Nat.not_lt_zero _), fun i hi => absurd hi (Nat.not_lt_zero _)⟩, ⟨?_, ?_, ?_, ?_, ?_⟩, ⟨(eo 0 (by omega)).trans e0, (eo 1 (by omega)).trans e1, (eo 2 (by omega)).trans e2, (eo 3 (by omega)).trans e3, (eo 4 (by omega)).trans e4, (eo 5 (by omega)).trans e5, (eo 6 (by omega)).trans e6, ez 7 (by omega) (by omega)⟩, ?_, fun i hi => absurd hi (Nat.not_lt_zero _)⟩
  · rw [eo 0 (by omega), eo 1 (by omega), eo 2 (by omega), eo 3 (by omega), eo 4 (by omega), eo 5 (by omega), eo 6 (by omega), ez 7 (by omega) (by omega)]
    exact ⟨b0.1, b0.2.1, b0.2.2.1, b0.2.2.2.1, b0.2.2.2.2.1, b0.2.2.2.2.2.1, b0.2.2.2.2.2.2.1, b0.2.2.2.2.2.2.2.1, by omega⟩
  · intro j hj
    rcases Nat.lt_or_ge j 15 with h9 | h9
    · rw [ez j (by omega) h9]; omega
    · rw [eo j (Or.inr h9)]; exact b1 j hj
  · intro j hj; rw [eo _ (by omega)]; exact b2 j hj
  · intro j hj; rw [eo _ (by omega)]; exact b3 j hj
  · intro j hj
    rcases Nat.lt_or_ge (8 + j) 15 with h9 | h9
    · rw [ez _ (by omega) h9]; omega
    · rw [eo _ (Or.inr h9)]; exact b4 j hj
  · intro k hk9
    have := hag k hk9
    exact ⟨(eo (16 + k) (by omega)).trans this.1, (eo (28 + k) (by omega)).trans this.2.1, (eo (40 + k) (by omega)).trans this.2.2⟩
theorem TR.rr (h : TR a r s) : TR (rrA a r) r (baS (va_up s 5 (if coS s (anS s) < coS s (s 5) then anS s else s 5))) := by
  have e : (if coS s (anS s) < coS s (s 5) then anS s else s 5) = reT a r := by
    unfold reT
    rw [h.co, h.co, h.an, h.2.2.1.2.2.2.2.2.1]
  rw [e]
  have hA := an_A h.1.2.1 h.1.2.2.2.1 h.1.mm
  have h1 : TR (va_up a 8 (reT a r)) r (va_up s 5 (reT a r)) := by
    unfold reT
    split
    · exact h.tree (anA_lt h.1.1) hA.2.1 hA.2.2.1 hA.2.2.2
    · exact h.tree h.1.1.2.2.2.2.2.2.2.2.2.1 h.1.2.2.1 h.1.2.2.2.1 (fun v hv => (h.1.2.2.2.2.1 v hv).2.2)
  exact h1.bare
theorem TR.mkp (h : TR a r s) {v : Nat} (hv : v < a 0) : TR (mkP a r v).1 (mkP a r v).2 (mkS s v) := by
  have ht := h.tm hv
  have e3 := ht.2.2.1.2.2.2.1
  have e7 := ht.2.2.1.2.2.2.2.2.2.2
  unfold mkP mkS
  rw [e3, e7]
  by_cases e : (tmP a r v).1 2 ≠ 0 ∧ (tmP a r v).1 2 ≤ (tmP a r v).1 10
  · rw [if_pos e, if_pos ⟨by have := e.1; omega, e.2⟩]
    exact ht.rr
  · rw [if_neg e, if_neg (fun h9 => e ⟨by have := h9.1; omega, h9.2⟩)]
    exact ht
/-! cut -/
theorem hk_eq (h : TR a r s) (k : Nat) : hgM s k = cu1 a r k 8 ∧ cu1 a r k 8 = hgS (r 0) (r 1) (a 3) (a 1) (nd (a 8) (2 ^ k)) := by
  have e : cu1 a r k 8 = hgS (r 0) (r 1) (a 3) (a 1) (nd (a 8) (2 ^ k)) := by
    show khN (r 0) (r 1) (nd (a 8) (2 ^ k)) (hgn (r 0) (r 1) (nd (a 8) (2 ^ k)) (a 3) (a 0 - 1) (2 ^ a 1)) (a 3) = _
    rw [hgn_clo h.1.2.1, kh_hg h.1.2.1]
  refine ⟨?_, e⟩
  rw [e]
  unfold hgM
  rw [h.kc, h.2.2.1.2.2.2.2.2.1, h.2.2.1.2.1, mha_cg h.2.2.2.1 _ _ _ (Nat.le_refl _)]
  rfl
theorem cmS_eq (h : TR a r s) (k v : Nat) : cmS s k v = MC (cu1 a r k) r v := by
  have h1 := (hk_eq h k).1
  unfold cmS
  rw [h1, h.2.2.1.1, h.2.2.1.2.1, h.2.2.1.2.2.1, h.2.2.1.2.2.2.2.1, h.2.2.1.2.2.2.2.2.2.1, mcS_cg h.2.2.2.1]
  rfl
theorem TR.cut (h : TR a r s) {k : Nat} (hk : k < a 3) : TR (cu3 a r k) r (cutS s k) ∧ bts (a 7) 12 - bts (cu3 a r k 7) 12 = (cmS s k (s 0)).2.2 := by
  have hG : GA (cu1 a r k) r := h.1.2.1
  have hgb : GT (cu1 a r k) r (cu1 a r k 8) := by
    show Gw (r 0) (r 1) (a 3) (a 1) (cu1 a r k 8)
    rw [(hk_eq h k).2]
    exact h.1.2.2.1.sub h.1.2.1 _ (fun i hi => (nb.mp hi).1)
  obtain ⟨j1, j2, j3, j4, j5, j6, j7⟩ := ja_mc hG hgb (a 0) (Nat.le_refl _)
  have ec : cmS s k (s 0) = MC (cu1 a r k) r (a 0) := by rw [h.2.2.1.1]; exact cmS_eq h k (a 0)
  have hsub := jaS_sub (cu1 a r k) r (a 0)
  have h12 : k < 12 := Nat.lt_of_lt_of_le hk h.1.2.1.2.2.1
  have hT2 : TB (cu2 a r k) r := h.1.1.c2 h12
  have hjl := jaS_lt (h.1.1.c1 h12) (a 0)
  have h9l : a 9 ||| 2 ^ k < 4096 := or_lt (n := 12) h.1.1.2.2.2.2.2.2.2.2.2.2.1 (pw_lt h12)
  refine ⟨?_, ?_⟩
  · have h2 : TR (cu2 a r k) r (va_up (va_up (va_up s 6 (s 6 ||| 2 ^ k)) 4 (cmS s k (s 0)).1) 5 (cmS s k (s 0)).2.1) := by
      rw [ec, ← j1, ← j2, h.2.2.1.2.2.2.2.2.2.1]
      obtain ⟨⟨hT, hG0, hg, hd, hm, hk1, hk2⟩, hB, ⟨e0, e1, e2, e3, e4, e5, e6, e7⟩, hag, hmk⟩ := h
      refine ⟨⟨hT2, hG0, j3, ?_, ?_, hk1, hk2⟩, ((hB.u6 h9l).u4 hjl.1).u5 hjl.2, ⟨e0, e1, e2, e3, rfl, rfl, rfl, e7⟩, ((hag.u (by decide)).u (by decide)).u (by decide), fun k hk => by rw [sm_u (by decide), sm_u (by decide), sm_u (by decide)]; exact hmk k hk⟩
      · intro i hi
        show (a 9 ||| 2 ^ k).testBit i = false
        rcases j4 i hi with h8 | h8
        · have h9 : (hgS (r 0) (r 1) (a 3) (a 1) (nd (a 8) (2 ^ k))).testBit i = true := by
            have := (hk_eq ⟨⟨hT, hG0, hg, hd, hm, hk1, hk2⟩, hB, ⟨e0, e1, e2, e3, e4, e5, e6, e7⟩, hag, hmk⟩ k).2
            rw [← this]; exact h8
          obtain ⟨i1, i2⟩ := nb.mp (hg_bit.mp h9).2.1
          apply tf
          intro h7
          rcases ob.mp h7 with h6 | h6
          · rw [hd i i1] at h6; cases h6
          · exact i2 h6
        · exact h8
      · intro v hv
        have h7 := hm v (hsub v hv)
        exact ⟨h7.1, h7.2.1, j6 v h7.2.1 hv⟩
    have h3 := h2.prn
    rw [up_up] at h3
    rw [sf_u (by decide), sf_u (by decide), sf_u (by decide), sg_u (by decide), sg_u (by decide), sg_u (by decide)] at h3
    exact h3
  · rw [ec]
    show bts (a 7) 12 - bts (jaS (cu1 a r k) r (a 0)).1 12 = _
    have j8 : (MC (cu1 a r k) r (a 0)).2.2 + bts (jaS (cu1 a r k) r (a 0)).1 12 = bts (a 7) 12 := j7
    omega
end TO
