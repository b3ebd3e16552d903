/-! talks as they must be; made anew; cut -/
abbrev CO (a : Nat → Nat) (r : Nat → Nat → Nat) (t : Nat) : Nat := clo (r 0) (r 1) t (a 3) (a 1)
abbrev WW (a : Nat → Nat) (r : Nat → Nat → Nat) (t : Nat) : Nat → Nat := W0 (r 0) (r 1) (r 2) (a 9) (a 3) (a 0) (CO a r t)
abbrev GA (a : Nat → Nat) (r : Nat → Nat → Nat) : Prop := GH (r 0) (r 1) (r 2) (a 3) (a 0) (a 1)
abbrev GT (a : Nat → Nat) (r : Nat → Nat → Nat) (t : Nat) : Prop := Gw (r 0) (r 1) (a 3) (a 1) t
abbrev YM (a : Nat → Nat) (r : Nat → Nat → Nat) (t v : Nat) : Nat := wyM (r 0) (r 1) (r 2) (a 9) (a 3) (a 0) (a 1) t v
abbrev LE (a : Nat → Nat) (r : Nat → Nat → Nat) (t : Nat) : Nat := leF (r 0) (r 1) (a 3) (a 1) (a 7) t
abbrev NN (a : Nat → Nat) (r : Nat → Nat → Nat) (q t : Nat) : Nat := mnN (r 0) (r 1) (r 2) (a 9) (a 3) (a 0) (a 1) (a 7) q t
def WFT (a : Nat → Nat) (r : Nat → Nat → Nat) : Prop := TB a r ∧ GA a r ∧ GT a r (a 8) ∧ (∀ k, (a 8).testBit k = true → (a 9).testBit k = false) ∧ (∀ v, (a 7).testBit v = true → v ≠ a 1 ∧ v < a 0 ∧ (CO a r (a 8)).testBit v = true) ∧ (∀ i j, i < a 10 → j < a 10 → r 3 i = r 3 j → i = j) ∧ ∀ i, i < a 10 → r 3 i < a 0
theorem up_bit (a : Nat → Nat) {k : Nat} (hk : k < a 3) : (upA a).testBit k = !(a 9).testBit k := by
  unfold upA
  rw [nd_bit, Nat.testBit_two_pow_sub_one, decide_eq_true hk, Bool.true_and]
theorem maS_ex {w : Nat → Nat} {left v : Nat} (hb : left.testBit v = true) : ∀ k, v < k → maS w left k ≠ none
  | 0, h => absurd h (Nat.not_lt_zero _)
  | k + 1, h => by
    rw [maS]
    cases h1 : maS w left k with
    | none =>
      by_cases e : v = k
      · subst e
        dsimp only
        rw [if_pos hb]
        intro h9; cases h9
      · exact absurd h1 (maS_ex hb k (by omega))
    | some u =>
      dsimp only
      split
      · intro h9; cases h9
      · intro h9; cases h9
theorem nrS_0 {w : Nat → Nat} : ∀ k, nrS w 0 k = none
  | 0 => rfl
  | k + 1 => by
    rw [nrS, nrS_0 k]
    dsimp only
    rw [if_neg (fun h => zb h.1)]
theorem nr_ma {n : Nat} {w1 w2 : Nat → Nat} {wanted : Nat} (hs : Both n w1 w2) (hw : ∀ v, v < n → wanted.testBit v = true → w1 v < 1048576) : ∀ k, k ≤ n → nrS w1 wanted k = maS w2 wanted k
  | 0, _ => rfl
  | k + 1, hk => by
    have ih := nr_ma hs hw k (by omega)
    have a := hs k (by omega)
    rw [nrS, maS, ih]
    cases h1 : maS w2 wanted k with
    | none =>
      dsimp only
      by_cases e : wanted.testBit k = true
      · rw [if_pos ⟨e, hw k (by omega) e⟩, if_pos e]
      · rw [if_neg (fun h => e h.1), if_neg e]
    | some u =>
      have hu := maS_lt h1
      have b := hs u (by omega)
      have hwu := hw u (by omega) hu.2
      dsimp only
      by_cases e : wanted.testBit k = true
      · have hwk := hw k (by omega) e
        have e1 : w1 k = w2 k := by omega
        have e2 : w1 u = w2 u := by omega
        rw [e1, e2]
        by_cases e3 : w2 k / 16 < w2 u / 16
        · rw [if_pos ⟨e, by omega, e3⟩, if_pos ⟨e, e3⟩]
        · rw [if_neg (fun h => e3 h.2.2), if_neg (fun h => e3 h.2)]
      · rw [if_neg (fun h => e h.1), if_neg (fun h => e h.1)]
theorem bts_pos {x i : Nat} (hi : x.testBit i = true) {m : Nat} (hm : i < m) : 0 < bts x m := by
  have := bts_lt (x := 0) (y := x) (fun j hj => (zb hj).elim) (Nat.zero_testBit i) hi m hm
  omega
section AN
variable {a : Nat → Nat} {r : Nat → Nat → Nat} {t T : Nat}
theorem WW_ds (h : GA a r) (t : Nat) : DS (r 0) (r 1) (r 2) (upA a) (a 3) (a 0) (CO a r t) 1000000 (WW a r t) := W0_ds h (fun _ hk => up_bit a hk) _
theorem no_eq (h : GA a r) (hg : GT a r t) : noA a r t = CO a r t := nof_clo h (hg.cn h)
theorem wtA_eq (h : GA a r) (hg : GT a r t) : wtA a r t = wtN (r 0) (r 1) (r 2) (upA a) (a 3) (a 0) (CO a r t) := by
  unfold wtA
  rw [no_eq h hg]
theorem both_A (h : GA a r) (hg : GT a r t) : Both (a 0) (wtA a r t) (WW a r t) := by
  rw [wtA_eq h hg]
  intro v hv
  exact (wtN_ds h _ _).same h (WW_ds h t) (by decide) (by decide) hv
theorem wy_eq (h : GA a r) (hg : GT a r t) {v : Nat} (hv : v < a 0) (hf : WW a r t v < 1000000) : wyA a r t v = YM a r t v := by
  have hb := both_A h hg
  have hbv := hb v hv
  exact lfr_wfM h (fun _ hk => up_bit a hk) hb (WW_ds h t) 6 v 0 7 1000000 hv (by omega) ((WW_ds h t).bd h hv hf).2 (by omega) (by omega)
theorem wy_inf (h : GA a r) (hg : GT a r t) {v : Nat} (hv : v < a 0) (hf : ¬ WW a r t v < 1000000) : wyA a r t v = 0 := by
  have hbv := both_A h hg v hv
  exact lfr_inf h (both_A h hg) (by omega) 7 0
theorem wt_0 (h : GA a r) (hg : GT a r t) {v : Nat} (hv : (CO a r t).testBit v = true) : wtA a r t v = 0 := by
  have hn := clo_n h hv
  have hbv := both_A h hg v hn
  have := (WW_ds h t).2.2.1 v hn hv
  omega
theorem wy_0 (h : GA a r) (hg : GT a r t) {v : Nat} (hv : (CO a r t).testBit v = true) : wyA a r t v = 0 := lfr_0 (wt_0 h hg hv) 7 0
theorem wy_ok (h : GA a r) (hg : GT a r t) {v : Nat} (hv : v < a 0) (hf : WW a r t v < 1000000) : GT a r (t ||| YM a r t v) ∧ (CO a r (t ||| YM a r t v)).testBit v = true ∧ ∀ k, (YM a r t v).testBit k = true → k < a 3 ∧ (a 9).testBit k = false := by
  have := way_gw h (fun _ hk => up_bit a hk) (WW_ds h t) hg 6 v 1000000 hv hf ((WW_ds h t).bd h hv hf).2 (by omega)
  exact ⟨this.1, this.2.1, this.2.2.2⟩
theorem WA_ok (h : GA a r) : WA (r 0) (r 1) (r 2) (a 9) (a 3) (a 0) := fun goals => ds_wok h (fun _ hk => up_bit a hk) (W0_ds h (fun _ hk => up_bit a hk) goals)
theorem WW_fin (h : GA a r) (hT : ∀ k, T.testBit k = true → (a 9).testBit k = false) {v : Nat} (hv : (CO a r T).testBit v = true) : WW a r t v < 1000000 := by
  refine (WW_ds h t).fin h (by decide) (s := T) ?_ (clo_src _ _ _ _ _) hv
  intro k hk hs
  rw [up_bit a hk, hT k hs]; rfl
theorem an_round (h : GA a r) (hT : ∀ k, T.testBit k = true → (a 9).testBit k = false) (hm : ∀ v, (a 7).testBit v = true → v < a 0 ∧ (CO a r T).testBit v = true) (hg : GT a r t) (h0 : LE a r t ≠ 0) : ∃ v, maS (WW a r t) (LE a r t) (a 0) = some v ∧ nrS (wtA a r t) (nd (a 7) (noA a r t)) (a 0) = some v ∧ v < a 0 ∧ (LE a r t).testBit v = true ∧ WW a r t v < 1000000 := by
  obtain ⟨i, hi⟩ := nz_bit h0
  have hi7 := hm i (ndb.mp hi).1
  have hx := maS_ex (w := WW a r t) hi (a 0) hi7.1
  cases e : maS (WW a r t) (LE a r t) (a 0) with
  | none => exact absurd e hx
  | some v =>
    have hv := maS_lt e
    have hfin : ∀ v, (LE a r t).testBit v = true → WW a r t v < 1000000 := fun v hv => WW_fin h hT (hm v (ndb.mp hv).1).2
    refine ⟨v, rfl, ?_, hv.1, hv.2, hfin v hv.2⟩
    rw [no_eq h hg]
    have hb := both_A h hg
    refine (nr_ma hb (fun u hu hub => ?_) (a 0) (Nat.le_refl _)).trans e
    have h1 := hfin u hub
    have h2 := hb u hu
    omega
theorem le_lt (h : GA a r) (hg : GT a r t) {v : Nat} (hv : (LE a r t).testBit v = true) (hv0 : v < a 0) (hf : WW a r t v < 1000000) : SU (LE a r (t ||| YM a r t v)) (LE a r t) ∧ (LE a r (t ||| YM a r t v)).testBit v = false := by
  have hk := wy_ok h hg hv0 hf
  have hmo : SU (CO a r t) (CO a r (t ||| YM a r t v)) := clo_mono h (fun k _ hk => obb.mpr (Or.inl hk))
  refine ⟨fun i hi => ?_, ?_⟩
  · obtain ⟨h1, h2⟩ := ndb.mp hi
    refine ndb.mpr ⟨h1, ?_⟩
    apply tf
    intro h3
    exact absurd (hmo i h3) (ft h2)
  · apply tf
    intro h3
    exact absurd hk.2.1 (ft (ndb.mp h3).2)
theorem an_ok (h : GA a r) (hT : ∀ k, T.testBit k = true → (a 9).testBit k = false) (hm : ∀ v, (a 7).testBit v = true → v < a 0 ∧ (CO a r T).testBit v = true) : AnOK (r 0) (r 1) (r 2) (a 9) (a 3) (a 0) (a 1) (a 7) := by
  refine ⟨fun t => GT a r t, Gw.z _ _ _ _, ?_⟩
  intro t _ hg h0
  obtain ⟨v, e1, _, e3, e4, e5⟩ := an_round h hT hm hg h0
  have hl := le_lt h hg e4 e3 e5
  refine ⟨v, e1, e5, WA_ok h _, (wy_ok h hg e3 e5).1, ?_⟩
  refine Nat.lt_of_le_of_ne (su_le hl.1) ?_
  intro e
  have : (LE a r (t ||| YM a r t v)).testBit v = true := by
    show (leF (r 0) (r 1) (a 3) (a 1) (a 7) (t ||| wyM (r 0) (r 1) (r 2) (a 9) (a 3) (a 0) (a 1) t v)).testBit v = true
    rw [e]; exact e4
  rw [hl.2] at this; cases this
theorem an_eq (h : GA a r) (hT : ∀ k, T.testBit k = true → (a 9).testBit k = false) (hm : ∀ v, (a 7).testBit v = true → v < a 0 ∧ (CO a r T).testBit v = true) : ∀ m t, GT a r t → bts (LE a r t) 7 ≤ m → ∀ p q, m ≤ p → m ≤ q → anw a r p t = NN a r q t ∧ GT a r (NN a r q t) ∧ (∀ k, (NN a r q t).testBit k = true → t.testBit k = true ∨ (a 9).testBit k = false) ∧ LE a r (NN a r q t) = 0 := by
  have hn7 := h.2.2.2.2.1
  have hz : ∀ t, GT a r t → LE a r t = 0 → ∀ p q, anw a r p t = NN a r q t ∧ GT a r (NN a r q t) ∧ (∀ k, (NN a r q t).testBit k = true → t.testBit k = true ∨ (a 9).testBit k = false) ∧ LE a r (NN a r q t) = 0 := by
    intro t hg h0 p q
    have e : NN a r q t = t := mnN_end h0
    rw [e]
    refine ⟨?_, hg, fun k hk => Or.inl hk, h0⟩
    cases p with
    | zero => rfl
    | succ p =>
      have e2 : nd (a 7) (noA a r t) = 0 := by rw [no_eq h hg]; exact h0
      rw [anw, e2, nrS_0]
  intro m
  induction m with
  | zero =>
    intro t hg hb p q _ _
    refine hz t hg ?_ p q
    apply Classical.byContradiction
    intro h0
    obtain ⟨i, hi⟩ := nz_bit h0
    have := bts_pos hi (m := 7) (by have := (hm i (ndb.mp hi).1).1; omega)
    omega
  | succ m ih =>
    intro t hg hb p q hp hq
    by_cases h0 : LE a r t = 0
    · exact hz t hg h0 p q
    · obtain ⟨v, e1, e2, e3, e4, e5⟩ := an_round h hT hm hg h0
      have hl := le_lt h hg e4 e3 e5
      have hk := wy_ok h hg e3 e5
      obtain ⟨p', rfl⟩ : ∃ p', p = p' + 1 := ⟨p - 1, by omega⟩
      obtain ⟨q', rfl⟩ : ∃ q', q = q' + 1 := ⟨q - 1, by omega⟩
      have hlt := bts_lt hl.1 hl.2 e4 7 (by omega)
      have := ih (t ||| YM a r t v) hk.1 (by omega) p' q' (by omega) (by omega)
      have en : NN a r (q' + 1) t = NN a r q' (t ||| YM a r t v) := mnN_go h0 e1
      have ea : anw a r (p' + 1) t = anw a r p' (t ||| YM a r t v) := by
        rw [anw, e2]
        show anw a r p' (t ||| wyA a r t v) = _
        rw [wy_eq h hg e3 e5]
      rw [en, ea]
      refine ⟨this.1, this.2.1, ?_, this.2.2.2⟩
      intro k hk2
      rcases this.2.2.1 k hk2 with h9 | h9
      · rcases obb.mp h9 with h8 | h8
        · exact Or.inl h8
        · exact Or.inr (hk.2.2 k h8).2
      · exact Or.inr h9
theorem an_A (h : GA a r) (hT : ∀ k, T.testBit k = true → (a 9).testBit k = false) (hm : ∀ v, (a 7).testBit v = true → v < a 0 ∧ (CO a r T).testBit v = true) : anA a r = NN a r 128 0 ∧ GT a r (anA a r) ∧ (∀ k, (anA a r).testBit k = true → (a 9).testBit k = false) ∧ ∀ v, (a 7).testBit v = true → (CO a r (anA a r)).testBit v = true := by
  have hn7 := h.2.2.2.2.1
  have hb : bts (LE a r 0) 7 ≤ a 0 := by
    rw [bts_top (L := a 0) (fun i hi => tf (fun h9 => by have := (hm i (ndb.mp h9).1).1; omega)) 7 hn7]
    exact bts_le _ _
  have := an_eq h hT hm (a 0) 0 (Gw.z _ _ _ _) hb (a 0) 128 (Nat.le_refl _) (by omega)
  have e : anA a r = NN a r 128 0 := this.1
  rw [e]
  refine ⟨rfl, this.2.1, fun k hk => ?_, fun v hv => ?_⟩
  · rcases this.2.2.1 k hk with h9 | h9
    · exact (zb h9).elim
    · exact h9
  · exact nd_0.mp this.2.2.2 v hv
theorem bts_nd {M v : Nat} (h : M.testBit v = true) (hv : v < 12) : bts (nd M (2 ^ v)) 12 + 1 = bts M 12 := by
  refine (bts_add (x := nd M (2 ^ v)) (y := M) (fun i hi => (nb.mp hi).1) (i := v) (tf (fun h9 => (nb.mp h9).2 rfl)) h ?_ 12 hv).symm
  intro j hj
  rw [nd_bit, Nat.testBit_two_pow, decide_eq_false (fun e => hj e.symm)]
  simp
abbrev MC (a : Nat → Nat) (r : Nat → Nat → Nat) (v : Nat) : Nat × Nat × Nat := mcS (r 0) (r 1) (r 2) (a 9) (a 3) (a 0) (a 1) (a 7) (a 8) v
theorem ja_mc (h : GA a r) (hg : GT a r (a 8)) : ∀ v, v ≤ a 0 → (jaS a r v).1 = (MC a r v).1 ∧ (jaS a r v).2 = (MC a r v).2.1 ∧ GT a r (jaS a r v).2 ∧ (∀ k, (jaS a r v).2.testBit k = true → (a 8).testBit k = true ∨ (a 9).testBit k = false) ∧ SU (CO a r (a 8)) (CO a r (jaS a r v).2) ∧ (∀ u, u < v → (jaS a r v).1.testBit u = true → (CO a r (jaS a r v).2).testBit u = true) ∧ (MC a r v).2.2 + bts (jaS a r v).1 12 = bts (a 7) 12
  | 0, _ => ⟨rfl, rfl, hg, fun k hk => Or.inl hk, SU.rf _, fun u hu => absurd hu (Nat.not_lt_zero _), Nat.zero_add _⟩
  | v + 1, hv => by
    obtain ⟨e1, e2, e3, e4, e5, e6, e7⟩ := ja_mc h hg v (by omega)
    have hn7 := h.2.2.2.2.1
    cases hM : (jaS a r v).1.testBit v
    · have ej : jaS a r (v + 1) = jaS a r v := by rw [jaS, if_neg (ft hM)]
      have em : MC a r (v + 1) = MC a r v := by
        show mcS _ _ _ _ _ _ _ _ _ (v + 1) = _
        rw [mcS, if_neg]
        intro h9
        rw [e1] at hM
        exact absurd h9.1 (ft hM)
      rw [ej, em]
      refine ⟨e1, e2, e3, e4, e5, ?_, e7⟩
      intro u hu hb
      by_cases e : u = v
      · subst e; rw [hM] at hb; cases hb
      · exact e6 u (by omega) hb
    · cases hc : (CO a r (jaS a r v).2).testBit v
      · by_cases hf : WW a r (jaS a r v).2 v < 1000000
        · have hbv := both_A h e3 v (by omega)
          have ej : jaS a r (v + 1) = ((jaS a r v).1, (jaS a r v).2 ||| YM a r (jaS a r v).2 v) := by
            rw [jaS, if_pos hM, if_pos (by omega), wy_eq h e3 (by omega) hf]
          have em : MC a r (v + 1) = ((MC a r v).1, (MC a r v).2.1 ||| YM a r (MC a r v).2.1 v, (MC a r v).2.2 + 0) := by
            show mcS _ _ _ _ _ _ _ _ _ (v + 1) = _
            rw [e1] at hM
            rw [e2] at hc hf
            rw [mcS, if_pos ⟨hM, hc⟩, if_pos hf]
          have hk := wy_ok h e3 (by omega : v < a 0) hf
          have hmo : SU (CO a r (jaS a r v).2) (CO a r ((jaS a r v).2 ||| YM a r (jaS a r v).2 v)) := clo_mono h (fun k _ hk => obb.mpr (Or.inl hk))
          rw [ej, em]
          refine ⟨e1, by rw [e2], hk.1, ?_, e5.tr hmo, ?_, e7⟩
          · intro k hk2
            rcases obb.mp hk2 with h9 | h9
            · exact e4 k h9
            · exact Or.inr (hk.2.2 k h9).2
          · intro u hu hb
            by_cases e : u = v
            · subst e; exact hk.2.1
            · exact hmo u (e6 u (by omega) hb)
        · have hbv := both_A h e3 v (by omega)
          have ej : jaS a r (v + 1) = (nd (jaS a r v).1 (2 ^ v), (jaS a r v).2 ||| 0) := by
            rw [jaS, if_pos hM, if_neg (by omega), wy_inf h e3 (by omega) hf]
          have em : MC a r (v + 1) = (nd (MC a r v).1 (2 ^ v), (MC a r v).2.1 ||| 0, (MC a r v).2.2 + 1) := by
            show mcS _ _ _ _ _ _ _ _ _ (v + 1) = _
            rw [e1] at hM
            rw [e2] at hc hf
            rw [mcS, if_pos ⟨hM, hc⟩, if_neg hf]
          rw [ej, em, Nat.or_zero, Nat.or_zero]
          refine ⟨by rw [e1], e2, e3, e4, e5, ?_, ?_⟩
          · intro u hu hb
            obtain ⟨hb1, hb2⟩ := nb.mp hb
            exact e6 u (by omega) hb1
          · have := bts_nd hM (by omega)
            show (MC a r v).2.2 + 1 + bts (nd (jaS a r v).1 (2 ^ v)) 12 = _
            omega
      · have hw := wt_0 h e3 hc
        have ej : jaS a r (v + 1) = jaS a r v := by
          rw [jaS, if_pos hM, if_pos (by omega), wy_0 h e3 hc, Nat.or_zero]
        have em : MC a r (v + 1) = MC a r v := by
          show mcS _ _ _ _ _ _ _ _ _ (v + 1) = _
          rw [mcS, if_neg]
          intro h9
          rw [e2] at hc
          exact absurd hc (ft h9.2)
        rw [ej, em]
        refine ⟨e1, e2, e3, e4, e5, ?_, e7⟩
        intro u hu hb
        by_cases e : u = v
        · subst e; exact hc
        · exact e6 u (by omega) hb
end AN
