/-! an item, read by both -/
def OK1 (tl : Nat → Nat) (i : Nat) (p : PSt) (x : RS) : Prop := (p.1 = true ∧ x.2.2.2.2.2 = none ∧ TKR tl (tok p.2.1 tl) x.2.2.2.2.1 ∧ x.1 = i ∧ x.2.1 = decide (p.2.1 6 ≠ 0) ∧ DR p.2.2.1 p.2.2.2 x.2.2.1 ∧ x.2.2.2.1 = p.2.2.1 3 ∧ GI p.2.2.1 p.2.2.2 (i + 1)) ∨ (p.1 = false ∧ x.2.2.2.2.2 = some (p.2.1 2))
theorem it_nodes {tl z a : Nat → Nat} {r : Nat → Nat → Nat} {i : Nat} {hs : Bool} {d : Nat → Int32} {zm : Nat → Nat} (hh : hs = decide (z 6 ≠ 0)) (hd : DR a r d) (hT : TKR tl z zm) (hg : GI a r i) (w : zm 13 = 1) : OK1 tl i (ri1 z a r tl i) (it1 tl (i, hs, d, a 3, zm, none)) := by
  have w0 := (wd_0 hT).mpr w
  have hT1 := hT.nx
  by_cases hi : i = 0
  · subst hi
    have t1 : tkM tl (decide (0 = 0)) (zm, (none : Option Nat)) = (stZ tl zm, none) := rfl
    by_cases hb : fgB z tl 2 7 = true
    · have e1 : ri1 z a r tl 0 = (true, fgz z tl, va_up a 0 (fgz z tl 5), r) := by
        unfold ri1 ndP
        rw [if_pos w0, if_pos rfl, if_pos hb]
      have e2 : it1 tl (0, hs, d, a 3, zm, none) = (0, hs, upd d 0 (nI (fgz z tl 5)), a 3, stZ tl (stZ tl zm), none) := by
        unfold it1
        dsimp only
        rw [if_pos w, t1]
        dsimp only
        rw [show (nI 2) = nI 2 from rfl, fg_M hT1 (by decide) (by decide), if_pos hb, fv_fg hT1, fgz_5 hb]
        rfl
      rw [e1, e2]
      refine Or.inl ⟨rfl, rfl, fg_nx hT1, rfl, ?_, ?_, rfl, ?_⟩
      · show hs = decide (fgz z tl 6 ≠ 0)
        rw [fgz_o (by decide)]; exact hh
      · obtain ⟨d0, d1, d2, d3, d4, d5, d6⟩ := hd
        exact ⟨(show upd d 0 (nI (fgz z tl 5)) 0 = nI (va_up a 0 (fgz z tl 5) 0) from by rw [upd_s, va_up_self]), (upd_n (k := 0) (v := nI (fgz z tl 5)) (by decide)).trans d1, (upd_n (k := 0) (v := nI (fgz z tl 5)) (by decide)).trans d2, (upd_n (k := 0) (v := nI (fgz z tl 5)) (by decide)).trans d3, fun j h1 h2 => (upd_n (k := 0) (v := nI (fgz z tl 5)) (by omega)).trans (d4 j h1 h2), fun k hk => ⟨(upd_n (k := 0) (v := nI (fgz z tl 5)) (by omega)).trans (d5 k hk).1, (upd_n (k := 0) (v := nI (fgz z tl 5)) (by omega)).trans (d5 k hk).2.1, (upd_n (k := 0) (v := nI (fgz z tl 5)) (by omega)).trans (d5 k hk).2.2⟩, fun k hk h12 => ⟨(upd_n (k := 0) (v := nI (fgz z tl 5)) (by omega)).trans (d6 k hk h12).1, (upd_n (k := 0) (v := nI (fgz z tl 5)) (by omega)).trans (d6 k hk h12).2.1, (upd_n (k := 0) (v := nI (fgz z tl 5)) (by omega)).trans (d6 k hk h12).2.2⟩⟩
      · obtain ⟨g1, g2, g3, g4, g5, g6⟩ := hg
        refine ⟨?_, fun h => absurd h (Nat.succ_ne_zero _), g3, g4, g5, g6⟩
        intro k hk
        have h3 : k < a 3 := hk
        rw [g2 rfl] at h3
        exact absurd h3 (Nat.not_lt_zero _)
    · have e1 : ri1 z a r tl 0 = (false, fgz z tl, a, r) := by
        unfold ri1 ndP
        rw [if_pos w0, if_pos rfl, if_neg hb]
      have e2 : (it1 tl (0, hs, d, a 3, zm, none)).2.2.2.2.2 = some (stZ tl zm 11) := by
        unfold it1
        dsimp only
        rw [if_pos w, t1]
        dsimp only
        rw [fg_M hT1 (by decide) (by decide), if_neg hb]
      rw [e1]
      refine Or.inr ⟨rfl, e2.trans ?_⟩
      show some (stZ tl zm 11) = some (fgz z tl 2)
      rw [fgz_o (by decide), hT1.2.1]
  · have t1 : tkM tl (decide (i = 0)) (zm, (none : Option Nat)) = (zm, some (zm 11)) := by rw [decide_eq_false hi]; rfl
    have e1 : ri1 z a r tl i = (false, z, a, r) := by
      unfold ri1
      rw [if_pos w0, if_neg hi]
    have e2 : (it1 tl (i, hs, d, a 3, zm, none)).2.2.2.2.2 = some (zm 11) := by
      unfold it1
      dsimp only
      rw [if_pos w, t1]
      rfl
    rw [e1]
    refine Or.inr ⟨rfl, e2.trans ?_⟩
    show some (zm 11) = some (z 2)
    rw [hT.2.1]
theorem it_source {tl z a : Nat → Nat} {r : Nat → Nat → Nat} {i : Nat} {hs : Bool} {d : Nat → Int32} {zm : Nat → Nat} (hh : hs = decide (z 6 ≠ 0)) (hd : DR a r d) (hT : TKR tl z zm) (hB : TB a r) (hg : GI a r i) (w : zm 13 = 2) : OK1 tl i (ri1 z a r tl i) (it1 tl (i, hs, d, a 3, zm, none)) := by
  have w1 := (wd_1 hT).mpr w
  have w0 : ¬ wdI z tl 0 = true := fun h => absurd ((wd_0 hT).mp h) (by omega)
  have hT1 := hT.nx
  have hlo : d 0 - nI 1 = nI (a 0 - 1) := by rw [hd.1]; exact pk_sub (by have := hB.1; omega)
  have h07 : a 0 - 1 < 2 ^ 31 := by have := hB.2.1; omega
  by_cases hi : z 6 = 0
  · have t1 : tkM tl (!hs) (zm, (none : Option Nat)) = (stZ tl zm, none) := by rw [hh, decide_eq_false (fun h => h hi)]; rfl
    by_cases hb : fgB z tl 0 (a 0 - 1) = true
    · have e1 : ri1 z a r tl i = (true, va_up (fgz z tl) 6 1, va_up a 1 (fgz z tl 5), r) := by
        unfold ri1 srP
        rw [if_neg w0, if_pos w1, if_pos hi, if_pos hb]
      have e2 : it1 tl (i, hs, d, a 3, zm, none) = (i, true, upd d 2 (nI (fgz z tl 5)), a 3, stZ tl (stZ tl zm), none) := by
        unfold it1
        dsimp only
        rw [if_neg (by omega), if_pos w, t1]
        dsimp only
        rw [hlo, fg_M hT1 (by decide) h07, if_pos hb, fv_fg hT1, fgz_5 hb]
        rfl
      rw [e1, e2]
      refine Or.inl ⟨rfl, rfl, ?_, rfl, rfl, ?_, rfl, ?_⟩
      · refine tok_R ?_ ?_ ?_
        · show fgz z tl 1 = _
          rw [fgz_o (by decide)]; exact hT1.1
        · show fgz z tl 3 = _
          rw [fgz_o (by decide)]; exact hT1.2.2.1
        · show fgz z tl 3 ≤ fgz z tl 1
          rw [fgz_o (by decide), fgz_o (by decide)]; exact hT1.2.2.2.2.2.2.2
      · obtain ⟨d0, d1, d2, d3, d4, d5, d6⟩ := hd
        exact ⟨(upd_n (k := 2) (v := nI (fgz z tl 5)) (by decide)).trans d0, (upd_n (k := 2) (v := nI (fgz z tl 5)) (by decide)).trans d1, (show upd d 2 (nI (fgz z tl 5)) 2 = nI (va_up a 1 (fgz z tl 5) 1) from by rw [upd_s, va_up_self]), (upd_n (k := 2) (v := nI (fgz z tl 5)) (by decide)).trans d3, fun j h1 h2 => (upd_n (k := 2) (v := nI (fgz z tl 5)) (by omega)).trans (d4 j h1 h2), fun k hk => ⟨(upd_n (k := 2) (v := nI (fgz z tl 5)) (by omega)).trans (d5 k hk).1, (upd_n (k := 2) (v := nI (fgz z tl 5)) (by omega)).trans (d5 k hk).2.1, (upd_n (k := 2) (v := nI (fgz z tl 5)) (by omega)).trans (d5 k hk).2.2⟩, fun k hk h12 => ⟨(upd_n (k := 2) (v := nI (fgz z tl 5)) (by omega)).trans (d6 k hk h12).1, (upd_n (k := 2) (v := nI (fgz z tl 5)) (by omega)).trans (d6 k hk h12).2.1, (upd_n (k := 2) (v := nI (fgz z tl 5)) (by omega)).trans (d6 k hk h12).2.2⟩⟩
      · obtain ⟨g1, g2, g3, g4, g5, g6⟩ := hg
        exact ⟨g1, fun h => absurd h (Nat.succ_ne_zero _), g3, g4, g5, g6⟩
    · have e1 : ri1 z a r tl i = (false, fgz z tl, a, r) := by
        unfold ri1 srP
        rw [if_neg w0, if_pos w1, if_pos hi, if_neg hb]
      have e2 : (it1 tl (i, hs, d, a 3, zm, none)).2.2.2.2.2 = some (stZ tl zm 11) := by
        unfold it1
        dsimp only
        rw [if_neg (by omega), if_pos w, t1]
        dsimp only
        rw [hlo, fg_M hT1 (by decide) h07, if_neg hb]
      rw [e1]
      refine Or.inr ⟨rfl, e2.trans ?_⟩
      show some (stZ tl zm 11) = some (fgz z tl 2)
      rw [fgz_o (by decide), hT1.2.1]
  · have t1 : tkM tl (!hs) (zm, (none : Option Nat)) = (zm, some (zm 11)) := by rw [hh, decide_eq_true hi]; rfl
    have e1 : ri1 z a r tl i = (false, z, a, r) := by
      unfold ri1
      rw [if_neg w0, if_pos w1, if_neg hi]
    have e2 : (it1 tl (i, hs, d, a 3, zm, none)).2.2.2.2.2 = some (zm 11) := by
      unfold it1
      dsimp only
      rw [if_neg (by omega), if_pos w, t1]
      rfl
    rw [e1]
    refine Or.inr ⟨rfl, e2.trans ?_⟩
    show some (zm 11) = some (z 2)
    rw [hT.2.1]
theorem it_limit {tl z a : Nat → Nat} {r : Nat → Nat → Nat} {i : Nat} {hs : Bool} {d : Nat → Int32} {zm : Nat → Nat} (hh : hs = decide (z 6 ≠ 0)) (hd : DR a r d) (hT : TKR tl z zm) (hg : GI a r i) (w : zm 13 = 3) : OK1 tl i (ri1 z a r tl i) (it1 tl (i, hs, d, a 3, zm, none)) := by
  have w2 := (wd_2 hT).mpr w
  have w0 : ¬ wdI z tl 0 = true := fun h => absurd ((wd_0 hT).mp h) (by omega)
  have w1 : ¬ wdI z tl 1 = true := fun h => absurd ((wd_1 hT).mp h) (by omega)
  have hT1 := hT.nx
  have t1 : tkM tl true (zm, (none : Option Nat)) = (stZ tl zm, none) := rfl
  by_cases hb : fgB z tl 0 9 = true
  · have e1 : ri1 z a r tl i = (true, fgz z tl, va_up a 2 (fgz z tl 5), r) := by
      unfold ri1 lmP
      rw [if_neg w0, if_neg w1, if_pos w2, if_pos hb]
    have e2 : it1 tl (i, hs, d, a 3, zm, none) = (i, hs, upd d 3 (nI (fgz z tl 5)), a 3, stZ tl (stZ tl zm), none) := by
      unfold it1
      dsimp only
      rw [if_neg (by omega), if_neg (by omega), if_pos w, t1]
      dsimp only
      rw [fg_M hT1 (by decide) (by decide), if_pos hb, fv_fg hT1, fgz_5 hb]
      rfl
    rw [e1, e2]
    refine Or.inl ⟨rfl, rfl, fg_nx hT1, rfl, ?_, ?_, rfl, ?_⟩
    · show hs = decide (fgz z tl 6 ≠ 0)
      rw [fgz_o (by decide)]; exact hh
    · obtain ⟨d0, d1, d2, d3, d4, d5, d6⟩ := hd
      exact ⟨(upd_n (k := 3) (v := nI (fgz z tl 5)) (by decide)).trans d0, (upd_n (k := 3) (v := nI (fgz z tl 5)) (by decide)).trans d1, (upd_n (k := 3) (v := nI (fgz z tl 5)) (by decide)).trans d2, (show upd d 3 (nI (fgz z tl 5)) 3 = nI (va_up a 2 (fgz z tl 5) 2) from by rw [upd_s, va_up_self]), fun j h1 h2 => (upd_n (k := 3) (v := nI (fgz z tl 5)) (by omega)).trans (d4 j h1 h2), fun k hk => ⟨(upd_n (k := 3) (v := nI (fgz z tl 5)) (by omega)).trans (d5 k hk).1, (upd_n (k := 3) (v := nI (fgz z tl 5)) (by omega)).trans (d5 k hk).2.1, (upd_n (k := 3) (v := nI (fgz z tl 5)) (by omega)).trans (d5 k hk).2.2⟩, fun k hk h12 => ⟨(upd_n (k := 3) (v := nI (fgz z tl 5)) (by omega)).trans (d6 k hk h12).1, (upd_n (k := 3) (v := nI (fgz z tl 5)) (by omega)).trans (d6 k hk h12).2.1, (upd_n (k := 3) (v := nI (fgz z tl 5)) (by omega)).trans (d6 k hk h12).2.2⟩⟩
    · obtain ⟨g1, g2, g3, g4, g5, g6⟩ := hg
      exact ⟨g1, fun h => absurd h (Nat.succ_ne_zero _), g3, g4, g5, g6⟩
  · have e1 : ri1 z a r tl i = (false, fgz z tl, a, r) := by
      unfold ri1 lmP
      rw [if_neg w0, if_neg w1, if_pos w2, if_neg hb]
    have e2 : (it1 tl (i, hs, d, a 3, zm, none)).2.2.2.2.2 = some (stZ tl zm 11) := by
      unfold it1
      dsimp only
      rw [if_neg (by omega), if_neg (by omega), if_pos w, t1]
      dsimp only
      rw [fg_M hT1 (by decide) (by decide), if_neg hb]
    rw [e1]
    refine Or.inr ⟨rfl, e2.trans ?_⟩
    show some (stZ tl zm 11) = some (fgz z tl 2)
    rw [fgz_o (by decide), hT1.2.1]
theorem it_link {tl z a : Nat → Nat} {r : Nat → Nat → Nat} {i : Nat} {hs : Bool} {d : Nat → Int32} {zm : Nat → Nat} (hh : hs = decide (z 6 ≠ 0)) (hd : DR a r d) (hT : TKR tl z zm) (hB : TB a r) (hg : GI a r i) (w : zm 13 = 4) : OK1 tl i (ri1 z a r tl i) (it1 tl (i, hs, d, a 3, zm, none)) := by
  have w3 := (wd_3 hT).mpr w
  have w0 : ¬ wdI z tl 0 = true := fun h => absurd ((wd_0 hT).mp h) (by omega)
  have w1 : ¬ wdI z tl 1 = true := fun h => absurd ((wd_1 hT).mp h) (by omega)
  have w2 : ¬ wdI z tl 2 = true := fun h => absurd ((wd_2 hT).mp h) (by omega)
  have hT1 := hT.nx
  have hT2 := fg_nx hT1
  have hT3 := fg_nx hT2
  have hlo : d 0 - nI 1 = nI (a 0 - 1) := by rw [hd.1]; exact pk_sub (by have := hB.1; omega)
  have h07 : a 0 - 1 < 2 ^ 31 := by have := hB.2.1; omega
  have ei : it1 tl (i, hs, d, a 3, zm, none) = (i, hs, rlD tl d (a 3) (zm, none), rlL tl d (a 3) (zm, none), rl4 tl d (a 3) (zm, none)) := by
    unfold it1
    dsimp only
    rw [if_neg (by omega), if_neg (by omega), if_neg (by omega), if_pos w]
  rw [ei]
  by_cases h12 : a 3 < 12
  · have t1 : rl1 tl (a 3) (zm, (none : Option Nat)) = (stZ tl zm, none) := by unfold rl1; rw [decide_eq_true h12]; rfl
    have er : ri1 z a r tl i = lkP z a r tl := by
      unfold ri1
      rw [if_neg w0, if_neg w1, if_neg w2, if_pos w3, if_pos h12]
    rw [er]
    by_cases hb1 : fgB z tl 0 (a 0 - 1) = true
    · have t2 : rl2 tl d (a 3) (zm, (none : Option Nat)) = (stZ tl (stZ tl zm), none) := by
        unfold rl2
        rw [t1, hlo, fg_M hT1 (by decide) h07, if_pos hb1]
      have f1 := fgz_5 hb1
      have l1 := fgB_le hb1
      have o1 : oN (fvM tl (rl1 tl (a 3) (zm, (none : Option Nat))).1) = nI (fgz z tl 5) := by rw [t1]; show oN (fvM tl (stZ tl zm)) = _; rw [fv_fg hT1, f1]; rfl
      by_cases hb2 : fgB (fgz z tl) tl 0 (a 0 - 1) = false ∨ fgz (fgz z tl) tl 5 = fgz z tl 5 ∨ lnkB a r (fgz z tl 5) (fgz (fgz z tl) tl 5) = true
      · have el : lkP z a r tl = (false, fgz (fgz z tl) tl, a, r) := by
          unfold lkP
          rw [if_neg (by rw [hb1]; decide), if_pos hb2]
        have tb : rlB tl d (a 3) (zm, (none : Option Nat)) = false := by
          unfold rlB
          rw [o1, t2]
          dsimp only
          rw [hlo, fg_B hT2 (by decide) h07]
          cases e2 : fgB (fgz z tl) tl 0 (a 0 - 1)
          · rfl
          · have f2 := fgz_5 e2
            have l2 := fgB_le e2
            rw [fv_fg hT2, f2]
            show (true && !decide (nI (fgz (fgz z tl) tl 5) = nI (fgz z tl 5)) && !alB d (nI (fgz z tl 5)) (nI (fgz (fgz z tl) tl 5)) (a 3)) = false
            rcases hb2 with h1 | h1 | h1
            · rw [e2] at h1; cases h1
            · rw [h1, decide_eq_true rfl]; rfl
            · by_cases e3 : fgz (fgz z tl) tl 5 = fgz z tl 5
              · rw [e3, decide_eq_true rfl]; rfl
              · rw [ln_al hd (fun k hk => ⟨by have := (hg.1 k hk).1; have := hB.2.1; omega, by have := (hg.1 k hk).2.1; have := hB.2.1; omega⟩) (by have := hB.2.1; omega) (by have := hB.2.1; omega) e3, h1]
                simp
        have t3 : rl3 tl d (a 3) (zm, (none : Option Nat)) = (stZ tl (stZ tl zm), some (stZ tl (stZ tl zm) 11)) := by
          unfold rl3
          rw [tb, t2]; rfl
        have t4 : rl4 tl d (a 3) (zm, (none : Option Nat)) = (stZ tl (stZ tl zm), some (stZ tl (stZ tl zm) 11)) := by
          unfold rl4
          rw [t3]; rfl
        rw [el]
        refine Or.inr ⟨rfl, ?_⟩
        show (rl4 tl d (a 3) (zm, (none : Option Nat))).2 = some (fgz (fgz z tl) tl 2)
        rw [t4, fgz_o (by decide), hT2.2.1]
      · have e2 : fgB (fgz z tl) tl 0 (a 0 - 1) = true := bt_nf (fun h => hb2 (Or.inl h))
        have e3 : ¬ fgz (fgz z tl) tl 5 = fgz z tl 5 := fun h => hb2 (Or.inr (Or.inl h))
        have e4 : lnkB a r (fgz z tl 5) (fgz (fgz z tl) tl 5) = false := tf (fun h => hb2 (Or.inr (Or.inr h)))
        have f2 := fgz_5 e2
        have l2 := fgB_le e2
        have o2 : oN (fvM tl (rl2 tl d (a 3) (zm, (none : Option Nat))).1) = nI (fgz (fgz z tl) tl 5) := by rw [t2]; show oN (fvM tl (stZ tl (stZ tl zm))) = _; rw [fv_fg hT2, f2]; rfl
        have tb : rlB tl d (a 3) (zm, (none : Option Nat)) = true := by
          unfold rlB
          rw [o1, o2, ln_al hd (fun k hk => ⟨by have := (hg.1 k hk).1; have := hB.2.1; omega, by have := (hg.1 k hk).2.1; have := hB.2.1; omega⟩) (by have := hB.2.1; omega) (by have := hB.2.1; omega) e3, e4, decide_eq_false (fun h => e3 (nI_ij (by omega) (by omega) h)), hlo, in_nn (by decide) (by omega) h07, decide_eq_true l2]
          rfl
        have t3 : rl3 tl d (a 3) (zm, (none : Option Nat)) = (stZ tl (stZ tl (stZ tl zm)), none) := by
          unfold rl3
          rw [tb, t2]; rfl
        by_cases hb3 : fgB (fgz (fgz z tl) tl) tl 1 9 = true
        · have el : lkP z a r tl = (true, fgz (fgz (fgz z tl) tl) tl, va_up a 3 (a 3 + 1), adR a r (fgz z tl 5) (fgz (fgz z tl) tl 5) (fgz (fgz (fgz z tl) tl) tl 5)) := by
            unfold lkP
            rw [if_neg (by rw [hb1]; decide), if_neg hb2, if_neg (by rw [hb3]; decide)]
          have t4 : rl4 tl d (a 3) (zm, (none : Option Nat)) = (stZ tl (stZ tl (stZ tl (stZ tl zm))), none) := by
            unfold rl4
            rw [t3, fg_M hT3 (by decide) (by decide), if_pos hb3]
          have f3 := fgz_5 hb3
          have l3 := fgB_le hb3
          have o3 : oN (fvM tl (rl3 tl d (a 3) (zm, (none : Option Nat))).1) = nI (fgz (fgz (fgz z tl) tl) tl 5) := by rw [t3]; show oN (fvM tl (stZ tl (stZ tl (stZ tl zm)))) = _; rw [fv_fg hT3, f3]; rfl
          have tD : rlD tl d (a 3) (zm, (none : Option Nat)) = upd (upd (upd (upd d (16 + a 3) (nI (fgz z tl 5))) (28 + a 3) (nI (fgz (fgz z tl) tl 5))) (40 + a 3) (nI (fgz (fgz (fgz z tl) tl) tl 5))) 1 (nI (a 3 + 1)) := by
            unfold rlD
            rw [if_pos (by rw [t4]), o1, o2, o3]
          have tL : rlL tl d (a 3) (zm, (none : Option Nat)) = a 3 + 1 := by
            unfold rlL
            rw [if_pos (by rw [t4])]
          rw [el, tD, tL, t4]
          have u0 : ∀ j, j ≠ 1 → j ≠ 40 + a 3 → j ≠ 28 + a 3 → j ≠ 16 + a 3 → upd (upd (upd (upd d (16 + a 3) (nI (fgz z tl 5))) (28 + a 3) (nI (fgz (fgz z tl) tl 5))) (40 + a 3) (nI (fgz (fgz (fgz z tl) tl) tl 5))) 1 (nI (a 3 + 1)) j = d j := by
            intro j j1 j2 j3 j4
            rw [upd_n j1, upd_n j2, upd_n j3, upd_n j4]
          have hDR : DR (va_up a 3 (a 3 + 1)) (adR a r (fgz z tl 5) (fgz (fgz z tl) tl 5) (fgz (fgz (fgz z tl) tl) tl 5)) (upd (upd (upd (upd d (16 + a 3) (nI (fgz z tl 5))) (28 + a 3) (nI (fgz (fgz z tl) tl 5))) (40 + a 3) (nI (fgz (fgz (fgz z tl) tl) tl 5))) 1 (nI (a 3 + 1))) := by
            obtain ⟨d0, d1, d2, d3, d4, d5, d6⟩ := hd
            refine ⟨(u0 0 (by omega) (by omega) (by omega) (by omega)).trans d0, (show upd (upd (upd (upd d (16 + a 3) (nI (fgz z tl 5))) (28 + a 3) (nI (fgz (fgz z tl) tl 5))) (40 + a 3) (nI (fgz (fgz (fgz z tl) tl) tl 5))) 1 (nI (a 3 + 1)) 1 = nI (va_up a 3 (a 3 + 1) 3) from by rw [upd_s, va_up_self]), (u0 2 (by omega) (by omega) (by omega) (by omega)).trans d2, (u0 3 (by omega) (by omega) (by omega) (by omega)).trans d3, fun j h1 h2 => (u0 j (by omega) (by omega) (by omega) (by omega)).trans (d4 j h1 h2), ?_, ?_⟩
            · intro k hk
              have hk2 : k < a 3 + 1 := hk
              by_cases e9 : k = a 3
              · subst e9
                refine ⟨?_, ?_, ?_⟩
                · show (upd (upd (upd (upd d (16 + a 3) (nI (fgz z tl 5))) (28 + a 3) (nI (fgz (fgz z tl) tl 5))) (40 + a 3) (nI (fgz (fgz (fgz z tl) tl) tl 5))) 1 (nI (a 3 + 1))) _ = nI (va_up (r 0) (a 3) (fgz z tl 5) (a 3))
                  rw [upd_n (by omega), upd_n (by omega), upd_n (by omega), upd_s, va_up_self]
                · show (upd (upd (upd (upd d (16 + a 3) (nI (fgz z tl 5))) (28 + a 3) (nI (fgz (fgz z tl) tl 5))) (40 + a 3) (nI (fgz (fgz (fgz z tl) tl) tl 5))) 1 (nI (a 3 + 1))) _ = nI (va_up (r 1) (a 3) (fgz (fgz z tl) tl 5) (a 3))
                  rw [upd_n (by omega), upd_n (by omega), upd_s, va_up_self]
                · show (upd (upd (upd (upd d (16 + a 3) (nI (fgz z tl 5))) (28 + a 3) (nI (fgz (fgz z tl) tl 5))) (40 + a 3) (nI (fgz (fgz (fgz z tl) tl) tl 5))) 1 (nI (a 3 + 1))) _ = nI (va_up (r 2) (a 3) (fgz (fgz (fgz z tl) tl) tl 5) (a 3))
                  rw [upd_n (by omega), upd_s, va_up_self]
              · have hd5 := d5 k (by omega)
                refine ⟨?_, ?_, ?_⟩
                · show (upd (upd (upd (upd d (16 + a 3) (nI (fgz z tl 5))) (28 + a 3) (nI (fgz (fgz z tl) tl 5))) (40 + a 3) (nI (fgz (fgz (fgz z tl) tl) tl 5))) 1 (nI (a 3 + 1))) _ = nI (va_up (r 0) (a 3) (fgz z tl 5) k)
                  rw [u0 _ (by omega) (by omega) (by omega) (by omega), va_up_ne _ _ e9]; exact hd5.1
                · show (upd (upd (upd (upd d (16 + a 3) (nI (fgz z tl 5))) (28 + a 3) (nI (fgz (fgz z tl) tl 5))) (40 + a 3) (nI (fgz (fgz (fgz z tl) tl) tl 5))) 1 (nI (a 3 + 1))) _ = nI (va_up (r 1) (a 3) (fgz (fgz z tl) tl 5) k)
                  rw [u0 _ (by omega) (by omega) (by omega) (by omega), va_up_ne _ _ e9]; exact hd5.2.1
                · show (upd (upd (upd (upd d (16 + a 3) (nI (fgz z tl 5))) (28 + a 3) (nI (fgz (fgz z tl) tl 5))) (40 + a 3) (nI (fgz (fgz (fgz z tl) tl) tl 5))) 1 (nI (a 3 + 1))) _ = nI (va_up (r 2) (a 3) (fgz (fgz (fgz z tl) tl) tl 5) k)
                  rw [u0 _ (by omega) (by omega) (by omega) (by omega), va_up_ne _ _ e9]; exact hd5.2.2
            · intro k hk k12
              have hk2 : a 3 + 1 ≤ k := hk
              have hd6 := d6 k (by omega) k12
              exact ⟨(u0 _ (by omega) (by omega) (by omega) (by omega)).trans hd6.1, (u0 _ (by omega) (by omega) (by omega) (by omega)).trans hd6.2.1, (u0 _ (by omega) (by omega) (by omega) (by omega)).trans hd6.2.2⟩
          refine Or.inl ⟨rfl, rfl, fg_nx hT3, rfl, ?_, hDR, rfl, ?_⟩
          · show hs = decide (fgz (fgz (fgz z tl) tl) tl 6 ≠ 0)
            rw [fgz_o (by decide)]
            show hs = decide (fgz (fgz z tl) tl 6 ≠ 0)
            rw [fgz_o (by decide)]
            show hs = decide (fgz z tl 6 ≠ 0)
            rw [fgz_o (by decide)]; exact hh
          · obtain ⟨g1, g2, g3, g4, g5, g6⟩ := hg
            refine ⟨?_, fun h => absurd h (Nat.succ_ne_zero _), g3, g4, g5, g6⟩
            intro k hk
            have hk2 : k < a 3 + 1 := hk
            have h0 := hB.1
            show va_up (r 0) (a 3) (fgz z tl 5) k < a 0 ∧ va_up (r 1) (a 3) (fgz (fgz z tl) tl 5) k < a 0 ∧ va_up (r 0) (a 3) (fgz z tl 5) k ≠ va_up (r 1) (a 3) (fgz (fgz z tl) tl 5) k ∧ 1 ≤ va_up (r 2) (a 3) (fgz (fgz (fgz z tl) tl) tl 5) k ∧ va_up (r 2) (a 3) (fgz (fgz (fgz z tl) tl) tl 5) k ≤ 9
            by_cases e9 : k = a 3
            · subst e9
              rw [va_up_self, va_up_self, va_up_self]
              exact ⟨by omega, by omega, fun e => e3 e.symm, l3.1, l3.2⟩
            · rw [va_up_ne _ _ e9, va_up_ne _ _ e9, va_up_ne _ _ e9]
              exact g1 k (by omega)
        · have el : lkP z a r tl = (false, fgz (fgz (fgz z tl) tl) tl, a, r) := by
            unfold lkP
            rw [if_neg (by rw [hb1]; decide), if_neg hb2, if_pos (tf hb3)]
          have t4 : rl4 tl d (a 3) (zm, (none : Option Nat)) = (stZ tl (stZ tl (stZ tl zm)), some (stZ tl (stZ tl (stZ tl zm)) 11)) := by
            unfold rl4
            rw [t3, fg_M hT3 (by decide) (by decide), if_neg hb3]
          rw [el]
          refine Or.inr ⟨rfl, ?_⟩
          show (rl4 tl d (a 3) (zm, (none : Option Nat))).2 = some (fgz (fgz (fgz z tl) tl) tl 2)
          rw [t4, fgz_o (by decide), hT3.2.1]
    · have el : lkP z a r tl = (false, fgz z tl, a, r) := by
        unfold lkP
        rw [if_pos (tf hb1)]
      have t2 : rl2 tl d (a 3) (zm, (none : Option Nat)) = (stZ tl zm, some (stZ tl zm 11)) := by
        unfold rl2
        rw [t1, hlo, fg_M hT1 (by decide) h07, if_neg hb1]
      have t3 : rl3 tl d (a 3) (zm, (none : Option Nat)) = (stZ tl zm, some (stZ tl zm 11)) := by
        unfold rl3
        rw [t2]; rfl
      have t4 : rl4 tl d (a 3) (zm, (none : Option Nat)) = (stZ tl zm, some (stZ tl zm 11)) := by
        unfold rl4
        rw [t3]; rfl
      rw [el]
      refine Or.inr ⟨rfl, ?_⟩
      show (rl4 tl d (a 3) (zm, (none : Option Nat))).2 = some (fgz z tl 2)
      rw [t4, fgz_o (by decide), hT1.2.1]
  · have er : ri1 z a r tl i = (false, z, a, r) := by
      unfold ri1
      rw [if_neg w0, if_neg w1, if_neg w2, if_pos w3, if_neg h12]
    have t1 : rl1 tl (a 3) (zm, (none : Option Nat)) = (zm, some (zm 11)) := by unfold rl1; rw [decide_eq_false h12]; rfl
    have t2 : rl2 tl d (a 3) (zm, (none : Option Nat)) = (zm, some (zm 11)) := by unfold rl2; rw [t1]; rfl
    have t3 : rl3 tl d (a 3) (zm, (none : Option Nat)) = (zm, some (zm 11)) := by unfold rl3; rw [t2]; rfl
    have t4 : rl4 tl d (a 3) (zm, (none : Option Nat)) = (zm, some (zm 11)) := by unfold rl4; rw [t3]; rfl
    rw [er]
    refine Or.inr ⟨rfl, ?_⟩
    show (rl4 tl d (a 3) (zm, (none : Option Nat))).2 = some (z 2)
    rw [t4, hT.2.1]
theorem it_all {tl z a : Nat → Nat} {r : Nat → Nat → Nat} {i : Nat} {hs : Bool} {d : Nat → Int32} {zm : Nat → Nat} (hh : hs = decide (z 6 ≠ 0)) (hd : DR a r d) (hT : TKR tl z zm) (hB : TB a r) (hg : GI a r i) : OK1 tl i (ri1 z a r tl i) (it1 tl (i, hs, d, a 3, zm, none)) := by
  by_cases w1 : zm 13 = 1
  · exact it_nodes hh hd hT hg w1
  · by_cases w2 : zm 13 = 2
    · exact it_source hh hd hT hB hg w2
    · by_cases w3 : zm 13 = 3
      · exact it_limit hh hd hT hg w3
      · by_cases w4 : zm 13 = 4
        · exact it_link hh hd hT hB hg w4
        · have e1 : ri1 z a r tl i = (false, z, a, r) := by
            unfold ri1
            rw [if_neg (fun h => w1 ((wd_0 hT).mp h)), if_neg (fun h => w2 ((wd_1 hT).mp h)), if_neg (fun h => w3 ((wd_2 hT).mp h)), if_neg (fun h => w4 ((wd_3 hT).mp h))]
          have e2 : (it1 tl (i, hs, d, a 3, zm, none)).2.2.2.2.2 = some (zm 11) := by
            unfold it1
            dsimp only
            rw [if_neg w1, if_neg w2, if_neg w3, if_neg w4]
            rfl
          rw [e1]
          refine Or.inr ⟨rfl, e2.trans ?_⟩
          show some (zm 11) = some (z 2)
          rw [hT.2.1]
theorem tk_s (te : Nat → Nat) (b : Bool) (x : FS) {q : Nat} (h : x.2 = some q) : (tkM te b x).2 = some q := by
  obtain ⟨z, fo⟩ := x
  have : fo = some q := h
  subst this
  rfl
/-- a whole item -/
theorem item_step {tl z a : Nat → Nat} {r : Nat → Nat → Nat} {i : Nat} {x : RS} (h : HD tl i z a r x) (h0 : z 4 ≠ 0) : ((riP z a r tl i).1 = true ∧ HD tl (i + 1) (tok (riP z a r tl i).2.1 tl) (riP z a r tl i).2.2.1 (riP z a r tl i).2.2.2 (itM tl x)) ∨ ((riP z a r tl i).1 = false ∧ (itM tl x).2.2.2.2.2 = some ((riP z a r tl i).2.1 2)) := by
  obtain ⟨xi, hs, d, L, zm, fo⟩ := x
  obtain ⟨e1, e2, e3, e4, e5, e6, e7, e8, e9, e10, e11⟩ := h
  dsimp only at e1 e2 e3 e4 e5 e6
  subst e1
  subst e4
  subst e5
  have hz13 : zm 13 ≠ 0 := fun h9 => h0 (e6.kinds.1.mpr h9)
  have hk := it_all e2 e3 e6 e7.1 e8
  have hTI : TI (riP z a r tl xi).2.2.1 (riP z a r tl xi).2.2.2 (xi + 1) := e7.ri
  have hXB : XB (riP z a r tl xi).2.1 tl := e9.ri
  have hYR := e10.it
  have hon := it_on e10
  revert hTI hXB hYR hon
  unfold itM it2 riP
  generalize hx1 : it1 tl (xi, hs, d, a 3, zm, none) = x1 at hk ⊢
  generalize hp1 : ri1 z a r tl xi = p1 at hk ⊢
  intro hTI hXB hYR hon
  rcases hk with ⟨k1, k2, k3, k4, k5, k6, k7, k8⟩ | ⟨k1, k2⟩
  · rw [if_pos k1] at hTI hXB ⊢
    have hkd := k3.kinds.2.2
    have ex : x1.2.2.2.2 = (x1.2.2.2.2.1, none) := by rw [← k2]
    by_cases e : tok p1.2.1 tl 4 = 3
    · have et : tkM tl (decide (x1.2.2.2.2.1 13 = 6)) x1.2.2.2.2 = (stZ tl x1.2.2.2.2.1, none) := by
        rw [decide_eq_true (hkd.mp e), ex]; rfl
      left
      refine ⟨decide_eq_true e, ?_⟩
      have hon2 := hon (by rw [et]) hz13
      rw [et] at hYR hon2 ⊢
      refine ⟨by show x1.1 + 1 = xi + 1; rw [k4], k5, k6, k7, rfl, k3.nx, hTI, k8, hXB.tok, hYR, ?_⟩
      have h11 : (tok (tok p1.2.1 tl) tl) 2 = (stZ tl x1.2.2.2.2.1) 11 := k3.nx.2.1
      have h2 := e6.2.1
      have h12 : zm 11 < stZ tl x1.2.2.2.2.1 11 := hon2
      show xi + 1 ≤ (tok (tok p1.2.1 tl) tl) 2
      omega
    · right
      have et : tkM tl (decide (x1.2.2.2.2.1 13 = 6)) x1.2.2.2.2 = (x1.2.2.2.2.1, some (x1.2.2.2.2.1 11)) := by
        rw [decide_eq_false (fun h9 => e (hkd.mpr h9)), ex]; rfl
      refine ⟨decide_eq_false e, ?_⟩
      show (tkM tl (decide (x1.2.2.2.2.1 13 = 6)) x1.2.2.2.2).2 = some (tok p1.2.1 tl 2)
      rw [et, k3.2.1]
  · right
    rw [if_neg (ft k1)]
    refine ⟨rfl, ?_⟩
    exact tk_s tl _ _ k2
