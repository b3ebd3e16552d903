/-! a text, read by both -/
theorem tk_o (te : Nat → Nat) (b : Bool) (q : FS) {j : Nat} (hj : j < 11 ∨ 13 < j) : (tkM te b q).1 j = q.1 j := by
  unfold tkM
  split
  · rfl
  · split
    · show va_up (va_up (va_up q.1 11 _) 12 _) 13 _ j = q.1 j
      rw [va_up_ne _ _ (by omega), va_up_ne _ _ (by omega), va_up_ne _ _ (by omega)]
    · rfl
theorem i1_o (te : Nat → Nat) (x : RS) {j : Nat} (hj : j < 11 ∨ 13 < j) : (it1 te x).2.2.2.2.1 j = x.2.2.2.2.1 j := by
  unfold it1
  split
  · show (fgM te _ _ (tkM te _ _)).1 j = _
    unfold fgM; rw [tk_o _ _ _ hj, tk_o _ _ _ hj]
  · split
    · show (fgM te _ _ (tkM te _ _)).1 j = _
      unfold fgM; rw [tk_o _ _ _ hj, tk_o _ _ _ hj]
    · split
      · show (fgM te _ _ (tkM te _ _)).1 j = _
        unfold fgM; rw [tk_o _ _ _ hj, tk_o _ _ _ hj]
      · split
        · show (rl4 te _ _ _).1 j = _
          unfold rl4 rl3 rl2 rl1 fgM; rw [tk_o _ _ _ hj, tk_o _ _ _ hj, tk_o _ _ _ hj, tk_o _ _ _ hj]
        · exact tk_o _ _ _ hj
theorem im_o (te : Nat → Nat) (x : RS) {j : Nat} (hj : j < 11 ∨ 13 < j) : (itM te x).2.2.2.2.1 j = x.2.2.2.2.1 j := by
  show (tkM te _ (it1 te x).2.2.2.2).1 j = _
  rw [tk_o _ _ _ hj, i1_o _ _ hj]
theorem rdM_o (te : Nat → Nat) {j : Nat} (hj : j < 11 ∨ 13 < j) : ∀ m x, (rdM te m x).2.2.2.2.1 j = x.2.2.2.2.1 j
  | 0, _ => rfl
  | m + 1, x => by
    unfold rdM
    split
    · rw [rdM_o te hj m, im_o _ _ hj]
    · rfl
theorem ri1_1 (z a : Nat → Nat) (r : Nat → Nat → Nat) (tl : Nat → Nat) (it : Nat) : (ri1 z a r tl it).2.1 1 = z 1 := by
  unfold ri1 ndP srP lmP lkP
  have e1 := fgz_1 z tl
  have e2 := fgz_1 (fgz z tl) tl
  have e3 := fgz_1 (fgz (fgz z tl) tl) tl
  split
  · split
    · split <;> exact e1
    · rfl
  · split
    · split
      · split
        · exact e1
        · exact e1
      · rfl
    · split
      · split <;> exact e1
      · split
        · split
          · split
            · exact e1
            · split
              · exact e2.trans e1
              · split
                · exact e3.trans (e2.trans e1)
                · exact e3.trans (e2.trans e1)
          · rfl
        · rfl
theorem riP_1 (z a : Nat → Nat) (r : Nat → Nat → Nat) (tl : Nat → Nat) (it : Nat) : (riP z a r tl it).2.1 1 = z 1 := by
  unfold riP
  split
  · show (tok _ tl) 1 = _
    exact ri1_1 z a r tl it
  · exact ri1_1 z a r tl it
def RR (tl : Nat → Nat) (L1 : Nat) (p : RSt) (x : RS) : Prop := XB p.2.2.1 tl ∧ TB p.2.2.2.1 p.2.2.2.2 ∧ p.2.2.1 1 = L1 ∧ ((p.1 = none ∧ x.2.2.2.2.2 = none ∧ p.2.1 = x.1 ∧ p.2.1 ≤ 120 ∧ DR p.2.2.2.1 p.2.2.2.2 x.2.2.1 ∧ ∃ i, GI p.2.2.2.1 p.2.2.2.2 i) ∨ ∃ q, p.1 = some q ∧ x.2.2.2.2.2 = some q ∧ q ≤ 120)
theorem read_loop {tl : Nat → Nat} : ∀ n i z a r x m, i + n = 120 → HD tl i z a r x → n < m → RR tl (z 1) (rdP tl n i z a r) (rdM tl m x) := by
  intro n
  induction n with
  | zero =>
    intro i z a r x m hi h hm
    obtain ⟨e1, e2, e3, e4, e5, e6, e7, e8, e9, e10, e11⟩ := h
    have hk := e6.kinds.1
    have hz4 : z 4 = 0 := by
      apply Classical.byContradiction
      intro h9
      have h13 : x.2.2.2.2.1 13 ≠ 0 := fun h8 => h9 (hk.mpr h8)
      have h10 := e10.1.2.2.2.2.2.2 h13
      have h2 := e6.2.1
      have h3 := e10.1.2.2.2.1
      have h1 := e6.1
      have hx1 := e9.1
      omega
    have em : rdM tl m x = x := rdM_end (fun h9 => h9.2 (hk.mp hz4))
    rw [em]
    exact ⟨e9, e7.1, rfl, Or.inl ⟨rfl, e5, e1.symm, by show i ≤ 120; omega, e3, i, e8⟩⟩
  | succ n ih =>
    intro i z a r x m hi h hm
    obtain ⟨m', rfl⟩ : ∃ m', m = m' + 1 := ⟨m - 1, by omega⟩
    have hst := item_step h
    obtain ⟨e1, e2, e3, e4, e5, e6, e7, e8, e9, e10, e11⟩ := h
    have hk := e6.kinds.1
    by_cases hz4 : z 4 = 0
    · have em : rdM tl (m' + 1) x = x := rdM_end (fun h9 => h9.2 (hk.mp hz4))
      rw [em, rdP, if_pos hz4]
      exact ⟨e9, e7.1, rfl, Or.inl ⟨rfl, e5, e1.symm, by show i ≤ 120; omega, e3, i, e8⟩⟩
    · have h13 : x.2.2.2.2.1 13 ≠ 0 := fun h8 => hz4 (hk.mpr h8)
      rw [rdM_go e5 h13, rdP, if_neg hz4]
      rcases hst hz4 with ⟨k1, k2⟩ | ⟨k1, k2⟩
      · rw [if_pos k1]
        have := ih (i + 1) _ _ _ _ m' (by omega) k2 (by omega)
        have e : (tok (riP z a r tl i).2.1 tl) 1 = z 1 := riP_1 z a r tl i
        rw [e] at this
        exact this
      · rw [if_neg (ft k1)]
        have em : rdM tl m' (itM tl x) = itM tl x := rdM_end (fun h9 => by rw [k2] at h9; cases h9.1)
        rw [em]
        refine ⟨e9.ri, (TI.ri (z := z) (tl := tl) e7).1, riP_1 z a r tl i, Or.inr ⟨_, rfl, k2, ?_⟩⟩
        exact (XB.ri (a := a) (r := r) (it := i) e9).2.1
theorem read_eq {tl z a zm : Nat → Nat} {r : Nat → Nat → Nat} {d : Nat → Int32} (hX : XB z tl) (h5 : ∀ j, r 0 j < 7) (h6 : ∀ j, r 1 j < 7) (h7 : ∀ j, r 2 j ≤ 9) (h12 : ∀ j, r 3 j < 7) (h1 : z 1 = zm 10) : RR tl (z 1) (rdA z a r tl) (rxA tl zm d) := by
  unfold rdA rxA
  have hX0 : XB (va_up (va_up z 3 0) 6 0) tl := by
    obtain ⟨x1, x2, x3, x4, x5, x6, x7⟩ := hX
    exact ⟨x1, x2, Nat.zero_le _, x4, x5, Nat.zero_le _, x7⟩
  have hT0 : TKR tl (tok (va_up (va_up z 3 0) 6 0) tl) (stZ tl (va_up zm 12 0)) := tok_R (zc := va_up (va_up z 3 0) 6 0) (zm := va_up zm 12 0) h1 rfl (Nat.zero_le _)
  have hz10 : zm 10 ≤ 120 := by rw [← h1]; exact hX.1
  refine read_loop 120 0 (tok (va_up (va_up z 3 0) 6 0) tl) (fiA a) r (rx0 tl zm d) 130 rfl ?_ (by omega)
  refine ⟨rfl, rfl, ?_, rfl, rfl, hT0, TB.fi h5 h6 h7 h12, ?_, hX0.tok, ?_, Nat.zero_le _⟩
  · have hz : ∀ j, j < 52 → j ≠ 0 → upd (dzP d 52) 0 (nI 2) j = nI 0 := by
      intro j hj h0
      rw [upd_n h0]
      unfold dzP
      rw [if_pos hj]
    refine ⟨rfl, hz 1 (by omega) (by omega), hz 2 (by omega) (by omega), hz 3 (by omega) (by omega), fun j _ hj => hz j (by omega) (by omega), fun k hk => absurd hk (Nat.not_lt_zero _), fun k _ hk => ⟨hz _ (by omega) (by omega), hz _ (by omega) (by omega), hz _ (by omega) (by omega)⟩⟩
  · exact ⟨fun k hk => absurd hk (Nat.not_lt_zero _), fun _ => rfl, rfl, rfl, rfl, rfl⟩
  · refine ⟨YB.st hX.2.2.2.2.2.2 hz10 (Nat.zero_le _), Nat.zero_le _, ?_⟩
    show upd (dzP d 52) 0 (nI 2) 1 = nI 0
    rw [upd_n (by decide)]
    unfold dzP
    rw [if_pos (by decide)]
