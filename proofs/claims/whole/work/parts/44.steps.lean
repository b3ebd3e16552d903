/-! the steps of ways; trees grow by them -/
theorem byO_nxt {f g : Nat → Nat} {k v : Nat} (h : (edg f g k).testBit v = true) : byO f g k v = some (nxt f g k v) := by
  unfold byO nxt
  rcases eb.mp h with h1 | h1
  · rw [if_pos h1, if_pos h1]
  · by_cases e : f k = v
    · rw [if_pos e, if_pos e]
    · rw [if_neg e, if_neg e, if_pos h1]
theorem byO_no {f g : Nat → Nat} {k v : Nat} (h : (edg f g k).testBit v = false) : byO f g k v = none := by
  unfold byO
  have h1 : ¬ (f k = v ∨ g k = v) := fun h2 => absurd (eb.mpr h2) (ft h)
  rw [if_neg (fun e => h1 (Or.inl e)), if_neg (fun e => h1 (Or.inr e))]
theorem byO_jn {f g : Nat → Nat} {k v b : Nat} (h : byO f g k v = some b) : JN f g k v b := by
  unfold byO at h
  split at h
  · rename_i e; cases h; exact Or.inl ⟨e, rfl⟩
  · split at h
    · rename_i e; cases h; exact Or.inr ⟨rfl, e⟩
    · cases h
theorem jn_byO {f g : Nat → Nat} {k v b : Nat} (hne : f k ≠ g k) (h : JN f g k v b) : byO f g k v = some b := by
  unfold byO
  rcases h with ⟨e1, e2⟩ | ⟨e1, e2⟩
  · rw [if_pos e1, e2]
  · rw [if_neg (fun e => hne (e.trans e2.symm)), if_pos e2, e1]
theorem byO_edg {f g : Nat → Nat} {k v : Nat} : byO f g k v ≠ none ↔ (edg f g k).testBit v = true := by
  cases h : (edg f g k).testBit v
  · rw [byO_no h]; simp
  · rw [byO_nxt h]; simp
theorem nlS_none7 {f g c w : Nat → Nat} {dn v : Nat} : ∀ k, (nlS f g c w dn v k).1 = none → (nlS f g c w dn v k).2 = 7
  | 0, _ => rfl
  | k + 1, h => by
    cases hb : byO f g k v with
    | none => rw [nlS_none hb] at h ⊢; exact nlS_none7 k h
    | some b =>
      by_cases hc : dn.testBit k = false ∧ w b + 16 * c k + 1 = w v ∧ b < (nlS f g c w dn v k).2
      · rw [nlS_yes hb hc.1 hc.2.1 hc.2.2] at h; cases h
      · rw [nlS_no hb hc] at h ⊢; exact nlS_none7 k h
theorem nlS_ex {f g c w : Nat → Nat} {dn v k0 b : Nat} (hb : byO f g k0 v = some b) (h1 : dn.testBit k0 = false) (h2 : w b + 16 * c k0 + 1 = w v) (h3 : b < 7) : ∀ k, k0 < k → (nlS f g c w dn v k).1 ≠ none
  | 0, h => absurd h (Nat.not_lt_zero _)
  | k + 1, h => by
    by_cases e : k0 = k
    · subst e
      by_cases hn : (nlS f g c w dn v k0).1 = none
      · have := nlS_none7 k0 hn
        rw [nlS_yes hb h1 h2 (by omega)]
        intro h9; cases h9
      · by_cases hc : dn.testBit k0 = false ∧ w b + 16 * c k0 + 1 = w v ∧ b < (nlS f g c w dn v k0).2
        · rw [nlS_yes hb hc.1 hc.2.1 hc.2.2]
          intro h9; cases h9
        · rw [nlS_no hb hc]; exact hn
    · have ih := nlS_ex hb h1 h2 h3 k (by omega) (g := g) (f := f) (c := c) (w := w) (dn := dn)
      cases hb2 : byO f g k v with
      | none => rw [nlS_none hb2]; exact ih
      | some b2 =>
        by_cases hc : dn.testBit k = false ∧ w b2 + 16 * c k + 1 = w v ∧ b2 < (nlS f g c w dn v k).2
        · rw [nlS_yes hb2 hc.1 hc.2.1 hc.2.2]
          intro h9; cases h9
        · rw [nlS_no hb2 hc]; exact ih
theorem fsS_no {f g c w : Nat → Nat} {us v : Nat} : ∀ k, (∀ j, j < k → us.testBit j = true → (edg f g j).testBit v = true → w (nxt f g j v) + (c j * 16 + 1) ≠ w v) → fsS f g c w us v k = (none, 7)
  | 0, _ => rfl
  | k + 1, h => by
    have ih := fsS_no k (fun j hj => h j (by omega)) (f := f) (g := g) (c := c) (w := w) (us := us) (v := v)
    rw [fsS, if_neg (fun h9 => h k (by omega) h9.1 h9.2.1 h9.2.2.2), ih]
section ST
variable {f g c : Nat → Nat} {L n src us dn : Nat}
abbrev Both (n : Nat) (w1 w2 : Nat → Nat) : Prop := ∀ v, v < n → (w1 v < 1048576 ∧ w2 v < 1000000 ∧ w1 v = w2 v ∧ w1 v ≤ 870) ∨ (w1 v = 1048576 ∧ w2 v = 1000000)
theorem fs_nl (h : GH f g c L n src) (hud : ∀ k, k < L → us.testBit k = !dn.testBit k) {w1 w2 : Nat → Nat} (hs : Both n w1 w2) {v : Nat} (hv : v < n) (hf : w1 v < 1048576) : ∀ k, k ≤ L → fsS f g c w1 us v k = nlS f g c w2 dn v k
  | 0, _ => rfl
  | k + 1, hk => by
    have ih := fs_nl h hud hs hv hf k (by omega)
    have hu := hud k (by omega)
    cases he : (edg f g k).testBit v
    · rw [nlS_none (byO_no he), fsS, if_neg (fun h9 => absurd h9.2.1 (ft he)), ih]
    · have hb := byO_nxt he
      have hbn : nxt f g k v < n := (h.jn (by omega : k < L) (byO_jn hb)).2.1
      have h1 := hs v hv
      have h2 := hs _ hbn
      have hc9 := (h.2.2.2.2.2.2 k (by omega)).2.2.2.2
      by_cases hc : dn.testBit k = false ∧ w2 (nxt f g k v) + 16 * c k + 1 = w2 v ∧ nxt f g k v < (nlS f g c w2 dn v k).2
      · rw [nlS_yes hb hc.1 hc.2.1 hc.2.2, fsS, ih, if_pos]
        refine ⟨?_, he, hc.2.2, ?_⟩
        · rw [hu, hc.1]; rfl
        · have := hc.2.1
          omega
      · rw [nlS_no hb hc, fsS, ih, if_neg]
        intro h9
        apply hc
        refine ⟨?_, ?_, h9.2.2.1⟩
        · have h10 := h9.1
          rw [hu] at h10
          cases hd : dn.testBit k
          · rfl
          · rw [hd] at h10; cases h10
        · have := h9.2.2.2
          omega
theorem fsO_nl (h : GH f g c L n src) (hud : ∀ k, k < L → us.testBit k = !dn.testBit k) {w1 w2 : Nat → Nat} (hs : Both n w1 w2) {v : Nat} (hv : v < n) (hf : w1 v < 1048576) : fsO f g c w1 us L v = nlO f g c w2 dn L v := by
  unfold fsO nlO
  rw [fs_nl h hud hs hv hf L (Nat.le_refl _)]
theorem fsO_0 {w : Nat → Nat} {v : Nat} (h0 : w v = 0) : fsO f g c w us L v = none := by
  unfold fsO
  rw [fsS_no L (fun j _ _ _ => by omega)]
theorem fsO_inf (h : GH f g c L n src) {w1 w2 : Nat → Nat} (hs : Both n w1 w2) {v : Nat} (h0 : w1 v = 1048576) : fsO f g c w1 us L v = none := by
  unfold fsO
  rw [fsS_no L (fun j hj _ he => by
    have hbn : nxt f g j v < n := (h.jn hj (byO_jn (byO_nxt he))).2.1
    have h2 := hs _ hbn
    have hc9 := (h.2.2.2.2.2.2 j hj).2.2.2.2
    omega)]
theorem nl_ex (h : GH f g c L n src) (hud : ∀ k, k < L → us.testBit k = !dn.testBit k) {goals INF : Nat} {w : Nat → Nat} (d : DS f g c us L n goals INF w) {v : Nat} (hv : v < n) (h0 : 0 < w v) (hI : w v < INF) : ∃ k b, nlO f g c w dn L v = some k ∧ byO f g k v = some b ∧ b < n ∧ w b + wtK c k = w v ∧ dn.testBit k = false ∧ k < L := by
  rcases d.2.1 v hv with h1 | h1 | ⟨k, u, h1, h2, h3⟩
  · omega
  · omega
  · have hne := h.ne h1.1
    have hu := (h.jn h1.1 h2).2.1
    have hd : dn.testBit k = false := by
      have := hud k h1.1
      rw [h1.2] at this
      cases hd : dn.testBit k
      · rfl
      · rw [hd] at this; cases this
    have e : wtK c k = c k * 16 + 1 := rfl
    have hx := nlS_ex (c := c) (w := w) (jn_byO hne h2) hd (by omega) (Nat.lt_of_lt_of_le hu h.2.2.2.2.1) L h1.1
    cases hn : (nlS f g c w dn v L).1 with
    | none => exact absurd hn hx
    | some j =>
      obtain ⟨b, e1, e2, e3, _⟩ := nlS_eq hn
      have hj := nlS_lt hn
      have e4 : wtK c j = c j * 16 + 1 := rfl
      exact ⟨j, b, hn, e1, (h.jn hj (byO_jn e1)).2.1, by omega, e2, hj⟩
theorem ds_wok (h : GH f g c L n src) (hud : ∀ k, k < L → us.testBit k = !dn.testBit k) {goals : Nat} {w : Nat → Nat} (d : DS f g c us L n goals 1000000 w) : WOK f g c w dn L n := by
  intro v hv h0 hI
  obtain ⟨k, b, h1, h2, h3, h4, _⟩ := nl_ex h hud d hv h0 hI
  have e : wtK c k = c k * 16 + 1 := rfl
  exact ⟨k, b, h1, h2, h3, by omega⟩
theorem wfM_or {w : Nat → Nat} : ∀ m v set, wfM f g c w dn L m v set = set ||| wfM f g c w dn L m v 0
  | 0, _, set => (Nat.or_zero set).symm
  | m + 1, v, set => by
    unfold wfM
    split
    · exact (Nat.or_zero set).symm
    · split
      · exact (Nat.or_zero set).symm
      · rename_i k hk
        split
        · exact (Nat.or_zero set).symm
        · rename_i b hb
          rw [wfM_or m b (set ||| 2 ^ k), wfM_or m b (0 ||| 2 ^ k), Nat.zero_or, Nat.or_assoc]
/-- both go the same way -/
theorem lfr_wfM (h : GH f g c L n src) (hud : ∀ k, k < L → us.testBit k = !dn.testBit k) {goals : Nat} {w1 w2 : Nat → Nat} (hs : Both n w1 w2) (d : DS f g c us L n goals 1000000 w2) : ∀ m v set p q, v < n → w1 v < 1048576 → w2 v % 16 ≤ m → m ≤ p → m ≤ q → lfr f g c w1 us L p v set = wfM f g c w2 dn L q v set := by
  have hz : ∀ v set p q, v < n → w1 v < 1048576 → w2 v = 0 → lfr f g c w1 us L p v set = wfM f g c w2 dn L q v set := by
    intro v set p q hv hf h0
    rw [wfM_at h0]
    cases p with
    | zero => rfl
    | succ p =>
      have h1 : w1 v = 0 := by have := hs v hv; omega
      rw [lfr, fsO_0 h1]
  intro m
  induction m with
  | zero =>
    intro v set p q hv hf hm _ _
    have := hs v hv
    exact hz v set p q hv hf (d.pos h hv (by omega) (by omega))
  | succ m ih =>
    intro v set p q hv hf hm hp hq
    have hb := hs v hv
    by_cases h0 : w2 v = 0
    · exact hz v set p q hv hf h0
    · obtain ⟨k, b, h1, h2, h3, h4, _⟩ := nl_ex h hud d hv (by omega) (by omega)
      have e : wtK c k = c k * 16 + 1 := rfl
      have hbb := d.bd h h3 (by omega)
      have hsb := hs b h3
      have hnx : nxt f g k v = b := by
        have he : (edg f g k).testBit v = true := byO_edg.mp (by rw [h2]; simp)
        have := byO_nxt he
        rw [h2] at this
        exact (Option.some.inj this).symm
      obtain ⟨p', rfl⟩ : ∃ p', p = p' + 1 := ⟨p - 1, by omega⟩
      obtain ⟨q', rfl⟩ : ∃ q', q = q' + 1 := ⟨q - 1, by omega⟩
      rw [wfM_go (by omega) h1 h2, lfr, fsO_nl h hud hs hv hf, h1]
      simp only [hnx]
      exact ih b _ p' q' h3 (by omega) (by omega) (by omega) (by omega)
theorem lfr_inf (h : GH f g c L n src) {w1 w2 : Nat → Nat} (hs : Both n w1 w2) {v : Nat} (h0 : w1 v = 1048576) (p set : Nat) : lfr f g c w1 us L p v set = set := by
  cases p with
  | zero => rfl
  | succ p => rw [lfr, fsO_inf h hs h0]
theorem lfr_0 {w : Nat → Nat} {v : Nat} (h0 : w v = 0) (p set : Nat) : lfr f g c w us L p v set = set := by
  cases p with
  | zero => rfl
  | succ p => rw [lfr, fsO_0 h0]
/-- the link of a way i steps on -/
theorem sa_none (o : Nat) {w : Nat → Nat} {v : Nat} : saN f g c w us L o v none = none := by
  cases o <;> rfl
theorem sa_ms (h : GH f g c L n src) (hud : ∀ k, k < L → us.testBit k = !dn.testBit k) {goals : Nat} {w1 w2 : Nat → Nat} (hs : Both n w1 w2) (d : DS f g c us L n goals 1000000 w2) : ∀ i v, v < n → w1 v < 1048576 → i < w2 v % 16 → saN f g c w1 us L i v (fsO f g c w1 us L v) = msN f g c w2 dn L i v := by
  intro i
  induction i with
  | zero =>
    intro v hv hf _
    show fsO f g c w1 us L v = nlO f g c w2 dn L v
    exact fsO_nl h hud hs hv hf
  | succ i ih =>
    intro v hv hf hi
    have hb := hs v hv
    obtain ⟨k, b, h1, h2, h3, h4, _⟩ := nl_ex h hud d hv (by omega) (by omega)
    have e : wtK c k = c k * 16 + 1 := rfl
    have hbb := d.bd h h3 (by omega)
    have hsb := hs b h3
    have hnx : nxt f g k v = b := by
      have he : (edg f g k).testBit v = true := byO_edg.mp (by rw [h2]; simp)
      have := byO_nxt he
      rw [h2] at this
      exact (Option.some.inj this).symm
    rw [msN_go h1 h2, fsO_nl h hud hs hv hf, h1, saN, hnx]
    exact ih b h3 (by omega) (by omega)
theorem sa_end (h : GH f g c L n src) (hud : ∀ k, k < L → us.testBit k = !dn.testBit k) {goals : Nat} {w1 w2 : Nat → Nat} (hs : Both n w1 w2) (d : DS f g c us L n goals 1000000 w2) : ∀ i v, v < n → w1 v < 1048576 → w2 v % 16 ≤ i → saN f g c w1 us L i v (fsO f g c w1 us L v) = none := by
  intro i
  induction i with
  | zero =>
    intro v hv hf hi
    have hb := hs v hv
    have h0 := d.pos h hv (by omega) (by omega)
    show fsO f g c w1 us L v = none
    exact fsO_0 (by omega)
  | succ i ih =>
    intro v hv hf hi
    have hb := hs v hv
    by_cases h0 : w2 v = 0
    · rw [fsO_0 (by omega)]; rfl
    · obtain ⟨k, b, h1, h2, h3, h4, _⟩ := nl_ex h hud d hv (by omega) (by omega)
      have e : wtK c k = c k * 16 + 1 := rfl
      have hbb := d.bd h h3 (by omega)
      have hsb := hs b h3
      have hnx : nxt f g k v = b := by
        have he : (edg f g k).testBit v = true := byO_edg.mp (by rw [h2]; simp)
        have := byO_nxt he
        rw [h2] at this
        exact (Option.some.inj this).symm
      rw [fsO_nl h hud hs hv hf, h1, saN, hnx]
      exact ih b h3 (by omega) (by omega)
/-- a way put to a tree -/
theorem way_gw (h : GH f g c L n src) (hud : ∀ k, k < L → us.testBit k = !dn.testBit k) {t : Nat} {w : Nat → Nat} (d : DS f g c us L n (clo f g t L src) 1000000 w) (hg : Gw f g L src t) : ∀ m v q, v < n → w v < 1000000 → w v % 16 ≤ m → m ≤ q → Gw f g L src (t ||| wfM f g c w dn L q v 0) ∧ (clo f g (t ||| wfM f g c w dn L q v 0) L src).testBit v = true ∧ (∀ x, (clo f g (t ||| wfM f g c w dn L q v 0) L src).testBit x = true → w x ≤ w v) ∧ ∀ k, (wfM f g c w dn L q v 0).testBit k = true → k < L ∧ dn.testBit k = false := by
  have hz : ∀ v q, v < n → w v = 0 → Gw f g L src (t ||| wfM f g c w dn L q v 0) ∧ (clo f g (t ||| wfM f g c w dn L q v 0) L src).testBit v = true ∧ (∀ x, (clo f g (t ||| wfM f g c w dn L q v 0) L src).testBit x = true → w x ≤ w v) ∧ ∀ k, (wfM f g c w dn L q v 0).testBit k = true → k < L ∧ dn.testBit k = false := by
    intro v q hv h0
    rw [wfM_at h0, Nat.or_zero]
    refine ⟨hg, ?_, ?_, fun k hk => (zb hk).elim⟩
    · rcases d.2.1 v hv with h1 | h1 | ⟨k, u, h1, h2, h3⟩
      · omega
      · exact h1.1
      · have e : wtK c k = c k * 16 + 1 := rfl
        omega
    · intro x hx
      rw [d.2.2.1 x (clo_n h hx) hx]; exact Nat.zero_le _
  intro m
  induction m with
  | zero =>
    intro v q hv hf hm _
    exact hz v q hv (d.pos h hv hf (by omega))
  | succ m ih =>
    intro v q hv hf hm hq
    by_cases h0 : w v = 0
    · exact hz v q hv h0
    · obtain ⟨k, b, h1, h2, h3, h4, h5, h6⟩ := nl_ex h hud d hv (by omega) hf
      have e : wtK c k = c k * 16 + 1 := rfl
      have hbb := d.bd h h3 (by omega)
      obtain ⟨q', rfl⟩ : ∃ q', q = q' + 1 := ⟨q - 1, by omega⟩
      obtain ⟨g1, g2, g3, g4⟩ := ih b q' h3 (by omega) (by omega) (by omega)
      have ew : wfM f g c w dn L (q' + 1) v 0 = wfM f g c w dn L q' b 0 ||| 2 ^ k := by
        rw [wfM_go (by omega) h1 h2, wfM_or, Nat.zero_or, Nat.or_comm]
      have ew2 : t ||| wfM f g c w dn L (q' + 1) v 0 = (t ||| wfM f g c w dn L q' b 0) ||| 2 ^ k := by
        rw [ew, Nat.or_assoc]
      have hj := (byO_jn h2).sy
      have hvn : (clo f g (t ||| wfM f g c w dn L q' b 0) L src).testBit v = false := by
        apply tf
        intro h9
        have := g3 v h9
        omega
      have hl : LF f g L src (t ||| wfM f g c w dn L q' b 0) k b v := ⟨h6, hj, g2, hvn⟩
      have ec := clo_lf h h6 hj g2 ((g1.cn h).nx h hvn)
      rw [ew2]
      refine ⟨g1.a hl, ?_, ?_, ?_⟩
      · rw [ec]; exact ob.mpr (Or.inr rfl)
      · intro x hx
        rw [ec] at hx
        rcases ob.mp hx with h9 | h9
        · have := g3 x h9; omega
        · rw [h9]; exact Nat.le_refl _
      · intro j hj
        rw [ew] at hj
        rcases ob.mp hj with h9 | h9
        · exact g4 j h9
        · rw [← h9]; exact ⟨h6, h5⟩
end ST
