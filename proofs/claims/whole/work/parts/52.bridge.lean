/-! words that look at the same links are the same -/
def AG (f g c f' g' c' : Nat → Nat) (L : Nat) : Prop := ∀ k, k < L → f k = f' k ∧ g k = g' k ∧ c k = c' k
section BR
variable {f g c f' g' c' : Nat → Nat} {L : Nat}
theorem AG.ed (h : AG f g c f' g' c' L) {k : Nat} (hk : k < L) : edg f g k = edg f' g' k := by
  unfold edg; rw [(h k hk).1, (h k hk).2.1]
theorem AG.by (h : AG f g c f' g' c' L) {k : Nat} (hk : k < L) (v : Nat) : byO f g k v = byO f' g' k v := by
  unfold byO; rw [(h k hk).1, (h k hk).2.1]
theorem cst_cg (h : AG f g c f' g' c' L) (set : Nat) : ∀ K, K ≤ L → cst c set K = cst c' set K
  | 0, _ => rfl
  | K + 1, hK => by rw [cst, cst, cst_cg h set K (by omega), (h K (by omega)).2.2]
theorem hgr_cg (h : AG f g c f' g' c' L) (set x : Nat) : ∀ K, K ≤ L → hgr f g set K x = hgr f' g' set K x
  | 0, _ => rfl
  | K + 1, hK => by rw [hgr, hgr, hgr_cg h set x K (by omega), h.ed (by omega)]
theorem hgn_cg (h : AG f g c f' g' c' L) (set x : Nat) : ∀ q, hgn f g set L q x = hgn f' g' set L q x
  | 0 => rfl
  | q + 1 => by rw [hgn, hgn, hgn_cg h set x q, hgr_cg h set _ L (Nat.le_refl _)]
theorem clo_cg (h : AG f g c f' g' c' L) (set src : Nat) : clo f g set L src = clo f' g' set L src := hgn_cg h set _ 1024
theorem mRl_cg (h : AG f g c f' g' c' L) (dn : Nat) (w : Nat → Nat) : ∀ K, K ≤ L → mRl f g c dn K w = mRl f' g' c' dn K w
  | 0, _ => rfl
  | K + 1, hK => by
    rw [mRl, mRl, mRl_cg h dn w K (by omega), (h K (by omega)).1, (h K (by omega)).2.1]
    unfold stN
    rw [(h K (by omega)).2.2]
theorem mRn_cg (h : AG f g c f' g' c' L) (dn : Nat) (w : Nat → Nat) : ∀ q, mRn f g c dn L q w = mRn f' g' c' dn L q w
  | 0 => rfl
  | q + 1 => by rw [mRn, mRn, mRn_cg h dn w q, mRl_cg h dn _ L (Nat.le_refl _)]
theorem mes_cg (h : AG f g c f' g' c' L) (dn n goals : Nat) (aw : Nat → Nat) : mesN f g c dn L n goals aw = mesN f' g' c' dn L n goals aw := mRn_cg h dn _ n
theorem W0_cg (h : AG f g c f' g' c' L) (dn n goals : Nat) : W0 f g c dn L n goals = W0 f' g' c' dn L n goals := mes_cg h dn n goals _
theorem nlS_cg (h : AG f g c f' g' c' L) (w : Nat → Nat) (dn v : Nat) : ∀ K, K ≤ L → nlS f g c w dn v K = nlS f' g' c' w dn v K
  | 0, _ => rfl
  | K + 1, hK => by
    rw [nlS, nlS, nlS_cg h w dn v K (by omega), h.by (by omega), (h K (by omega)).2.2]
theorem nlO_cg (h : AG f g c f' g' c' L) (w : Nat → Nat) (dn v : Nat) : nlO f g c w dn L v = nlO f' g' c' w dn L v := by
  unfold nlO; rw [nlS_cg h w dn v L (Nat.le_refl _)]
theorem wfM_cg (h : AG f g c f' g' c' L) (w : Nat → Nat) (dn : Nat) : ∀ m v set, wfM f g c w dn L m v set = wfM f' g' c' w dn L m v set
  | 0, _, _ => rfl
  | m + 1, v, set => by
    rw [wfM, wfM, nlO_cg h]
    cases hk : nlO f' g' c' w dn L v with
    | none => rfl
    | some k =>
      have hkL : k < L := nlS_lt hk
      dsimp only
      rw [h.by hkL]
      cases byO f' g' k v with
      | none => rfl
      | some b => dsimp only; rw [wfM_cg h w dn m]
theorem msN_cg (h : AG f g c f' g' c' L) (w : Nat → Nat) (dn : Nat) : ∀ i v, msN f g c w dn L i v = msN f' g' c' w dn L i v
  | 0, v => nlO_cg h w dn v
  | i + 1, v => by
    rw [msN, msN, nlO_cg h]
    cases hk : nlO f' g' c' w dn L v with
    | none => rfl
    | some k =>
      have hkL : k < L := nlS_lt hk
      dsimp only
      rw [h.by hkL]
      cases byO f' g' k v with
      | none => rfl
      | some b => dsimp only; rw [msN_cg h w dn i]
theorem WOK_cg (h : AG f g c f' g' c' L) {w : Nat → Nat} {dn n : Nat} (hw : WOK f' g' c' w dn L n) : WOK f g c w dn L n := by
  intro v hv h0 hI
  obtain ⟨k, b, h1, h2, h3⟩ := hw v hv h0 hI
  have hkL : k < L := nlS_lt h1
  exact ⟨k, b, by rw [nlO_cg h]; exact h1, by rw [h.by hkL]; exact h2, h3⟩
theorem mpS_cg (h : AG f g c f' g' c' L) (set v : Nat) : ∀ K, K ≤ L → mpS f g set v K = mpS f' g' set v K
  | 0, _ => rfl
  | K + 1, hK => by rw [mpS, mpS, mpS_cg h set v K (by omega), h.by (by omega)]
theorem mpR_cg (h : AG f g c f' g' c' L) (src mem set : Nat) : ∀ v, mpR f g L src mem set v = mpR f' g' L src mem set v
  | 0 => rfl
  | v + 1 => by rw [mpR, mpR, mpR_cg h src mem set v, mpS_cg h _ v L (Nat.le_refl _)]
theorem mpN_cg (h : AG f g c f' g' c' L) (n src mem : Nat) : ∀ m set, mpN f g L n src mem m set = mpN f' g' L n src mem m set
  | 0, _ => rfl
  | m + 1, set => by rw [mpN, mpN, mpR_cg h, mpN_cg h n src mem m]
theorem mha_cg (h : AG f g c f' g' c' L) (x y : Nat) : ∀ K, K ≤ L → mhaN f x y K = mhaN f' x y K
  | 0, _ => rfl
  | K + 1, hK => by rw [mhaN, mhaN, mha_cg h x y K (by omega), (h K (by omega)).1]
theorem leF_cg (h : AG f g c f' g' c' L) (src mem t : Nat) : leF f g L src mem t = leF f' g' L src mem t := by
  unfold leF; rw [clo_cg h]
theorem wyM_cg (h : AG f g c f' g' c' L) (dn n src t v : Nat) : wyM f g c dn L n src t v = wyM f' g' c' dn L n src t v := by
  unfold wyM; rw [clo_cg h, W0_cg h, wfM_cg h]
theorem mnN_cg (h : AG f g c f' g' c' L) (dn n src mem : Nat) : ∀ m t, mnN f g c dn L n src mem m t = mnN f' g' c' dn L n src mem m t
  | 0, _ => rfl
  | m + 1, t => by
    rw [mnN, mnN, leF_cg h, clo_cg h, W0_cg h]
    split
    · rfl
    · cases maS (W0 f' g' c' dn L n (clo f' g' t L src)) (leF f' g' L src mem t) n with
      | none => rfl
      | some v => dsimp only; rw [wyM_cg h, mnN_cg h dn n src mem m]
theorem AnOK_cg (h : AG f g c f' g' c' L) {dn n src mem : Nat} (ha : AnOK f' g' c' dn L n src mem) : AnOK f g c dn L n src mem := by
  obtain ⟨PA, h0, h1⟩ := ha
  refine ⟨PA, h0, ?_⟩
  intro t ht hp hl
  rw [leF_cg h] at hl
  obtain ⟨v, e1, e2, e3, e4, e5⟩ := h1 t ht hp hl
  refine ⟨v, ?_, ?_, ?_, ?_, ?_⟩
  · rw [leF_cg h, clo_cg h, W0_cg h]; exact e1
  · rw [clo_cg h, W0_cg h]; exact e2
  · rw [clo_cg h, W0_cg h]; exact WOK_cg h e3
  · rw [wyM_cg h]; exact e4
  · rw [leF_cg h, leF_cg h, wyM_cg h]; exact e5
theorem mcS_cg (h : AG f g c f' g' c' L) (dn n src mem tree : Nat) : ∀ v, mcS f g c dn L n src mem tree v = mcS f' g' c' dn L n src mem tree v
  | 0 => rfl
  | v + 1 => by rw [mcS, mcS, mcS_cg h dn n src mem tree v, clo_cg h, W0_cg h, wyM_cg h]
theorem mld_cg (h : AG f g c f' g' c' L) (src mem tree k : Nat) : mldN f g L src mem tree k = mldN f' g' L src mem tree k := by
  unfold mldN; rw [clo_cg h]
theorem mne_cg (h : AG f g c f' g' c' L) (src mem tree up : Nat) : ∀ K, mneN f g L src mem tree up K = mneN f' g' L src mem tree up K
  | 0 => rfl
  | K + 1 => by rw [mneN, mneN, mne_cg h src mem tree up K, clo_cg h]
theorem mfa_cg (h : AG f g c f' g' c' L) (src tree v : Nat) : ∀ K, K ≤ L → mfaN f g c L src tree v K = mfaN f' g' c' L src tree v K
  | 0, _ => rfl
  | K + 1, hK => by rw [mfaN, mfaN, mfa_cg h src tree v K (by omega), clo_cg h, (h K (by omega)).2.2]
theorem mla_cg (h : AG f g c f' g' c' L) (tree v : Nat) : ∀ K, K ≤ L → mlaN f g tree v K = mlaN f' g' tree v K
  | 0, _ => rfl
  | K + 1, hK => by rw [mlaN, mlaN, mla_cg h tree v K (by omega), h.by (by omega)]
theorem mle_cg (h : AG f g c f' g' c' L) (src mem dn : Nat) : ∀ i, mleN f g c L src mem dn i = mleN f' g' c' L src mem dn i
  | 0 => rfl
  | i + 1 => by rw [mleN, mleN, mle_cg h src mem dn i, clo_cg h, cst_cg h i L (Nat.le_refl _)]
end BR
/-! a talk of the class, and one of the reference -/
def TR (a : Nat → Nat) (r : Nat → Nat → Nat) (s : Nat → Nat) : Prop := WFT a r ∧ SB s ∧ (s 0 = a 0 ∧ s 1 = a 3 ∧ s 2 = a 1 ∧ s 3 = a 2 ∧ s 4 = a 7 ∧ s 5 = a 8 ∧ s 6 = a 9 ∧ s 7 = a 10) ∧ AG (sf s) (sg s) (sc s) (r 0) (r 1) (r 2) (a 3) ∧ ∀ k, k < a 10 → sm s k = r 3 k
section TRS
variable {a : Nat → Nat} {r : Nat → Nat → Nat} {s : Nat → Nat}
theorem TR.kc (h : TR a r s) (t : Nat) : clo (sf s) (sg s) t (s 1) (s 2) = CO a r t := by
  rw [h.2.2.1.2.1, h.2.2.1.2.2.1]; exact clo_cg h.2.2.2.1 t (a 1)
theorem TR.co (h : TR a r s) (t : Nat) : coS s t = coA a r t := by
  unfold coS coA; rw [h.2.2.1.2.1]; exact cst_cg h.2.2.2.1 t _ (Nat.le_refl _)
theorem TR.en (h : TR a r s) : EN (sf s) (sg s) (s 1) (s 0) := by
  intro k hk
  rw [h.2.2.1.2.1] at hk
  rw [h.2.2.1.1, (h.2.2.2.1 k hk).1, (h.2.2.2.1 k hk).2.1]
  have := h.1.2.1.2.2.2.2.2.2 k hk
  exact ⟨this.1, this.2.1⟩
abbrev ME (s aw : Nat → Nat) : Nat → Nat := mesN (sf s) (sg s) (sc s) (s 6) (s 1) (s 0) (clo (sf s) (sg s) (s 5) (s 1) (s 2)) aw
/-- the weights that the reference notes, whatever it had noted -/
theorem GA.en (h : GA a r) : EN (r 0) (r 1) (a 3) (a 0) := fun k hk => ⟨(h.2.2.2.2.2.2 k hk).1, (h.2.2.2.2.2.2 k hk).2.1⟩
theorem TR.me (h : TR a r s) (aw : Nat → Nat) : ME s aw = mesN (r 0) (r 1) (r 2) (a 9) (a 3) (a 0) (CO a r (a 8)) aw := by
  show mesN (sf s) (sg s) (sc s) (s 6) (s 1) (s 0) (clo (sf s) (sg s) (s 5) (s 1) (s 2)) aw = _
  rw [h.kc, h.2.2.1.2.2.2.2.2.2.1, h.2.2.1.2.2.2.2.2.1, h.2.2.1.1, h.2.2.1.2.1]
  exact mes_cg h.2.2.2.1 _ _ _ aw
theorem TR.mes (h : TR a r s) (aw : Nat → Nat) {v : Nat} (hv : v < a 0) : ME s aw v = WW a r (a 8) v := by
  rw [h.me]; exact mes_ag (GA.en h.1.2.1) aw v hv
theorem TR.way (h : TR a r s) (aw : Nat → Nat) {v : Nat} (hv : v < a 0) : wfM (sf s) (sg s) (sc s) (ME s aw) (s 6) (s 1) 1000000 v 0 = YM a r (a 8) v := by
  rw [h.2.2.1.2.2.2.2.2.2.1, h.2.2.1.2.1, wfM_cg h.2.2.2.1]
  exact wfM_ag (GA.en h.1.2.1) (fun j hj => h.mes aw hj) _ v 0 hv
theorem TR.wok (h : TR a r s) (aw : Nat → Nat) : WOK (sf s) (sg s) (sc s) (ME s aw) (s 6) (s 1) (s 0) := by
  rw [h.2.2.1.2.2.2.2.2.2.1, h.2.2.1.2.1, h.2.2.1.1]
  refine WOK_cg h.2.2.2.1 (WOK_ag (GA.en h.1.2.1) (fun j hj => h.mes aw hj) ?_)
  exact WA_ok h.1.2.1 _
theorem TR.wa (h : TR a r s) {k : Nat} : WA (sf s) (sg s) (sc s) (s 6 ||| 2 ^ k) (s 1) (s 0) := by
  intro goals
  rw [h.2.2.1.2.2.2.2.2.2.1, h.2.2.1.2.1, h.2.2.1.1, W0_cg h.2.2.2.1]
  refine WOK_cg h.2.2.2.1 ?_
  exact WA_ok (a := va_up a 9 (a 9 ||| 2 ^ k)) (r := r) h.1.2.1 goals
theorem WFT.mm (h : WFT a r) : ∀ v, (a 7).testBit v = true → v < a 0 ∧ (CO a r (a 8)).testBit v = true := fun v hv => (h.2.2.2.2.1 v hv).2
theorem TR.ans (h : TR a r s) : AnS s := by
  refine ⟨h.en, ?_⟩
  rw [h.2.2.1.2.2.2.2.2.2.1, h.2.2.1.2.1, h.2.2.1.1, h.2.2.1.2.2.1, h.2.2.1.2.2.2.2.1]
  exact AnOK_cg h.2.2.2.1 (an_ok h.1.2.1 h.1.2.2.2.1 h.1.mm)
theorem TR.an (h : TR a r s) : anS s = anA a r := by
  unfold anS
  rw [h.2.2.1.2.2.2.2.2.2.1, h.2.2.1.2.1, h.2.2.1.1, h.2.2.1.2.2.1, h.2.2.1.2.2.2.2.1, mnN_cg h.2.2.2.1]
  exact (an_A h.1.2.1 h.1.2.2.2.1 h.1.mm).1.symm
/-- what lies beyond a row of 52 doesn't matter -/
theorem TR.ext (h : TR a r s) {s' : Nat → Nat} (h1 : ∀ j, j < 52 → s' j = s j) (h2 : ∀ j, 52 ≤ j → s' j < 10) : TR a r s' := by
  obtain ⟨hw, hB, he, hag, hm⟩ := h
  have hL := hw.2.1.2.2.1
  have h10 := hw.1.2.2.2.2.2.2.2.2.2.2.2.1
  refine ⟨hw, ?_, ?_, ?_, ?_⟩
  · obtain ⟨b0, b1, b2, b3, b4⟩ := hB
    refine ⟨?_, ?_, ?_, ?_, ?_⟩
    · rw [h1 0 (by omega), h1 1 (by omega), h1 2 (by omega), h1 3 (by omega), h1 4 (by omega), h1 5 (by omega), h1 6 (by omega), h1 7 (by omega)]; exact b0
    · intro j hj
      rcases Nat.lt_or_ge j 52 with h9 | h9
      · rw [h1 j h9]; exact b1 j hj
      · exact h2 j h9
    · intro j hj; rw [h1 _ (by omega)]; exact b2 j hj
    · intro j hj; rw [h1 _ (by omega)]; exact b3 j hj
    · intro j hj; rw [h1 _ (by omega)]; exact b4 j hj
  · rw [h1 0 (by omega), h1 1 (by omega), h1 2 (by omega), h1 3 (by omega), h1 4 (by omega), h1 5 (by omega), h1 6 (by omega), h1 7 (by omega)]; exact he
  · intro k hk
    have := hag k hk
    refine ⟨?_, ?_, ?_⟩
    · rw [← this.1]; exact h1 _ (by omega)
    · rw [← this.2.1]; exact h1 _ (by omega)
    · rw [← this.2.2]; exact h1 _ (by omega)
  · intro k hk
    rw [← hm k hk]; exact h1 _ (by omega)
end TRS
