/-! what is asked, on both sides -/
theorem bs_bst {ld : Nat → Nat} {tree : Nat} : ∀ K, (bsN ld tree K).1 = bstN ld tree K ∧ (bsN ld tree K).2 = (match bstN ld tree K with | none => 0 | some j => ld j + 1)
  | 0 => ⟨rfl, rfl⟩
  | K + 1 => by
    have ih := bs_bst (ld := ld) (tree := tree) K
    by_cases ht : tree.testBit K = true
    · cases h1 : bstN ld tree K with
      | none =>
        rw [h1] at ih
        have e2 : (bsN ld tree K).2 = 0 := ih.2
        rw [bstN_first h1 ht, bsN, if_pos ⟨ht, by omega⟩]
        exact ⟨rfl, rfl⟩
      | some j =>
        rw [h1] at ih
        have e2 : (bsN ld tree K).2 = ld j + 1 := ih.2
        by_cases e : ld j < ld K
        · rw [bstN_more h1 ht e, bsN, if_pos ⟨ht, by omega⟩]
          exact ⟨rfl, rfl⟩
        · rw [bstN_keep h1 (by omega), bsN, if_neg (fun h9 => by have := h9.2; omega)]
          exact ih
    · rw [bstN_no (tf ht), bsN, if_neg (fun h9 => ht h9.1)]
      exact ih
theorem mla_mp {f g : Nat → Nat} {t v : Nat} : ∀ K, mlaN f g t v K = (mpS f g t v K).1
  | 0 => rfl
  | K + 1 => by
    rw [mlaN, mpS, mla_mp K]
    by_cases e : t.testBit K = true ∧ byO f g K v ≠ none
    · rw [if_pos e, if_pos e]
    · rw [if_neg e, if_neg e]
theorem lowB_eq : ∀ v n k, n.testBit v = true → (∀ u, u < v → n.testBit u = false) → v < k → lowB n k = v
  | 0, n, k, h1, _, hk => by
    obtain ⟨k', rfl⟩ : ∃ k', k = k' + 1 := ⟨k - 1, by omega⟩
    rw [lowB, if_pos h1]
  | v + 1, n, k, h1, h2, hk => by
    obtain ⟨k', rfl⟩ : ∃ k', k = k' + 1 := ⟨k - 1, by omega⟩
    rw [lowB, if_neg (ft (h2 0 (by omega)))]
    rw [lowB_eq v (n / 2) k' (by rw [Nat.testBit_div_two]; exact h1) (fun u hu => by rw [Nat.testBit_div_two]; exact h2 (u + 1) (by omega)) (by omega)]
theorem fi_bit {a w wh : Nat → Nat} {nu : Nat → Int32} {sz i : Nat} : ∀ K, (fiN a w wh nu sz K).testBit i = true ↔ (i < K ∧ roN a i = 0 ∧ fitN wh nu (oN (cfr w i)) (oN (sfr w i)) sz = true)
  | 0 => by
    constructor
    · intro h; exact (zb h).elim
    · intro h; exact absurd h.1 (Nat.not_lt_zero _)
  | K + 1 => by
    have ih := fi_bit (a := a) (w := w) (wh := wh) (nu := nu) (sz := sz) (i := i) K
    unfold fiN
    split
    · rename_i hs
      rw [ob, ih]
      constructor
      · rintro (h | h)
        · exact ⟨by omega, h.2⟩
        · subst h; exact ⟨by omega, hs⟩
      · intro h
        by_cases e : K = i
        · exact Or.inr e
        · exact Or.inl ⟨by omega, h.2⟩
    · rename_i hs
      rw [ih]
      constructor
      · intro h; exact ⟨by omega, h.2⟩
      · intro h
        by_cases e : K = i
        · subst e; exact absurd h.2 hs
        · exact ⟨by omega, h.2⟩
theorem nI_00 : nI 0 = (0 : Int32) := by decide
theorem nI_10 : nI 1 ≠ (0 : Int32) := by decide
section AS
variable {a : Nat → Nat} {r : Nat → Nat → Nat} {s : Nat → Nat}
theorem TR.ld (h : TR a r s) (k : Nat) : ldN (r 0) (r 1) (a 0) (a 1) (a 3) (a 7) (a 8) k = mldN (sf s) (sg s) (s 1) (s 2) (s 4) (s 5) k := by
  obtain ⟨hw, hB, ⟨e0, e1, e2, e3, e4, e5, e6, e7⟩, hag, hmk⟩ := h
  rw [e1, e2, e4, e5, mld_cg hag]
  unfold ldN mldN mof
  rw [hgn_clo hw.2.1]
theorem TR.bs (h : TR a r s) : (bsN (ldN (r 0) (r 1) (a 0) (a 1) (a 3) (a 7) (a 8)) (a 8) (a 3)).1 = bstN (mldN (sf s) (sg s) (s 1) (s 2) (s 4) (s 5)) (s 5) (s 1) := by
  have e : mldN (sf s) (sg s) (s 1) (s 2) (s 4) (s 5) = ldN (r 0) (r 1) (a 0) (a 1) (a 3) (a 7) (a 8) := funext (fun k => (h.ld k).symm)
  rw [e, h.2.2.1.2.1, h.2.2.1.2.2.2.2.2.1]
  exact (bs_bst (a 3)).1
theorem TR.ne (h : TR a r s) : neN (r 0) (r 1) (a 0) (a 1) (a 3) (a 7) (a 8) (nd (2 ^ (a 3) - 1) (a 9)) (a 3) = mneN (sf s) (sg s) (s 1) (s 2) (s 4) (s 5) (nd (2 ^ s 1 - 1) (s 6)) (s 1) := by
  obtain ⟨hw, hB, ⟨e0, e1, e2, e3, e4, e5, e6, e7⟩, hag, hmk⟩ := h
  rw [e1, e2, e4, e5, e6, mne_cg hag]
  have key : ∀ K, neN (r 0) (r 1) (a 0) (a 1) (a 3) (a 7) (a 8) (nd (2 ^ (a 3) - 1) (a 9)) K = mneN (r 0) (r 1) (a 3) (a 1) (a 7) (a 8) (nd (2 ^ (a 3) - 1) (a 9)) K := by
    intro K
    induction K with
    | zero => rfl
    | succ K ih =>
      rw [neN, mneN, ih]
      unfold mof
      rw [hgn_clo hw.2.1]
  exact key (a 3)
theorem TR.far (h : TR a r s) {v : Nat} (hv : v < a 0) : farO a r v = if (clo (sf s) (sg s) (s 5) (s 1) (s 2)).testBit v = true then some (mfaN (sf s) (sg s) (sc s) (s 1) (s 2) (s 5) v (s 1)) else none := by
  rw [h.kc]
  obtain ⟨hw, hB, ⟨e0, e1, e2, e3, e4, e5, e6, e7⟩, hag, hmk⟩ := h
  rw [e5, e1, e2, mfa_cg hag _ _ _ _ (Nat.le_refl _)]
  exact far_eq hw.2.1 hw.2.2.1 hv
theorem TR.bth (h : TR a r s) (aw : Nat → Nat) {v : Nat} (hv : v < a 0) : (wtA a r (a 8) v < 1048576 ∧ ME s aw v < 1000000 ∧ wtA a r (a 8) v = ME s aw v ∧ wtA a r (a 8) v ≤ 870) ∨ (wtA a r (a 8) v = 1048576 ∧ ME s aw v = 1000000) := by
  rw [h.mes aw hv]
  exact both_A h.1.2.1 h.1.2.2.1 v hv
theorem TR.cf (h : TR a r s) (aw : Nat → Nat) {v : Nat} (hv : v < a 0) {x : Int32} (hx : x = 0) : cfr (wtA a r (a 8)) v = mawI (ME s aw) v x := by
  unfold cfr mawI
  have hb := h.bth aw hv
  by_cases e : wtA a r (a 8) v < 1048576
  · rw [if_pos e, if_neg (by omega), if_pos hx]
    congr 2
    omega
  · rw [if_neg e, if_pos (by omega)]
theorem TR.sfs (h : TR a r s) (aw : Nat → Nat) {v : Nat} (hv : v < a 0) {x : Int32} (hx : x ≠ 0) : sfr (wtA a r (a 8)) v = mawI (ME s aw) v x := by
  unfold sfr mawI
  have hb := h.bth aw hv
  by_cases e : wtA a r (a 8) v < 1048576
  · rw [if_pos e, if_neg (by omega), if_neg hx]
    congr 2
    omega
  · rw [if_neg e, if_pos (by omega)]
theorem TR.mkm (h : TR a r s) (v : Nat) : mkF (r 3) v (a 10) = mmF (sm s) v (s 7) := by
  rw [h.2.2.1.2.2.2.2.2.2.2]
  exact mk_mm (a 10) h.1.2.2.2.2.2.1 h.2.2.2.2
theorem TR.la (h : TR a r s) (v : Nat) : bts (lkA (r 0) (r 1) v (a 3) &&& a 8) 12 = mlaN (sf s) (sg s) (s 5) v (s 1) := by
  rw [h.2.2.1.2.1, h.2.2.1.2.2.2.2.2.1, mla_cg h.2.2.2.1 _ _ _ (Nat.le_refl _), mla_mp, mp_bt h.1.2.1.2.2.1]
theorem TR.stp (h : TR a r s) (aw : Nat → Nat) {v i : Nat} (hv : v < a 0) (hf : ME s aw v < 1000000) (hi : i < ME s aw v % 16) : (if i < 7 then saN (r 0) (r 1) (r 2) (wtA a r (a 8)) (upA a) (a 3) i v (fsO (r 0) (r 1) (r 2) (wtA a r (a 8)) (upA a) (a 3) v) else none) = msN (sf s) (sg s) (sc s) (ME s aw) (s 6) (s 1) i v := by
  have hb := h.bth aw hv
  have hb2 := (WW_ds h.1.2.1 (a 8)).bd h.1.2.1 hv (by rw [← h.mes aw hv]; exact hf)
  have hm := h.mes aw hv
  rw [if_pos (by omega), sa_ms h.1.2.1 (fun _ hk => up_bit a hk) (both_A h.1.2.1 h.1.2.2.1) (WW_ds h.1.2.1 (a 8)) i v hv (by omega) (by omega)]
  rw [h.2.2.1.2.2.2.2.2.2.1, h.2.2.1.2.1, msN_cg h.2.2.2.1]
  have key : ∀ i v, v < a 0 → msN (r 0) (r 1) (r 2) (WW a r (a 8)) (a 9) (a 3) i v = msN (r 0) (r 1) (r 2) (ME s aw) (a 9) (a 3) i v := by
    intro i
    induction i with
    | zero => intro v hv; exact nlO_ag (GA.en h.1.2.1) hv (fun j hj => (h.mes aw hj).symm)
    | succ i ih =>
      intro v hv
      rw [msN, msN, nlO_ag (GA.en h.1.2.1) hv (fun j hj => (h.mes aw hj).symm)]
      cases hk : nlO (r 0) (r 1) (r 2) (ME s aw) (a 9) (a 3) v with
      | none => rfl
      | some k =>
        dsimp only
        cases hb : byO (r 0) (r 1) k v with
        | none => rfl
        | some b => exact ih b (h.1.2.1.jn (nlS_lt hk) (byO_jn hb)).2.1
  exact key i v hv
theorem TR.sto (h : TR a r s) (aw : Nat → Nat) {v i : Nat} (hv : v < a 0) (hi : 1000000 ≤ ME s aw v ∨ ME s aw v % 16 ≤ i) : (if i < 7 then saN (r 0) (r 1) (r 2) (wtA a r (a 8)) (upA a) (a 3) i v (fsO (r 0) (r 1) (r 2) (wtA a r (a 8)) (upA a) (a 3) v) else none) = none := by
  have hb := h.bth aw hv
  have hm := h.mes aw hv
  split
  · by_cases e : wtA a r (a 8) v < 1048576
    · exact sa_end h.1.2.1 (fun _ hk => up_bit a hk) (both_A h.1.2.1 h.1.2.2.1) (WW_ds h.1.2.1 (a 8)) i v hv e (by omega)
    · rw [fsO_inf h.1.2.1 (both_A h.1.2.1 h.1.2.2.1) (by omega), sa_none]
  · rfl
theorem TR.m6 (h : TR a r s) (aw : Nat → Nat) : ∀ x, x < s 0 → ME s aw x < 1000000 → ME s aw x % 16 ≤ 6 := by
  intro x hx hf
  rw [h.2.2.1.1] at hx
  rw [h.mes aw hx] at hf ⊢
  exact ((WW_ds h.1.2.1 (a 8)).bd h.1.2.1 hx hf).2
theorem TR.lst (h : TR a r s) : ofA a r = (mleN (sf s) (sg s) (sc s) (s 1) (s 2) (s 4) (s 6) (2 ^ s 1)).1 ∧ coA a r (ofA a r) = (mleN (sf s) (sg s) (sc s) (s 1) (s 2) (s 4) (s 6) (2 ^ s 1)).2 := by
  have ho := of_eq h.1
  obtain ⟨hw, hB, ⟨e0, e1, e2, e3, e4, e5, e6, e7⟩, hag, hmk⟩ := h
  rw [e1, e2, e4, e6, mle_cg hag]
  exact ⟨ho.1, ho.2.symm⟩
/-- which nodes it may be -/
def SG (wh : Nat → Nat) (nu fa : Nat → Int32) (ss : Nat) : Prop := ss ≤ 6 ∧ (∀ j, wh j < 2) ∧ ∀ i, i < ss → fa (2 * i) = nI (wh i) ∧ fa (2 * i + 1) = nu i
theorem TR.fit (h : TR a r s) (aw : Nat → Nat) {wh : Nat → Nat} {nu fa : Nat → Int32} {v : Nat} (hv : v < a 0) : ∀ ss, SG wh nu fa ss → fitN wh nu (oN (cfr (wtA a r (a 8)) v)) (oN (sfr (wtA a r (a 8)) v)) ss = fuB (ME s aw) fa v ss
  | 0, _ => rfl
  | ss + 1, hs => by
    have ih := TR.fit h aw hv ss ⟨by have := hs.1; omega, hs.2.1, fun i hi => hs.2.2 i (by omega)⟩
    have h1 := hs.2.2 ss (by omega)
    have h2 := hs.2.1 ss
    rw [fitN, fuB, ih, h1.1, h1.2]
    congr 1
    by_cases e : wh ss = 0
    · rw [if_pos e, e, h.cf aw hv nI_00]
      congr 1
      exact propext ⟨fun h => h.symm, fun h => h.symm⟩
    · have e1 : wh ss = 1 := by omega
      rw [if_neg e, e1, h.sfs aw hv nI_10]
      congr 1
      exact propext ⟨fun h => h.symm, fun h => h.symm⟩
theorem ro_0 (a : Nat → Nat) (v : Nat) : roN a v = 0 ↔ (v ≠ a 1 ∧ (a 7).testBit v = false) := by
  unfold roN
  by_cases e1 : v = a 1
  · rw [if_pos e1]
    constructor
    · intro h; cases h
    · intro h; exact absurd e1 h.1
  · rw [if_neg e1]
    by_cases e2 : (a 7).testBit v = true
    · rw [if_pos e2]
      constructor
      · intro h; cases h
      · intro h; exact absurd e2 (ft h.2)
    · rw [if_neg e2]
      exact ⟨fun _ => ⟨e1, tf e2⟩, fun _ => rfl⟩
theorem TR.fiB_ (h : TR a r s) (aw : Nat → Nat) {wh : Nat → Nat} {nu fa : Nat → Int32} {ss v : Nat} (hs : SG wh nu fa ss) (hv : v < a 0) : fiB (ME s aw) fa ss (s 2) (s 4) v = true ↔ (roN a v = 0 ∧ fitN wh nu (oN (cfr (wtA a r (a 8)) v)) (oN (sfr (wtA a r (a 8)) v)) ss = true) := by
  rw [h.fit aw hv ss hs, ro_0]
  unfold fiB
  rw [Bool.and_eq_true, Bool.and_eq_true, decide_eq_true_eq, h.2.2.1.2.2.1, h.2.2.1.2.2.2.2.1]
  cases (a 7).testBit v <;> simp
theorem TR.wch (h : TR a r s) (aw : Nat → Nat) {wh : Nat → Nat} {nu fa : Nat → Int32} {ss : Nat} (hs : SG wh nu fa ss) : ∀ K, K ≤ a 0 → (mwS (ME s aw) fa ss (s 2) (s 4) K).1 = bts (fiN a (wtA a r (a 8)) wh nu ss K) K ∧ (((mwS (ME s aw) fa ss (s 2) (s 4) K).1 = 0 ∧ (mwS (ME s aw) fa ss (s 2) (s 4) K).2 = none ∧ fiN a (wtA a r (a 8)) wh nu ss K = 0) ∨ ∃ v, (mwS (ME s aw) fa ss (s 2) (s 4) K).1 ≠ 0 ∧ (mwS (ME s aw) fa ss (s 2) (s 4) K).2 = some v ∧ v < K ∧ (fiN a (wtA a r (a 8)) wh nu ss K).testBit v = true ∧ ∀ u, u < v → (fiN a (wtA a r (a 8)) wh nu ss K).testBit u = false)
  | 0, _ => ⟨rfl, Or.inl ⟨rfl, rfl, rfl⟩⟩
  | K + 1, hK => by
    have ih := TR.wch h aw hs K (by omega)
    have hb := h.fiB_ aw hs (by omega : K < a 0)
    have hlt := fiN_lt a (wtA a r (a 8)) wh nu ss K
    have hKf : (fiN a (wtA a r (a 8)) wh nu ss K).testBit K = false := Nat.testBit_lt_two_pow hlt
    have hext : ∀ X, bts (X ||| 2 ^ K) K = bts X K := fun X => bts_ext K (fun i hi => by rw [Nat.testBit_or, Nat.testBit_two_pow, decide_eq_false (by omega), Bool.or_false])
    by_cases e : roN a K = 0 ∧ fitN wh nu (oN (cfr (wtA a r (a 8)) K)) (oN (sfr (wtA a r (a 8)) K)) ss = true
    · have ef : fiN a (wtA a r (a 8)) wh nu ss (K + 1) = fiN a (wtA a r (a 8)) wh nu ss K ||| 2 ^ K := by rw [fiN, if_pos e]
      have em : mwS (ME s aw) fa ss (s 2) (s 4) (K + 1) = ((mwS (ME s aw) fa ss (s 2) (s 4) K).1 + 1, if (mwS (ME s aw) fa ss (s 2) (s 4) K).1 = 0 then some K else (mwS (ME s aw) fa ss (s 2) (s 4) K).2) := by rw [mwS, if_pos (hb.mpr e)]
      rw [ef, em]
      refine ⟨?_, Or.inr ?_⟩
      · show _ + 1 = _
        rw [bts, hext, ih.1, ob.mpr (Or.inr rfl)]
        rfl
      · rcases ih.2 with ⟨i1, i2, i3⟩ | ⟨v, i1, i2, i3, i4, i5⟩
        · refine ⟨K, Nat.succ_ne_zero _, by show (if _ then _ else _) = _; rw [if_pos i1], by omega, ob.mpr (Or.inr rfl), ?_⟩
          intro u hu
          rw [i3, Nat.zero_or, Nat.testBit_two_pow]
          exact decide_eq_false (by omega)
        · refine ⟨v, Nat.succ_ne_zero _, by show (if _ then _ else _) = _; rw [if_neg i1]; exact i2, by omega, ob.mpr (Or.inl i4), ?_⟩
          intro u hu
          apply tf
          intro h9
          rcases ob.mp h9 with h8 | h8
          · rw [i5 u hu] at h8; cases h8
          · omega
    · have ef : fiN a (wtA a r (a 8)) wh nu ss (K + 1) = fiN a (wtA a r (a 8)) wh nu ss K := by rw [fiN, if_neg e]
      have em : mwS (ME s aw) fa ss (s 2) (s 4) (K + 1) = ((mwS (ME s aw) fa ss (s 2) (s 4) K).1 + 0, (mwS (ME s aw) fa ss (s 2) (s 4) K).2) := by rw [mwS, if_neg (fun h9 => e (hb.mp h9))]
      rw [ef, em]
      refine ⟨?_, ?_⟩
      · show _ + 0 = _
        rw [bts, hKf, ih.1]
        rfl
      · rcases ih.2 with h1 | ⟨v, i1, i2, i3, i4⟩
        · exact Or.inl h1
        · exact Or.inr ⟨v, i1, i2, by omega, i4⟩
theorem TR.wh0 (h : TR a r s) (aw : Nat → Nat) {wh : Nat → Nat} {nu fa : Nat → Int32} {ss : Nat} (hs : SG wh nu fa ss) : bts (fiN a (wtA a r (a 8)) wh nu ss (a 0)) 12 = (mwS (ME s aw) fa ss (s 2) (s 4) (s 0)).1 := by
  rw [h.2.2.1.1, (h.wch aw hs (a 0) (Nat.le_refl _)).1]
  have hn := h.1.1.2.1
  refine bts_top (fun i hi => tf (fun h9 => ?_)) 12 (by omega)
  have := bits_lt (fiN_lt a (wtA a r (a 8)) wh nu ss (a 0)) h9
  omega
theorem TR.wh1 (h : TR a r s) (aw : Nat → Nat) {wh : Nat → Nat} {nu fa : Nat → Int32} {ss : Nat} (hs : SG wh nu fa ss) : (if fiN a (wtA a r (a 8)) wh nu ss (a 0) = 0 then none else some (lowB (fiN a (wtA a r (a 8)) wh nu ss (a 0)) 7)) = (mwS (ME s aw) fa ss (s 2) (s 4) (s 0)).2 := by
  have hn := h.1.1.2.1
  rw [h.2.2.1.1]
  rcases (h.wch aw hs (a 0) (Nat.le_refl _)).2 with ⟨_, i2, i3⟩ | ⟨v, _, i2, i3, i4, i5⟩
  · rw [i2, if_pos i3]
  · rw [i2, if_neg (bit_nz i4), lowB_eq v _ 7 i4 i5 (by omega)]
end AS
