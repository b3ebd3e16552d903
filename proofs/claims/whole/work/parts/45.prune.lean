/-! pruning -/
theorem lk_bit (f g : Nat → Nat) (v i : Nat) : ∀ k, (lkA f g v k).testBit i = true ↔ (i < k ∧ (edg f g i).testBit v = true)
  | 0 => by
    unfold lkA
    constructor
    · intro h; exact (zb h).elim
    · intro h; exact absurd h.1 (Nat.not_lt_zero _)
  | k + 1 => by
    have ih := lk_bit f g v i k
    unfold lkA
    split
    · rename_i hs
      rw [ob, ih]
      constructor
      · rintro (h | h)
        · exact ⟨by omega, h.2⟩
        · subst h; exact ⟨by omega, hs⟩
      · intro h
        by_cases e : k = i
        · exact Or.inr e
        · exact Or.inl ⟨by omega, h.2⟩
    · rename_i hs
      rw [ih]
      constructor
      · intro h; exact ⟨by omega, h.2⟩
      · intro h
        by_cases e : k = i
        · subst e; exact absurd h.2 hs
        · exact ⟨by omega, h.2⟩
theorem bts_top {x L : Nat} (h : ∀ i, L ≤ i → x.testBit i = false) : ∀ m, L ≤ m → bts x m = bts x L
  | 0, hm => by
    have : L = 0 := by omega
    rw [this]
  | m + 1, hm => by
    by_cases e : L = m + 1
    · rw [e]
    · rw [bts, bts_top h m (by omega), h m (by omega)]; simp
theorem one_bit {X j m : Nat} (hj : X.testBit j = true) (h1 : bts X m = 1) (hm : ∀ i, X.testBit i = true → i < m) : X = 2 ^ j := by
  have hs : SU (2 ^ j) X := fun i hi => by
    rw [Nat.testBit_two_pow] at hi
    rw [← of_decide_eq_true hi]; exact hj
  refine se (fun i hi => ?_) hs
  rw [Nat.testBit_two_pow]
  apply decide_eq_true
  apply Classical.byContradiction
  intro e
  have h2 : (2 ^ j).testBit i = false := by rw [Nat.testBit_two_pow]; exact decide_eq_false e
  have h3 := bts_lt hs h2 hi m (hm i hi)
  have h4 := bts_lt (x := 0) (y := 2 ^ j) (fun i hi => (zb hi).elim) (Nat.zero_testBit j) (by rw [Nat.testBit_two_pow]; simp) m (hm j hj)
  omega
section PN
variable {f g c : Nat → Nat} {L n src mem : Nat}
theorem mp_cnt {t v : Nat} : ∀ k, k ≤ L → (mpS f g t v k).1 = bts (lkA f g v L &&& t) k
  | 0, _ => rfl
  | k + 1, hk => by
    have ih := mp_cnt (t := t) (v := v) k (by omega)
    have hb : (lkA f g v L &&& t).testBit k = true ↔ (t.testBit k = true ∧ byO f g k v ≠ none) := by
      rw [abb, lk_bit, byO_edg]
      constructor
      · intro h; exact ⟨h.2, h.1.2⟩
      · intro h; exact ⟨⟨by omega, h.2⟩, h.1⟩
    unfold mpS bts
    by_cases e : t.testBit k = true ∧ byO f g k v ≠ none
    · rw [if_pos e, hb.mpr e, ← ih]; rfl
    · rw [if_neg e, tf (fun h => e (hb.mp h)), ← ih]; rfl
theorem mp_one {t v : Nat} : ∀ {k : Nat}, (mpS f g t v k).1 = 1 → ∃ j, (mpS f g t v k).2 = some j ∧ j < k ∧ t.testBit j = true ∧ byO f g j v ≠ none
  | 0, h => by cases h
  | k + 1, h => by
    unfold mpS at h ⊢
    split at h
    · rename_i h2
      rw [if_pos h2]
      exact ⟨k, rfl, by omega, h2.1, h2.2⟩
    · rename_i h2
      rw [if_neg h2]
      obtain ⟨j, h3, h4, h5⟩ := mp_one h
      exact ⟨j, h3, by omega, h5⟩
theorem mp_bt (hL : L ≤ 12) (t v : Nat) : bts (lkA f g v L &&& t) 12 = (mpS f g t v L).1 := by
  rw [mp_cnt L (Nat.le_refl _)]
  refine bts_top (fun i hi => ?_) 12 hL
  apply tf
  intro h
  have := ((lk_bit f g v i L).mp (abb.mp h).1).1
  omega
theorem mp_X (hL : L ≤ 12) {t v : Nat} (h : (mpS f g t v L).1 = 1) : ∃ j, (mpS f g t v L).2 = some j ∧ lkA f g v L &&& t = 2 ^ j ∧ j < L ∧ t.testBit j = true ∧ (edg f g j).testBit v = true := by
  obtain ⟨j, h1, h2, h3, h4⟩ := mp_one h
  have he := byO_edg.mp h4
  refine ⟨j, h1, one_bit (m := 12) (abb.mpr ⟨(lk_bit f g v j L).mpr ⟨h2, he⟩, h3⟩) ((mp_bt hL t v).trans h) (fun i hi => ?_), h2, h3, he⟩
  have := ((lk_bit f g v i L).mp (abb.mp hi).1).1
  omega
def mpT (f g : Nat → Nat) (L src mem v t : Nat) : Nat := if (mpS f g t v L).1 = 1 ∧ v ≠ src ∧ mem.testBit v = false then nd t (2 ^ ((mpS f g t v L).2.getD 0)) else t
theorem pr_step (hL : L ≤ 12) (v t : Nat) : prS f g (mem ||| 2 ^ src) L v t (fun x => bts x 12) = mpT f g L src mem v t := by
  unfold prS mpT
  have hsv : (mem ||| 2 ^ src).testBit v = false ↔ (v ≠ src ∧ mem.testBit v = false) := by
    constructor
    · intro h
      exact ⟨fun e => absurd (ob.mpr (Or.inr e.symm)) (ft h), tf (fun h2 => absurd (ob.mpr (Or.inl h2)) (ft h))⟩
    · intro h
      apply tf
      intro h2
      rcases ob.mp h2 with h3 | h3
      · exact absurd h3 (ft h.2)
      · exact h.1 h3.symm
  simp only [mp_bt hL]
  by_cases e : (mpS f g t v L).1 = 1 ∧ v ≠ src ∧ mem.testBit v = false
  · obtain ⟨j, h1, h2, _⟩ := mp_X hL e.1
    rw [if_pos ⟨hsv.mpr e.2, e.1⟩, if_pos e, h1, h2]
    rfl
  · rw [if_neg e, if_neg (fun h => e ⟨h.2, hsv.mp h.1⟩)]
theorem mpR_T (t v : Nat) : (mpR f g L src mem t (v + 1)).1 = mpT f g L src mem v (mpR f g L src mem t v).1 := by
  rw [mpR]
  unfold mpT
  by_cases e : (mpS f g (mpR f g L src mem t v).1 v L).1 = 1 ∧ v ≠ src ∧ mem.testBit v = false
  · rw [if_pos e, if_pos e]
  · rw [if_neg e, if_neg e]
theorem prR_mpR (hL : L ≤ 12) (t : Nat) : ∀ v, prR f g (mem ||| 2 ^ src) L (fun x => bts x 12) v t = (mpR f g L src mem t v).1
  | 0 => rfl
  | v + 1 => by rw [prR, prR_mpR hL t v, pr_step hL, mpR_T]
theorem mpT_sub (v t : Nat) : SU (mpT f g L src mem v t) t := by
  unfold mpT
  split
  · exact fun i hi => (ndb.mp hi).1
  · exact SU.rf t
theorem mpR_sub (t : Nat) : ∀ v, SU (mpR f g L src mem t v).1 t
  | 0 => SU.rf t
  | v + 1 => by
    rw [mpR_T]
    exact (mpT_sub v _).tr (mpR_sub t v)
theorem mpR_0 (t : Nat) : ∀ v, (mpR f g L src mem t v).2 = 0 → (mpR f g L src mem t v).1 = t
  | 0, _ => rfl
  | v + 1, h => by
    rw [mpR] at h ⊢
    split at h
    · cases h
    · rename_i e
      rw [if_neg e]
      exact mpR_0 t v h
theorem mpR_1 (hL : L ≤ 12) (t : Nat) : ∀ v, (mpR f g L src mem t v).2 = 1 → ∃ u, u < v ∧ lkA f g u L &&& t ≠ 0 ∧ lkA f g u L &&& (mpR f g L src mem t v).1 = 0
  | 0, h => by cases h
  | v + 1, h => by
    rw [mpR] at h ⊢
    split at h
    · rename_i e
      rw [if_pos e]
      obtain ⟨j, h1, h2, h3, h4, h5⟩ := mp_X hL e.1
      refine ⟨v, by omega, ?_, ?_⟩
      · have hb : (lkA f g v L &&& (mpR f g L src mem t v).1).testBit j = true := by rw [h2, Nat.testBit_two_pow]; simp
        exact bit_nz (abb.mpr ⟨(abb.mp hb).1, mpR_sub t v j (abb.mp hb).2⟩)
      · show lkA f g v L &&& nd (mpR f g L src mem t v).1 (2 ^ ((mpS f g (mpR f g L src mem t v).1 v L).2.getD 0)) = 0
        rw [h1]
        apply Classical.byContradiction
        intro hn
        obtain ⟨i, hi⟩ := nz_bit hn
        obtain ⟨i1, i2⟩ := abb.mp hi
        obtain ⟨i3, i4⟩ := nb.mp i2
        have : (lkA f g v L &&& (mpR f g L src mem t v).1).testBit i = true := abb.mpr ⟨i1, i3⟩
        rw [h2, Nat.testBit_two_pow] at this
        exact i4 (of_decide_eq_true this)
    · rename_i e
      rw [if_neg e]
      obtain ⟨u, h1, h2⟩ := mpR_1 hL t v h
      exact ⟨u, by omega, h2⟩
theorem prN_s {sv : Nat} {b : Nat → Nat} (t : Nat) : ∀ q, prN f g sv L n b (q + 1) t = prN f g sv L n b q (prR f g sv L b n t)
  | 0 => rfl
  | q + 1 => by
    show prR f g sv L b n (prN f g sv L n b (q + 1) t) = prR f g sv L b n (prN f g sv L n b q (prR f g sv L b n t))
    rw [prN_s t q]
theorem prN_fix {sv : Nat} {b : Nat → Nat} {t : Nat} (h : prR f g sv L b n t = t) : ∀ q, prN f g sv L n b q t = t
  | 0 => rfl
  | q + 1 => by
    show prR f g sv L b n (prN f g sv L n b q t) = t
    rw [prN_fix h q, h]
/-- nodes that have links -/
def LV (f g : Nat → Nat) (L n t : Nat) : Nat := cnB (fun v => decide (lkA f g v L &&& t ≠ 0)) n
theorem pr_mp (hL : L ≤ 12) : ∀ m t, LV f g L n t ≤ m → ∀ p q, m ≤ p → m < q → prN f g (mem ||| 2 ^ src) L n (fun x => bts x 12) p t = mpN f g L n src mem q t := by
  intro m
  induction m with
  | zero =>
    intro t ht p q hp hq
    obtain ⟨q', rfl⟩ : ∃ q', q = q' + 1 := ⟨q - 1, by omega⟩
    have h2 := (mpR_le f g L src mem t n).2.1
    by_cases e : (mpR f g L src mem t n).2 = 0
    · rw [mpN, if_pos e, mpR_0 t n e]
      exact prN_fix ((prR_mpR hL t n).trans (mpR_0 t n e)) p
    · obtain ⟨u, h3, h4, h5⟩ := mpR_1 (f := f) (g := g) (src := src) (mem := mem) hL t n (by omega)
      have := cnB_lt (p := fun _ => false) (q := fun v => decide (lkA f g v L &&& t ≠ 0)) (i := u) rfl (decide_eq_true h4) n h3 (fun _ _ h => by cases h)
      unfold LV at ht
      omega
  | succ m ih =>
    intro t ht p q hp hq
    obtain ⟨q', rfl⟩ : ∃ q', q = q' + 1 := ⟨q - 1, by omega⟩
    obtain ⟨p', rfl⟩ : ∃ p', p = p' + 1 := ⟨p - 1, by omega⟩
    have h2 := (mpR_le f g L src mem t n).2.1
    by_cases e : (mpR f g L src mem t n).2 = 0
    · rw [mpN, if_pos e, mpR_0 t n e]
      exact prN_fix ((prR_mpR hL t n).trans (mpR_0 t n e)) _
    · obtain ⟨u, h3, h4, h5⟩ := mpR_1 (f := f) (g := g) (src := src) (mem := mem) hL t n (by omega)
      have hs := mpR_sub (f := f) (g := g) (L := L) (src := src) (mem := mem) t n
      have hlt := cnB_lt (p := fun v => decide (lkA f g v L &&& (mpR f g L src mem t n).1 ≠ 0)) (q := fun v => decide (lkA f g v L &&& t ≠ 0)) (i := u) (decide_eq_false (fun h => h h5)) (decide_eq_true h4) n h3 (fun j _ hj => by
        have := of_decide_eq_true hj
        obtain ⟨i, hi⟩ := nz_bit this
        exact decide_eq_true (bit_nz (abb.mpr ⟨(abb.mp hi).1, hs i (abb.mp hi).2⟩)))
      rw [mpN, if_neg e, prN_s, prR_mpR hL]
      refine ih _ ?_ p' q' (by omega) (by omega)
      unfold LV at ht ⊢
      omega
/-- pruning keeps what it must -/
theorem mpT_ok (h : GH f g c L n src) {t : Nat} (hg : Gw f g L src t) (hm : ∀ m, mem.testBit m = true → (clo f g t L src).testBit m = true) (v : Nat) : Gw f g L src (mpT f g L src mem v t) ∧ ∀ m, mem.testBit m = true → (clo f g (mpT f g L src mem v t) L src).testBit m = true := by
  unfold mpT
  split
  · rename_i e
    obtain ⟨hc, hvs, hvm⟩ := e
    obtain ⟨j, e1, e2, hj, htj, he⟩ := mp_X h.2.2.1 hc
    rw [e1]
    show Gw f g L src (nd t (2 ^ j)) ∧ ∀ m, mem.testBit m = true → (clo f g (nd t (2 ^ j)) L src).testBit m = true
    have hcn := hg.cn h
    have only : ∀ i y, i < L → t.testBit i = true → JN f g i v y → i = j := by
      intro i y hi ht hjn
      have hv : (edg f g i).testBit v = true := eb.mpr (by
        rcases hjn with ⟨a, _⟩ | ⟨_, a⟩
        · exact Or.inl a
        · exact Or.inr a)
      have : (lkA f g v L &&& t).testBit i = true := abb.mpr ⟨(lk_bit f g v i L).mpr ⟨hi, hv⟩, ht⟩
      rw [e2, Nat.testBit_two_pow] at this
      exact (of_decide_eq_true this).symm
    obtain ⟨y, hjy⟩ : ∃ y, JN f g j v y := by
      rcases eb.mp he with a | a
      · exact ⟨g j, Or.inl ⟨a, rfl⟩⟩
      · exact ⟨f j, Or.inr ⟨rfl, a⟩⟩
    have two : ∀ a b, JN f g j a b → (a = v ∧ b = y) ∨ (a = y ∧ b = v) := by
      intro a b hab
      rcases hjy with ⟨x1, x2⟩ | ⟨x1, x2⟩ <;> rcases hab with ⟨y1, y2⟩ | ⟨y1, y2⟩
      · exact Or.inl ⟨y1.symm.trans x1, y2.symm.trans x2⟩
      · exact Or.inr ⟨y2.symm.trans x2, y1.symm.trans x1⟩
      · exact Or.inr ⟨y1.symm.trans x1, y2.symm.trans x2⟩
      · exact Or.inl ⟨y2.symm.trans x2, y1.symm.trans x1⟩
    have hvX : (clo f g (nd t (2 ^ j)) L src).testBit v = false := by
      apply tf
      intro hv
      have hmin : SU (clo f g (nd t (2 ^ j)) L src) (nd (clo f g (nd t (2 ^ j)) L src) (2 ^ v)) := by
        refine clo_min (nb.mpr ⟨clo_src f g L src _, hvs⟩) ?_
        intro k a b hk hs hjn ha
        obtain ⟨hs1, hs2⟩ := nb.mp hs
        refine nb.mpr ⟨clo_cl h _ k a b hk hs hjn (nb.mp ha).1, ?_⟩
        intro e9
        subst e9
        exact hs2 (only k a hk hs1 hjn.sy).symm
      exact (nb.mp (hmin v hv)).2 rfl
    have hyX : (clo f g (nd t (2 ^ j)) L src).testBit y = true := by
      cases hy : (clo f g (nd t (2 ^ j)) L src).testBit y
      · exfalso
        have hmin : SU (clo f g t L src) (clo f g (nd t (2 ^ j)) L src) := by
          refine clo_min (clo_src f g L src _) ?_
          intro k a b hk hs hjn ha
          by_cases e9 : j = k
          · subst e9
            rcases two a b hjn with ⟨e1, _⟩ | ⟨e1, _⟩
            · rw [e1, hvX] at ha; cases ha
            · rw [e1, hy] at ha; cases ha
          · exact clo_cl h _ k a b hk (nb.mpr ⟨hs, e9⟩) hjn ha
        have := hmin v (hcn.jn h hj htj hjy)
        rw [hvX] at this; cases this
      · rfl
    have big : SU (clo f g t L src) (clo f g (nd t (2 ^ j)) L src ||| 2 ^ v) := by
      refine clo_min (ob.mpr (Or.inl (clo_src f g L src _))) ?_
      intro k a b hk hs hjn ha
      by_cases e9 : j = k
      · subst e9
        rcases two a b hjn with ⟨_, e1⟩ | ⟨_, e1⟩
        · rw [e1]; exact ob.mpr (Or.inl hyX)
        · rw [e1]; exact ob.mpr (Or.inr rfl)
      · rcases ob.mp ha with h1 | h1
        · exact ob.mpr (Or.inl (clo_cl h _ k a b hk (nb.mpr ⟨hs, e9⟩) hjn h1))
        · subst h1
          exact absurd (only k b hk hs hjn).symm e9
    have hcn2 : CN f g L src (nd t (2 ^ j)) := by
      intro k hk hs
      obtain ⟨hs1, hs2⟩ := nb.mp hs
      rcases ob.mp (big _ (hcn k hk hs1)) with h1 | h1
      · exact h1
      · exact absurd (only k (g k) hk hs1 (Or.inl ⟨h1.symm, rfl⟩)).symm hs2
    have hsub : SU (nd t (2 ^ j)) t := fun i hi => (nb.mp hi).1
    refine ⟨?_, ?_⟩
    · have := hg.sub h _ hsub
      rw [hg_id (fun k hk => hg.lt k (hsub k hk)) hcn2] at this
      exact this
    · intro m hmm
      rcases ob.mp (big m (hm m hmm)) with h1 | h1
      · exact h1
      · subst h1; rw [hvm] at hmm; cases hmm
  · exact ⟨hg, hm⟩
theorem mpR_ok (h : GH f g c L n src) {t : Nat} (hg : Gw f g L src t) (hm : ∀ m, mem.testBit m = true → (clo f g t L src).testBit m = true) : ∀ v, Gw f g L src (mpR f g L src mem t v).1 ∧ ∀ m, mem.testBit m = true → (clo f g (mpR f g L src mem t v).1 L src).testBit m = true
  | 0 => ⟨hg, hm⟩
  | v + 1 => by
    have ih := mpR_ok h hg hm v
    rw [mpR_T]
    exact mpT_ok h ih.1 ih.2 v
theorem mpN_ok (h : GH f g c L n src) : ∀ q t, Gw f g L src t → (∀ m, mem.testBit m = true → (clo f g t L src).testBit m = true) → Gw f g L src (mpN f g L n src mem q t) ∧ (∀ m, mem.testBit m = true → (clo f g (mpN f g L n src mem q t) L src).testBit m = true) ∧ SU (mpN f g L n src mem q t) t
  | 0, t, hg, hm => ⟨hg, hm, SU.rf t⟩
  | q + 1, t, hg, hm => by
    have h1 := mpR_ok h hg hm n
    have h2 := mpR_sub (f := f) (g := g) (L := L) (src := src) (mem := mem) t n
    unfold mpN
    split
    · exact ⟨h1.1, h1.2, h2⟩
    · have h3 := mpN_ok h q _ h1.1 h1.2
      exact ⟨h3.1, h3.2.1, h3.2.2.tr h2⟩
end PN
