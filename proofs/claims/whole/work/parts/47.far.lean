/-! how far nodes of a tree are -/
section FA
variable {f g c : Nat → Nat} {L n src : Nat}
theorem clo_dead (h : GH f g c L n src) {s k u x : Nat} (hj : JN f g k u x) (hu : (clo f g s L src).testBit u = false) (hx : (clo f g s L src).testBit x = false) : clo f g (s ||| 2 ^ k) L src = clo f g s L src := by
  refine se (clo_min (clo_src f g L src s) ?_) (clo_mono h (fun j _ hs => ob.mpr (Or.inl hs)))
  intro j a b hj1 hs hab ha
  rcases ob.mp hs with h1 | h1
  · exact clo_cl h s j a b hj1 h1 hab ha
  · exfalso
    subst h1
    have : a = u ∨ a = x := by
      rcases hj with ⟨e1, e2⟩ | ⟨e1, e2⟩ <;> rcases hab with ⟨e3, e4⟩ | ⟨e3, e4⟩
      · exact Or.inl (e3.symm.trans e1)
      · exact Or.inr (e4.symm.trans e2)
      · exact Or.inr (e3.symm.trans e1)
      · exact Or.inl (e4.symm.trans e2)
    rcases this with e | e
    · rw [e, hu] at ha; cases ha
    · rw [e, hx] at ha; cases ha
theorem nd_or {t k j : Nat} (h : j ≠ k) : nd (t ||| 2 ^ k) (2 ^ j) = nd t (2 ^ j) ||| 2 ^ k := by
  refine se (fun i hi => ?_) (fun i hi => ?_)
  · obtain ⟨h1, h2⟩ := nb.mp hi
    rcases ob.mp h1 with h3 | h3
    · exact ob.mpr (Or.inl (nb.mpr ⟨h3, h2⟩))
    · exact ob.mpr (Or.inr h3)
  · rcases ob.mp hi with h1 | h1
    · obtain ⟨h2, h3⟩ := nb.mp h1
      exact nb.mpr ⟨ob.mpr (Or.inl h2), h3⟩
    · exact nb.mpr ⟨ob.mpr (Or.inr h1), fun e => h (e.trans h1.symm)⟩
theorem nd_self {t k : Nat} (h : t.testBit k = false) : nd (t ||| 2 ^ k) (2 ^ k) = t := by
  refine se (fun i hi => ?_) (fun i hi => ?_)
  · obtain ⟨h1, h2⟩ := nb.mp hi
    rcases ob.mp h1 with h3 | h3
    · exact h3
    · exact absurd h3 h2
  · refine nb.mpr ⟨ob.mpr (Or.inl hi), fun e => ?_⟩
    subst e; rw [h] at hi; cases hi
theorem far_cut (h : GH f g c L n src) {t k u x : Nat} (hc : CN f g L src t) (hl : LF f g L src t k u x) {j : Nat} (hjk : j ≠ k) : (∀ v, v ≠ x → ((clo f g (nd (t ||| 2 ^ k) (2 ^ j)) L src).testBit v = true ↔ (clo f g (nd t (2 ^ j)) L src).testBit v = true)) ∧ ((clo f g (nd (t ||| 2 ^ k) (2 ^ j)) L src).testBit x = true ↔ (clo f g (nd t (2 ^ j)) L src).testBit u = true) := by
  obtain ⟨hk, hj, hu, hx⟩ := hl
  have hsub : SU (nd t (2 ^ j)) t := fun i hi => (nb.mp hi).1
  have hnx := hc.nx h hx
  have hxs : (clo f g (nd t (2 ^ j)) L src).testBit x = false := by
    apply tf
    intro h9
    exact absurd (clo_mono h (fun i _ hi => hsub i hi) x h9) (ft hx)
  rw [nd_or hjk]
  cases hus : (clo f g (nd t (2 ^ j)) L src).testBit u
  · rw [clo_dead h hj hus hxs]
    exact ⟨fun v _ => Iff.rfl, by rw [hxs]⟩
  · rw [clo_lf h hk hj hus (fun i y hi hs => hnx i y hi (hsub i hs))]
    refine ⟨fun v hv => ⟨fun h1 => ?_, fun h1 => ob.mpr (Or.inl h1)⟩, ⟨fun _ => rfl, fun _ => ob.mpr (Or.inr rfl)⟩⟩
    rcases ob.mp h1 with h2 | h2
    · exact h2
    · exact absurd h2.symm hv
theorem mfa_old (h : GH f g c L n src) {cc : Nat → Nat} {t k u x : Nat} (hc : CN f g L src t) (hl : LF f g L src t k u x) {v : Nat} (hv : (clo f g t L src).testBit v = true) : ∀ K, mfaN f g cc L src (t ||| 2 ^ k) v K = mfaN f g cc L src t v K
  | 0 => rfl
  | K + 1 => by
    have ih := mfa_old h (cc := cc) hc hl hv K
    have htk := hl.nt h hc
    have hvx : v ≠ x := fun e => by rw [e, hl.2.2.2] at hv; cases hv
    have hiff : ((t ||| 2 ^ k).testBit K = true ∧ (clo f g (nd (t ||| 2 ^ k) (2 ^ K)) L src).testBit v = false) ↔ (t.testBit K = true ∧ (clo f g (nd t (2 ^ K)) L src).testBit v = false) := by
      by_cases e : K = k
      · subst e
        rw [nd_self htk, hv, htk]
        simp
      · have := (far_cut h hc hl e).1 v hvx
        constructor
        · intro h1
          refine ⟨?_, tf (fun h2 => absurd (this.mpr h2) (ft h1.2))⟩
          rcases ob.mp h1.1 with h2 | h2
          · exact h2
          · exact absurd h2.symm e
        · intro h1
          exact ⟨ob.mpr (Or.inl h1.1), tf (fun h2 => absurd (this.mp h2) (ft h1.2))⟩
    rw [mfaN, mfaN, ih]
    by_cases e : t.testBit K = true ∧ (clo f g (nd t (2 ^ K)) L src).testBit v = false
    · rw [if_pos e, if_pos (hiff.mpr e)]
    · rw [if_neg e, if_neg (fun h9 => e (hiff.mp h9))]
theorem mfa_new (h : GH f g c L n src) {cc : Nat → Nat} {t k u x : Nat} (hc : CN f g L src t) (hl : LF f g L src t k u x) : ∀ K, mfaN f g cc L src (t ||| 2 ^ k) x K = mfaN f g cc L src t u K + if k < K then cc k else 0
  | 0 => rfl
  | K + 1 => by
    have ih := mfa_new h (cc := cc) hc hl K
    have htk := hl.nt h hc
    rw [mfaN, mfaN, ih]
    by_cases e : K = k
    · subst e
      have h1 : (t ||| 2 ^ K).testBit K = true ∧ (clo f g (nd (t ||| 2 ^ K) (2 ^ K)) L src).testBit x = false := by
        rw [nd_self htk]
        exact ⟨ob.mpr (Or.inr rfl), hl.2.2.2⟩
      have h2 : ¬ (t.testBit K = true ∧ (clo f g (nd t (2 ^ K)) L src).testBit u = false) := fun h9 => absurd h9.1 (ft htk)
      rw [if_pos h1, if_neg h2, if_neg (Nat.lt_irrefl K), if_pos (Nat.lt_succ_self K)]
      omega
    · have h2 := (far_cut h hc hl e).2
      have hiff : ((t ||| 2 ^ k).testBit K = true ∧ (clo f g (nd (t ||| 2 ^ k) (2 ^ K)) L src).testBit x = false) ↔ (t.testBit K = true ∧ (clo f g (nd t (2 ^ K)) L src).testBit u = false) := by
        constructor
        · intro h1
          refine ⟨?_, tf (fun h3 => absurd (h2.mpr h3) (ft h1.2))⟩
          rcases ob.mp h1.1 with h3 | h3
          · exact h3
          · exact absurd h3.symm e
        · intro h1
          exact ⟨ob.mpr (Or.inl h1.1), tf (fun h3 => absurd (h2.mp h3) (ft h1.2))⟩
      have hlt : (k < K + 1) ↔ (k < K) := by omega
      have hif : (if k < K + 1 then cc k else 0) = if k < K then cc k else 0 := by
        by_cases e2 : k < K
        · rw [if_pos e2, if_pos (hlt.mpr e2)]
        · rw [if_neg e2, if_neg (fun h9 => e2 (hlt.mp h9))]
      rw [hif]
      by_cases e2 : t.testBit K = true ∧ (clo f g (nd t (2 ^ K)) L src).testBit u = false
      · rw [if_pos e2, if_pos (hiff.mpr e2)]; omega
      · rw [if_neg e2, if_neg (fun h9 => e2 (hiff.mp h9))]
theorem mfa_z {cc : Nat → Nat} {v : Nat} : ∀ K, mfaN f g cc L src 0 v K = 0
  | 0 => rfl
  | K + 1 => by rw [mfaN, if_neg (fun h => zb h.1), mfa_z K]
theorem mfa_sp {t v : Nat} : ∀ K, ∃ m, m ≤ K ∧ mfaN f g (wtK c) L src t v K = 16 * mfaN f g c L src t v K + m
  | 0 => ⟨0, Nat.le_refl _, rfl⟩
  | K + 1 => by
    obtain ⟨m, h1, h2⟩ := mfa_sp (t := t) (v := v) K
    rw [mfaN, mfaN]
    split
    · refine ⟨m + 1, by omega, ?_⟩
      have e : wtK c K = c K * 16 + 1 := rfl
      omega
    · exact ⟨m, by omega, h2⟩
theorem mfa_le (h : GH f g c L n src) {t v : Nat} : ∀ K, K ≤ L → mfaN f g (wtK c) L src t v K ≤ 145 * K
  | 0, _ => Nat.le_refl _
  | K + 1, hK => by
    have ih := mfa_le h (t := t) (v := v) K (by omega)
    have hc9 := (h.2.2.2.2.2.2 K (by omega)).2.2.2.2
    have e : wtK c K = c K * 16 + 1 := rfl
    rw [mfaN]
    split <;> omega
def faE (f g c : Nat → Nat) (L src t v : Nat) : Nat := if (clo f g t L src).testBit v = true then mfaN f g (wtK c) L src t v L else 1048576
theorem faE_ds (h : GH f g c L n src) {t : Nat} (hg : Gw f g L src t) : DS f g c t L n (2 ^ src) 1048576 (faE f g c L src t) := by
  have hI : ∀ t v, faE f g c L src t v ≤ 1048576 := by
    intro t v
    unfold faE
    split
    · have := mfa_le h (t := t) (v := v) L (Nat.le_refl _)
      have := h.2.2.1
      omega
    · exact Nat.le_refl _
  refine hg.ind h (P := fun t => DS f g c t L n (2 ^ src) 1048576 (faE f g c L src t)) ?_ ?_
  · have e0 : ∀ v, (clo f g 0 L src).testBit v = true → v = src := by
      intro v hv
      have := clo_min (X := 2 ^ src) (by rw [Nat.testBit_two_pow]; simp) (fun k u x _ hs => (zb hs).elim) v hv
      rw [Nat.testBit_two_pow] at this
      exact (of_decide_eq_true this).symm
    refine ⟨fun k u v hk => (zb hk.2).elim, ?_, ?_, fun v _ => hI 0 v⟩
    · intro v hv
      unfold faE
      by_cases e : (clo f g 0 L src).testBit v = true
      · rw [if_pos e, mfa_z]
        refine Or.inr (Or.inl ⟨?_, rfl⟩)
        rw [e0 v e, Nat.testBit_two_pow]; simp
      · rw [if_neg e]; exact Or.inl rfl
    · intro v hv hgl
      rw [Nat.testBit_two_pow] at hgl
      have := of_decide_eq_true hgl
      subst this
      unfold faE
      rw [if_pos (clo_src f g L _ 0), mfa_z]
  · intro t k u x hgt hcn ih hl
    have hnt := hl.nt h hcn
    have ec := clo_lf h hl.1 hl.2.1 hl.2.2.1 (hcn.nx h hl.2.2.2)
    have eold : ∀ v, (clo f g t L src).testBit v = true → faE f g c L src (t ||| 2 ^ k) v = faE f g c L src t v := by
      intro v hv
      unfold faE
      rw [if_pos hv, if_pos (by rw [ec]; exact ob.mpr (Or.inl hv)), mfa_old h hcn hl hv]
    have enew : faE f g c L src (t ||| 2 ^ k) x = faE f g c L src t u + wtK c k := by
      unfold faE
      rw [if_pos hl.2.2.1, if_pos (by rw [ec]; exact ob.mpr (Or.inr rfl)), mfa_new h hcn hl, if_pos hl.1]
    refine ⟨?_, ?_, ?_, fun v _ => hI _ v⟩
    · intro j v1 v2 hj hjn
      rcases ob.mp hj.2 with h1 | h1
      · have hv1 := hcn.jn h hj.1 h1 hjn
        have hv2 := hcn.jn h hj.1 h1 hjn.sy
        rw [eold v1 hv1, eold v2 hv2]
        exact ih.1 j v1 v2 ⟨hj.1, h1⟩ hjn
      · subst h1
        have eu := eold u hl.2.2.1
        have : (v1 = u ∧ v2 = x) ∨ (v1 = x ∧ v2 = u) := by
          rcases hl.2.1 with ⟨e1, e2⟩ | ⟨e1, e2⟩ <;> rcases hjn with ⟨e3, e4⟩ | ⟨e3, e4⟩
          · exact Or.inl ⟨e3.symm.trans e1, e4.symm.trans e2⟩
          · exact Or.inr ⟨e4.symm.trans e2, e3.symm.trans e1⟩
          · exact Or.inr ⟨e3.symm.trans e1, e4.symm.trans e2⟩
          · exact Or.inl ⟨e4.symm.trans e2, e3.symm.trans e1⟩
        rcases this with ⟨e1, e2⟩ | ⟨e1, e2⟩
        · rw [e1, e2, enew, eu]; exact Nat.le_refl _
        · rw [e1, e2, enew, eu]; omega
    · intro v hv
      by_cases e : (clo f g t L src).testBit v = true
      · rw [eold v e]
        rcases ih.2.1 v hv with h1 | h1 | ⟨j, y, h1, h2, h3⟩
        · exact Or.inl h1
        · exact Or.inr (Or.inl h1)
        · refine Or.inr (Or.inr ⟨j, y, ⟨h1.1, ob.mpr (Or.inl h1.2)⟩, h2, ?_⟩)
          rw [eold y (hcn.jn h h1.1 h1.2 h2.sy)]; exact h3
      · by_cases e2 : v = x
        · subst e2
          refine Or.inr (Or.inr ⟨k, u, ⟨hl.1, ob.mpr (Or.inr rfl)⟩, hl.2.1.sy, ?_⟩)
          rw [enew, eold u hl.2.2.1]
        · left
          unfold faE
          rw [if_neg]
          intro h9
          rw [ec] at h9
          rcases ob.mp h9 with h8 | h8
          · exact e h8
          · exact e2 h8.symm
    · intro v hv hgl
      have : v = src := by
        rw [Nat.testBit_two_pow] at hgl
        exact (of_decide_eq_true hgl).symm
      rw [eold v (by rw [this]; exact clo_src f g L src t)]
      exact ih.2.2.1 v hv hgl
/-- FAR, both ways -/
theorem far_eq (h : GH f g c L n src) {t : Nat} (hg : Gw f g L src t) {v : Nat} (hv : v < n) : cfr (wtN f g c t L n (2 ^ src)) v = if (clo f g t L src).testBit v = true then some (mfaN f g c L src t v L) else none := by
  have hs := (wtN_ds h t (2 ^ src)).same h (faE_ds h hg) (by decide) (by decide) hv
  unfold cfr
  by_cases e : (clo f g t L src).testBit v = true
  · rw [if_pos e]
    have e1 : faE f g c L src t v = mfaN f g (wtK c) L src t v L := by unfold faE; rw [if_pos e]
    have h1 := mfa_le h (t := t) (v := v) L (Nat.le_refl _)
    have h2 := h.2.2.1
    obtain ⟨m, h3, h4⟩ := mfa_sp (f := f) (g := g) (c := c) (L := L) (src := src) (t := t) (v := v) L
    rw [if_pos (by omega)]
    congr 1
    omega
  · rw [if_neg e]
    have e1 : faE f g c L src t v = 1048576 := by unfold faE; rw [if_neg e]
    rw [if_neg (by omega)]
end FA
