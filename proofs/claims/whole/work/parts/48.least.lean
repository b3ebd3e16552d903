/-! the least tree -/
theorem cst_cut {c : Nat → Nat} {s k : Nat} (h : s.testBit k = false) : ∀ K, cst c (s ||| 2 ^ k) K = cst c s K + if k < K then c k else 0
  | 0 => rfl
  | K + 1 => by
    have ih := cst_cut (c := c) h K
    rw [cst, cst, ih]
    by_cases e : k = K
    · subst e
      rw [if_pos (ob.mpr (Or.inr rfl)), if_neg (ft h), if_neg (Nat.lt_irrefl _), if_pos (Nat.lt_succ_self _)]
      omega
    · have hif : (if k < K + 1 then c k else 0) = if k < K then c k else 0 := by
        by_cases e2 : k < K
        · rw [if_pos e2, if_pos (by omega)]
        · rw [if_neg e2, if_neg (by omega)]
      rw [hif]
      by_cases e2 : s.testBit K = true
      · rw [if_pos e2, if_pos (ob.mpr (Or.inl e2))]; omega
      · rw [if_neg e2, if_neg]
        intro h9
        rcases ob.mp h9 with h8 | h8
        · exact e2 h8
        · exact e h8
theorem cst_su {c : Nat → Nat} {s t : Nat} (h : SU s t) : ∀ K, cst c s K ≤ cst c t K
  | 0 => Nat.le_refl _
  | K + 1 => by
    have ih := cst_su (c := c) h K
    have hK := h K
    rw [cst, cst]
    by_cases e : s.testBit K = true
    · rw [if_pos e, if_pos (hK e)]; omega
    · rw [if_neg e]
      split <;> omega
theorem cst_lt {c : Nat → Nat} {s t k : Nat} (h : SU s t) (h1 : s.testBit k = false) (h2 : t.testBit k = true) (hc : 1 ≤ c k) : ∀ K, k < K → cst c s K < cst c t K
  | 0, hk => absurd hk (Nat.not_lt_zero _)
  | K + 1, hk => by
    rw [cst, cst]
    by_cases e : k = K
    · subst e
      have := cst_su (c := c) h k
      rw [if_neg (ft h1), if_pos h2]; omega
    · have ih := cst_lt h h1 h2 hc K (by omega)
      have hK := h K
      by_cases e2 : s.testBit K = true
      · rw [if_pos e2, if_pos (hK e2)]; omega
      · rw [if_neg e2]
        split <;> omega
def fltN (p : Nat → Bool) : Nat → Nat
  | 0 => 0
  | k + 1 => if p k = true then fltN p k ||| 2 ^ k else fltN p k
theorem flt_bit (p : Nat → Bool) (i : Nat) : ∀ k, (fltN p k).testBit i = true ↔ (i < k ∧ p i = true)
  | 0 => by
    unfold fltN
    constructor
    · intro h; exact (zb h).elim
    · intro h; exact absurd h.1 (Nat.not_lt_zero _)
  | k + 1 => by
    have ih := flt_bit p i k
    unfold fltN
    split
    · rename_i hs
      rw [ob, ih]
      constructor
      · rintro (h | h)
        · exact ⟨by omega, h.2⟩
        · subst h; exact ⟨by omega, hs⟩
      · intro h
        by_cases e : k = i
        · exact Or.inr e
        · exact Or.inl ⟨by omega, h.2⟩
    · rename_i hs
      rw [ih]
      constructor
      · intro h; exact ⟨by omega, h.2⟩
      · intro h
        by_cases e : k = i
        · subst e; exact absurd h.2 hs
        · exact ⟨by omega, h.2⟩
theorem ed_and2 {f g : Nat → Nat} {k x : Nat} : edg f g k &&& x ≠ 0 ↔ (x.testBit (f k) = true ∨ x.testBit (g k) = true) := by
  rw [Nat.and_comm]; exact ed_and
def CA (f g : Nat → Nat) (up R out k : Nat) : Prop := up.testBit k = true ∧ edg f g k &&& R ≠ 0 ∧ edg f g k &&& out ≠ 0
theorem chS_min {f g c : Nat → Nat} {up R out : Nat} : ∀ K, (chS f g c up R out K = none → ∀ j, j < K → ¬ CA f g up R out j) ∧ (∀ e, chS f g c up R out K = some e → ∀ j, j < K → CA f g up R out j → c e < c j ∨ (c e = c j ∧ e ≤ j))
  | 0 => ⟨fun _ j hj => absurd hj (Nat.not_lt_zero _), fun e he => by cases he⟩
  | K + 1 => by
    have ih := chS_min (f := f) (g := g) (c := c) (up := up) (R := R) (out := out) K
    rw [chS]
    cases h1 : chS f g c up R out K with
    | none =>
      have ih1 := ih.1 h1
      dsimp only
      by_cases e : up.testBit K = true ∧ edg f g K &&& R ≠ 0 ∧ edg f g K &&& out ≠ 0
      · rw [if_pos e]
        refine ⟨fun h => (by cases h), fun e2 he j hj hc => ?_⟩
        cases he
        by_cases e3 : j = K
        · rw [e3]; exact Or.inr ⟨rfl, Nat.le_refl _⟩
        · exact absurd hc (ih1 j (by omega))
      · rw [if_neg e]
        refine ⟨fun _ j hj hc => ?_, fun e2 he => by cases he⟩
        by_cases e3 : j = K
        · rw [e3] at hc; exact e hc
        · exact ih1 j (by omega) hc
    | some j0 =>
      have ih2 := ih.2 j0 h1
      have hlt := (chS_lt h1).1
      dsimp only
      by_cases e : (up.testBit K = true ∧ edg f g K &&& R ≠ 0 ∧ edg f g K &&& out ≠ 0) ∧ c K < c j0
      · rw [if_pos e]
        refine ⟨fun h => (by cases h), fun e2 he j hj hc => ?_⟩
        cases he
        by_cases e3 : j = K
        · rw [e3]; exact Or.inr ⟨rfl, Nat.le_refl _⟩
        · have := ih2 j (by omega) hc
          have := e.2
          left; omega
      · rw [if_neg e]
        refine ⟨fun h => (by cases h), fun e2 he j hj hc => ?_⟩
        cases he
        by_cases e3 : j = K
        · subst e3
          have : ¬ c j < c j0 := fun h9 => e ⟨hc, h9⟩
          omega
        · exact ih2 j (by omega) hc
theorem lt_tb {x y p : Nat} (h1 : x.testBit p = false) (h2 : y.testBit p = true) (h3 : ∀ j, p < j → x.testBit j = y.testBit j) : x < y := by
  have e : x / 2 ^ p / 2 = y / 2 ^ p / 2 := by
    apply Nat.eq_of_testBit_eq
    intro i
    rw [Nat.testBit_div_two, Nat.testBit_div_two, Nat.testBit_div_two_pow, Nat.testBit_div_two_pow]
    exact h3 _ (by omega)
  rw [Nat.testBit_eq_decide_div_mod_eq] at h1 h2
  have h4 := of_decide_eq_false h1
  have h5 := of_decide_eq_true h2
  apply Classical.byContradiction
  intro h6
  have h7 : y / 2 ^ p ≤ x / 2 ^ p := Nat.div_le_div_right (by omega)
  omega
section LS
variable {f g c : Nat → Nat} {L n src mem dn up : Nat}
def FE (f g : Nat → Nat) (L src mem dn i : Nat) : Prop := i &&& dn = 0 ∧ nd mem (clo f g i L src) = 0
def OPT (f g c : Nat → Nat) (L src mem dn O : Nat) : Prop := O < 2 ^ L ∧ FE f g L src mem dn O ∧ ∀ j, j < 2 ^ L → FE f g L src mem dn j → cst c O L < cst c j L ∨ (cst c O L = cst c j L ∧ O ≤ j)
theorem mle_sp (hb : ∀ i, cst c i L < 1000000) : ∀ i, (∀ j, j < i → FE f g L src mem dn j → (mleN f g c L src mem dn i).2 ≤ cst c j L) ∧ ((mleN f g c L src mem dn i).2 = 1000000 ∨ ((mleN f g c L src mem dn i).1 < i ∧ FE f g L src mem dn (mleN f g c L src mem dn i).1 ∧ cst c (mleN f g c L src mem dn i).1 L = (mleN f g c L src mem dn i).2 ∧ ∀ j, j < (mleN f g c L src mem dn i).1 → FE f g L src mem dn j → (mleN f g c L src mem dn i).2 < cst c j L))
  | 0 => ⟨fun j hj => absurd hj (Nat.not_lt_zero _), Or.inl rfl⟩
  | i + 1 => by
    have ih := mle_sp hb i
    rw [mleN]
    by_cases e : i &&& dn = 0 ∧ cst c i L < (mleN f g c L src mem dn i).2 ∧ nd mem (clo f g i L src) = 0
    · rw [if_pos e]
      refine ⟨fun j hj hf => ?_, Or.inr ⟨Nat.lt_succ_self _, ⟨e.1, e.2.2⟩, rfl, fun j hj hf => ?_⟩⟩
      · by_cases e2 : j = i
        · rw [e2]; exact Nat.le_refl _
        · have := ih.1 j (by omega) hf
          show cst c i L ≤ _
          omega
      · have := ih.1 j hj hf
        show cst c i L < _
        omega
    · rw [if_neg e]
      refine ⟨fun j hj hf => ?_, ?_⟩
      · by_cases e2 : j = i
        · subst e2
          apply Classical.byContradiction
          intro h9
          exact e ⟨hf.1, by omega, hf.2⟩
        · exact ih.1 j (by omega) hf
      · rcases ih.2 with h1 | h1
        · exact Or.inl h1
        · exact Or.inr ⟨by omega, h1.2⟩
theorem mle_opt (hb : ∀ i, cst c i L < 1000000) {T : Nat} (hT : T < 2 ^ L) (hf : FE f g L src mem dn T) : OPT f g c L src mem dn (mleN f g c L src mem dn (2 ^ L)).1 ∧ (mleN f g c L src mem dn (2 ^ L)).2 = cst c (mleN f g c L src mem dn (2 ^ L)).1 L := by
  have h := mle_sp hb (2 ^ L) (f := f) (g := g) (src := src) (mem := mem) (dn := dn)
  have h1 := h.1 T hT hf
  have h2 := hb T
  rcases h.2 with h3 | ⟨h3, h4, h5, h6⟩
  · omega
  · refine ⟨⟨h3, h4, fun j hj hfj => ?_⟩, h5.symm⟩
    have h7 := h.1 j hj hfj
    rcases Nat.lt_or_ge j (mleN f g c L src mem dn (2 ^ L)).1 with h8 | h8
    · have := h6 j h8 hfj
      left; omega
    · omega
theorem OPT.cn (h : GH f g c L n src) {O : Nat} (ho : OPT f g c L src mem dn O) : CN f g L src O := by
  intro k hk hs
  cases e : (clo f g O L src).testBit (f k)
  · exfalso
    have hsub : SU (hgS f g L src O) O := fun i hi => (hg_bit.mp hi).2.1
    have hlt := cst_lt (c := c) hsub (k := k) (tf (fun h9 => absurd (hg_bit.mp h9).2.2 (ft e))) hs (h.2.2.2.2.2.2 k hk).2.2.2.1 L hk
    have hfe : FE f g L src mem dn (hgS f g L src O) := by
      refine ⟨?_, ?_⟩
      · apply Classical.byContradiction
        intro h9
        obtain ⟨i, hi⟩ := nz_bit h9
        have : (O &&& dn).testBit i = true := abb.mpr ⟨hsub i (abb.mp hi).1, (abb.mp hi).2⟩
        rw [ho.2.1.1] at this
        exact zb this
      · rw [hg_clo h]; exact ho.2.1.2
    have := ho.2.2 _ (Nat.lt_of_le_of_lt (su_le hsub) ho.1) hfe
    omega
  · rfl
/-- one step of growing goes by a link of the best -/
theorem prim_step (h : GH f g c L n src) (hud : ∀ k, k < L → up.testBit k = !dn.testBit k) {O S e : Nat} (ho : OPT f g c L src mem dn O) (hS : SU S O) (hcS : CN f g L src S) (he : chS f g c up (clo f g S L src) (nd (clo f g O L src) (clo f g S L src)) L = some e) : O.testBit e = true ∧ ∃ x y, LF f g L src S e x y ∧ (clo f g O L src).testBit y = true := by
  have hRV : SU (clo f g S L src) (clo f g O L src) := clo_mono h (fun k _ hk => hS k hk)
  obtain ⟨heL, heu, heR, heV⟩ := chS_lt he
  have hmin := (chS_min (f := f) (g := g) (c := c) (up := up) (R := clo f g S L src) (out := nd (clo f g O L src) (clo f g S L src)) L).2 e he
  obtain ⟨x, y, hxy, hx, hy⟩ : ∃ x y, JN f g e x y ∧ (clo f g S L src).testBit x = true ∧ (nd (clo f g O L src) (clo f g S L src)).testBit y = true := by
    rcases ed_and2.mp heR with h1 | h1 <;> rcases ed_and2.mp heV with h2 | h2
    · exact absurd h1 (ft (ndb.mp h2).2)
    · exact ⟨_, _, JN.fg f g e, h1, h2⟩
    · exact ⟨_, _, JN.gf f g e, h1, h2⟩
    · exact absurd h1 (ft (ndb.mp h2).2)
  obtain ⟨hyV, hyR⟩ := ndb.mp hy
  have hyn := clo_n h hyV
  refine ⟨?_, x, y, ⟨heL, hxy, hx, hyR⟩, hyV⟩
  cases hO : O.testBit e
  · exfalso
    have hOu : ∀ k, O.testBit k = true → dn.testBit k = false := by
      intro k hk
      apply tf
      intro h9
      have : (O &&& dn).testBit k = true := abb.mpr ⟨hk, h9⟩
      rw [ho.2.1.1] at this
      exact zb this
    have hOL : ∀ k, O.testBit k = true → k < L := fun k hk => bits_lt ho.1 hk
    -- y and what hangs together with it without the nodes reached
    have hGy : GH f g c L n y := ⟨h.1, h.2.1, h.2.2.1, h.2.2.2.1, h.2.2.2.2.1, hyn, h.2.2.2.2.2.2⟩
    have hOBb : ∀ k, (fltN (fun k => O.testBit k && !(clo f g S L src).testBit (f k) && !(clo f g S L src).testBit (g k)) L).testBit k = true ↔ (k < L ∧ O.testBit k = true ∧ (clo f g S L src).testBit (f k) = false ∧ (clo f g S L src).testBit (g k) = false) := by
      intro k
      rw [flt_bit]
      simp [Bool.and_eq_true, and_assoc]
    generalize hOB : fltN (fun k => O.testBit k && !(clo f g S L src).testBit (f k) && !(clo f g S L src).testBit (g k)) L = OB at hOBb
    have hBR : ∀ i, (clo f g OB L y).testBit i = true → (clo f g S L src).testBit i = false := by
      intro i hi
      have hX := clo_min (f := f) (g := g) (L := L) (src := y) (set := OB) (X := nd (2 ^ n - 1) (clo f g S L src)) (ndb.mpr ⟨by rw [Nat.testBit_two_pow_sub_one]; exact decide_eq_true hyn, hyR⟩) (by
        intro k u v hk hs hj _
        obtain ⟨_, _, h1, h2⟩ := (hOBb k).mp hs
        refine ndb.mpr ⟨by rw [Nat.testBit_two_pow_sub_one]; exact decide_eq_true (h.jn hk hj).2.1, ?_⟩
        rcases hj with ⟨_, e2⟩ | ⟨e1, _⟩
        · rw [← e2]; exact h2
        · rw [← e1]; exact h1)
      exact (ndb.mp (hX i hi)).2
    have hsR : (clo f g S L src).testBit src = true := clo_src f g L src S
    obtain ⟨p0, a, b, hp0, hab, haR, hbB⟩ : ∃ p0 a b, O.testBit p0 = true ∧ JN f g p0 a b ∧ (clo f g S L src).testBit a = true ∧ (clo f g OB L y).testBit b = true := by
      apply Classical.byContradiction
      intro hno
      have hX := clo_min (f := f) (g := g) (L := L) (src := src) (set := O) (X := nd (2 ^ n - 1) (clo f g OB L y)) (ndb.mpr ⟨by rw [Nat.testBit_two_pow_sub_one]; exact decide_eq_true h.2.2.2.2.2.1, tf (fun h9 => absurd hsR (ft (hBR src h9)))⟩) (by
        intro k u v hk hs hj hu
        refine ndb.mpr ⟨by rw [Nat.testBit_two_pow_sub_one]; exact decide_eq_true (h.jn hk hj).2.1, ?_⟩
        apply tf
        intro hv
        have hvR := hBR v hv
        cases huR : (clo f g S L src).testBit u
        · have hkOB : OB.testBit k = true := by
            refine (hOBb k).mpr ⟨hk, hs, ?_⟩
            rcases hj with ⟨e1, e2⟩ | ⟨e1, e2⟩
            · rw [e1, e2]; exact ⟨huR, hvR⟩
            · rw [e1, e2]; exact ⟨hvR, huR⟩
          have := clo_cl hGy OB k v u hk hkOB hj.sy hv
          exact absurd this (ft (ndb.mp hu).2)
        · exact hno ⟨k, u, v, hs, hj, huR, hv⟩)
      exact absurd (clo_src f g L y OB) (ft (ndb.mp (hX y hyV)).2)
    have hbR := hBR b hbB
    have hp0L := hOL p0 hp0
    have hbV : (clo f g O L src).testBit b = true := clo_cl h O p0 a b hp0L hp0 hab (hRV a haR)
    have hne : e ≠ p0 := fun e9 => by rw [e9, hp0] at hO; cases hO
    -- the other set
    have hbit : ∀ k, (nd O (2 ^ p0) ||| 2 ^ e).testBit k = true ↔ ((O.testBit k = true ∧ p0 ≠ k) ∨ e = k) := by
      intro k
      rw [ob, nb]
    generalize hO2 : nd O (2 ^ p0) ||| 2 ^ e = O2 at hbit
    have hSO2 : ∀ k, k < L → S.testBit k = true → O2.testBit k = true := by
      intro k hk hs
      refine (hbit k).mpr (Or.inl ⟨hS k hs, ?_⟩)
      intro e9
      subst e9
      have := hcS.jn h hk hs hab.sy
      rw [hbR] at this; cases this
    have hR2 : SU (clo f g S L src) (clo f g O2 L src) := clo_mono h hSO2
    have hy2 : (clo f g O2 L src).testBit y = true := clo_cl h O2 e x y heL ((hbit e).mpr (Or.inr rfl)) hxy (hR2 x hx)
    have hB2 : SU (clo f g OB L y) (clo f g O2 L src) := by
      refine clo_min hy2 ?_
      intro k u v hk hs hj hu
      obtain ⟨_, h1, h2, h3⟩ := (hOBb k).mp hs
      refine clo_cl h O2 k u v hk ((hbit k).mpr (Or.inl ⟨h1, ?_⟩)) hj hu
      intro e9
      subst e9
      rcases hab with ⟨e1, _⟩ | ⟨_, e1⟩
      · rw [e1, haR] at h2; cases h2
      · rw [e1, haR] at h3; cases h3
    have ha2 := hR2 a haR
    have hb2 := hB2 b hbB
    have hOO : SU (clo f g O L src) (clo f g O2 L src) := by
      refine clo_min (clo_src f g L src O2) ?_
      intro k u v hk hs hj hu
      by_cases e9 : p0 = k
      · subst e9
        have : v = a ∨ v = b := by
          rcases hab with ⟨e1, e2⟩ | ⟨e1, e2⟩ <;> rcases hj with ⟨e3, e4⟩ | ⟨e3, e4⟩
          · exact Or.inr (e4.symm.trans e2)
          · exact Or.inl (e3.symm.trans e1)
          · exact Or.inl (e4.symm.trans e2)
          · exact Or.inr (e3.symm.trans e1)
        rcases this with e1 | e1
        · rw [e1]; exact ha2
        · rw [e1]; exact hb2
      · exact clo_cl h O2 k u v hk ((hbit k).mpr (Or.inl ⟨hs, e9⟩)) hj hu
    have hdne : dn.testBit e = false := by
      have := hud e heL
      rw [heu] at this
      cases hd : dn.testBit e
      · rfl
      · rw [hd] at this; cases this
    have hfe : FE f g L src mem dn O2 := by
      refine ⟨?_, nd_0.mpr ((nd_0.mp ho.2.1.2).tr hOO)⟩
      apply Classical.byContradiction
      intro h9
      obtain ⟨i, hi⟩ := nz_bit h9
      obtain ⟨h1, h2⟩ := abb.mp hi
      rcases (hbit i).mp h1 with h3 | h3
      · rw [hOu i h3.1] at h2; cases h2
      · rw [← h3, hdne] at h2; cases h2
    have hO2L : O2 < 2 ^ L := lt_bits (fun i hi => by
      rcases (hbit i).mp hi with h3 | h3
      · exact hOL i h3.1
      · rw [← h3]; exact heL)
    have hcost : cst c O2 L + c p0 = cst c O L + c e := by
      have h1 : (nd O (2 ^ p0)).testBit e = false := tf (fun h9 => by rw [(nb.mp h9).1] at hO; cases hO)
      have h2 : (nd O (2 ^ p0)).testBit p0 = false := tf (fun h9 => (nb.mp h9).2 rfl)
      have h3 := cst_cut (c := c) h1 L
      have h4 := cst_cut (c := c) h2 L
      have h5 : nd O (2 ^ p0) ||| 2 ^ p0 = O := by
        refine se (fun i hi => ?_) (fun i hi => ?_)
        · rcases ob.mp hi with h6 | h6
          · exact (nb.mp h6).1
          · rw [← h6]; exact hp0
        · by_cases e9 : p0 = i
          · exact ob.mpr (Or.inr e9)
          · exact ob.mpr (Or.inl (nb.mpr ⟨hi, e9⟩))
      rw [hO2, if_pos heL] at h3
      rw [h5, if_pos hp0L] at h4
      omega
    have hca : CA f g up (clo f g S L src) (nd (clo f g O L src) (clo f g S L src)) p0 := by
      refine ⟨by rw [hud p0 hp0L, hOu p0 hp0]; rfl, ?_, ?_⟩
      · refine ed_and2.mpr ?_
        rcases hab with ⟨e1, _⟩ | ⟨_, e1⟩
        · exact Or.inl (by rw [e1]; exact haR)
        · exact Or.inr (by rw [e1]; exact haR)
      · have hbo := ndb.mpr ⟨hbV, hbR⟩
        refine ed_and2.mpr ?_
        rcases hab with ⟨_, e1⟩ | ⟨e1, _⟩
        · exact Or.inr (by rw [e1]; exact hbo)
        · exact Or.inl (by rw [e1]; exact hbo)
    have h1 := hmin p0 hp0L hca
    have h2 := ho.2.2 O2 hO2L hfe
    rcases h1 with h1 | ⟨h1, h3⟩
    · omega
    · have hlt : O2 < O := by
        refine lt_tb (p := p0) (tf (fun h9 => ?_)) hp0 (fun j hj => ?_)
        · rcases (hbit p0).mp h9 with h8 | h8
          · exact h8.2 rfl
          · exact hne h8
        · cases hb : O.testBit j
          · apply tf
            intro h9
            rcases (hbit j).mp h9 with h8 | h8
            · rw [h8.1] at hb; cases hb
            · omega
          · exact (hbit j).mpr (Or.inl ⟨hb, by omega⟩)
      omega
  · rfl
theorem lf_reach (h : GH f g c L n src) {S e x y : Nat} (hcS : CN f g L src S) (hl : LF f g L src S e x y) : clo f g S L src ||| edg f g e = clo f g (S ||| 2 ^ e) L src := by
  rw [clo_lf h hl.1 hl.2.1 hl.2.2.1 (hcS.nx h hl.2.2.2)]
  have hxy := hl.2.1
  have hx := hl.2.2.1
  refine se (fun i hi => ?_) (fun i hi => ?_)
  · rcases obb.mp hi with h1 | h1
    · exact ob.mpr (Or.inl h1)
    · have : i = x ∨ i = y := by
        rcases hxy with ⟨e1, e2⟩ | ⟨e1, e2⟩ <;> rcases eb.mp h1 with h2 | h2
        · exact Or.inl (h2.symm.trans e1)
        · exact Or.inr (h2.symm.trans e2)
        · exact Or.inr (h2.symm.trans e1)
        · exact Or.inl (h2.symm.trans e2)
      rcases this with e1 | e1
      · rw [e1]; exact ob.mpr (Or.inl hx)
      · rw [e1]; exact ob.mpr (Or.inr rfl)
  · rcases ob.mp hi with h1 | h1
    · exact obb.mpr (Or.inl h1)
    · refine obb.mpr (Or.inr (eb.mpr ?_))
      rcases hxy with ⟨e1, e2⟩ | ⟨e1, e2⟩
      · exact Or.inr (e2.trans h1)
      · exact Or.inl (e1.trans h1)
theorem prim_all (h : GH f g c L n src) (hud : ∀ k, k < L → up.testBit k = !dn.testBit k) {O : Nat} (ho : OPT f g c L src mem dn O) : ∀ m S, SU S O → CN f g L src S → bts (nd (clo f g O L src) (clo f g S L src)) 7 ≤ m → gwN f g c up L (clo f g O L src) m S (clo f g S L src) = O := by
  have hn7 := h.2.2.2.2.1
  have fin : ∀ S, SU S O → clo f g O L src = clo f g S L src → S = O := by
    intro S hS hc
    refine se hS (fun k hk => ?_)
    cases e : S.testBit k
    · exfalso
      have hkL := bits_lt ho.1 hk
      have hlt := cst_lt (c := c) hS e hk (h.2.2.2.2.2.2 k hkL).2.2.2.1 L hkL
      have hfe : FE f g L src mem dn S := by
        refine ⟨?_, by rw [← hc]; exact ho.2.1.2⟩
        apply Classical.byContradiction
        intro h9
        obtain ⟨i, hi⟩ := nz_bit h9
        have : (O &&& dn).testBit i = true := abb.mpr ⟨hS i (abb.mp hi).1, (abb.mp hi).2⟩
        rw [ho.2.1.1] at this
        exact zb this
      have := ho.2.2 S (Nat.lt_of_le_of_lt (su_le hS) ho.1) hfe
      omega
    · rfl
  intro m
  induction m with
  | zero =>
    intro S hS hcS hb
    show S = O
    refine fin S hS (se ?_ (clo_mono h (fun k _ hk => hS k hk)))
    apply nd_0.mp
    apply Classical.byContradiction
    intro h9
    obtain ⟨i, hi⟩ := nz_bit h9
    have := bts_pos hi (m := 7) (by have := clo_n h (ndb.mp hi).1; omega)
    omega
  | succ m ih =>
    intro S hS hcS hb
    rw [gwN]
    cases he : chS f g c up (clo f g S L src) (nd (clo f g O L src) (clo f g S L src)) L with
    | none =>
      dsimp only
      have hno := (chS_min (f := f) (g := g) (c := c) (up := up) (R := clo f g S L src) (out := nd (clo f g O L src) (clo f g S L src)) L).1 he
      refine fin S hS (se (clo_min (clo_src f g L src S) ?_) (clo_mono h (fun k _ hk => hS k hk)))
      intro k u v hk hs hj hu
      cases hv : (clo f g S L src).testBit v
      · exfalso
        have huV := clo_mono h (fun k _ hk => hS k hk) u hu
        have hvV : (clo f g O L src).testBit v = true := clo_cl h O k u v hk hs hj huV
        have hvo := ndb.mpr ⟨hvV, hv⟩
        have hd : dn.testBit k = false := by
          apply tf
          intro h9
          have : (O &&& dn).testBit k = true := abb.mpr ⟨hs, h9⟩
          rw [ho.2.1.1] at this
          exact zb this
        apply hno k hk
        refine ⟨by rw [hud k hk, hd]; rfl, ?_, ?_⟩
        · refine ed_and2.mpr ?_
          rcases hj with ⟨e1, _⟩ | ⟨_, e1⟩
          · exact Or.inl (by rw [e1]; exact hu)
          · exact Or.inr (by rw [e1]; exact hu)
        · refine ed_and2.mpr ?_
          rcases hj with ⟨_, e1⟩ | ⟨e1, _⟩
          · exact Or.inr (by rw [e1]; exact hvo)
          · exact Or.inl (by rw [e1]; exact hvo)
      · rfl
    | some e =>
      dsimp only
      obtain ⟨hO, x, y, hl, hyV⟩ := prim_step h hud ho hS hcS he
      rw [lf_reach h hcS hl]
      refine ih _ ?_ (hcS.a h hl) ?_
      · intro k hk
        rcases ob.mp hk with h1 | h1
        · exact hS k h1
        · rw [← h1]; exact hO
      · have hsub : SU (nd (clo f g O L src) (clo f g (S ||| 2 ^ e) L src)) (nd (clo f g O L src) (clo f g S L src)) := by
          intro i hi
          obtain ⟨h1, h2⟩ := ndb.mp hi
          refine ndb.mpr ⟨h1, tf (fun h9 => ?_)⟩
          exact absurd (clo_mono h (fun k _ hk => ob.mpr (Or.inl hk)) i h9) (ft h2)
        have hy2 : (clo f g (S ||| 2 ^ e) L src).testBit y = true := by
          rw [clo_lf h hl.1 hl.2.1 hl.2.2.1 (hcS.nx h hl.2.2.2)]
          exact ob.mpr (Or.inr rfl)
        have hlt := bts_lt hsub (i := y) (tf (fun h9 => absurd hy2 (ft (ndb.mp h9).2))) (ndb.mpr ⟨hyV, hl.2.2.2⟩) 7 (by have := clo_n h hyV; omega)
        omega
/-- what is grown hangs together, and is up -/
theorem gw_cn (h : GH f g c L n src) {over : Nat} : ∀ m S, CN f g L src S → (∀ k, S.testBit k = true → k < L ∧ up.testBit k = true) → CN f g L src (gwN f g c up L over m S (clo f g S L src)) ∧ ∀ k, (gwN f g c up L over m S (clo f g S L src)).testBit k = true → k < L ∧ up.testBit k = true
  | 0, S, hc, hu => ⟨hc, hu⟩
  | m + 1, S, hc, hu => by
    rw [gwN]
    cases he : chS f g c up (clo f g S L src) (nd over (clo f g S L src)) L with
    | none => exact ⟨hc, hu⟩
    | some e =>
      dsimp only
      obtain ⟨heL, heu, heR, heV⟩ := chS_lt he
      obtain ⟨x, y, hxy, hx, hy⟩ : ∃ x y, JN f g e x y ∧ (clo f g S L src).testBit x = true ∧ (nd over (clo f g S L src)).testBit y = true := by
        rcases ed_and2.mp heR with h1 | h1 <;> rcases ed_and2.mp heV with h2 | h2
        · exact absurd h1 (ft (ndb.mp h2).2)
        · exact ⟨_, _, JN.fg f g e, h1, h2⟩
        · exact ⟨_, _, JN.gf f g e, h1, h2⟩
        · exact absurd h1 (ft (ndb.mp h2).2)
      have hl : LF f g L src S e x y := ⟨heL, hxy, hx, (ndb.mp hy).2⟩
      rw [lf_reach h hc hl]
      refine gw_cn h m _ (hc.a h hl) ?_
      intro k hk
      rcases ob.mp hk with h1 | h1
      · exact hu k h1
      · rw [← h1]; exact ⟨heL, heu⟩
theorem clo_z (f g : Nat → Nat) (L src : Nat) : clo f g 0 L src = 2 ^ src := by
  refine se (clo_min (by rw [Nat.testBit_two_pow]; simp) (fun k u x _ hs => (zb hs).elim)) ?_
  intro i hi
  rw [Nat.testBit_two_pow] at hi
  have := of_decide_eq_true hi
  subst this; exact clo_src f g L _ 0
end LS
section LA
variable {a : Nat → Nat} {r : Nat → Nat → Nat}
theorem of_eq (hw : WFT a r) : ofA a r = (mleN (r 0) (r 1) (r 2) (a 3) (a 1) (a 7) (a 9) (2 ^ a 3)).1 ∧ (mleN (r 0) (r 1) (r 2) (a 3) (a 1) (a 7) (a 9) (2 ^ a 3)).2 = coA a r (ofA a r) := by
  obtain ⟨hT, h, hg, hd, hm, _⟩ := hw
  have hud : ∀ k, k < a 3 → (upA a).testBit k = !(a 9).testBit k := fun k hk => up_bit a hk
  have hb : ∀ i, cst (r 2) i (a 3) < 1000000 := fun i => by
    have := coA_le hT i
    unfold coA at this
    omega
  have h8L : a 8 < 2 ^ a 3 := lt_bits (fun i hi => hg.lt i hi)
  have hf8 : FE (r 0) (r 1) (a 3) (a 1) (a 7) (a 9) (a 8) := by
    refine ⟨?_, nd_0.mpr (fun v hv => (hm v hv).2.2)⟩
    apply Classical.byContradiction
    intro h9
    obtain ⟨i, hi⟩ := nz_bit h9
    obtain ⟨h1, h2⟩ := abb.mp hi
    rw [hd i h1] at h2; cases h2
  obtain ⟨ho, hc2⟩ := mle_opt (c := r 2) hb h8L hf8
  generalize (mleN (r 0) (r 1) (r 2) (a 3) (a 1) (a 7) (a 9) (2 ^ a 3)).1 = O at ho hc2
  have hcnO := ho.cn h
  have hn7 := h.2.2.2.2.1
  have hsn := h.2.2.2.2.2.1
  -- wanted nodes
  have hwV : SU (a 7 ||| 2 ^ a 1) (CO a r O) := by
    intro i hi
    rcases ob.mp hi with h1 | h1
    · exact nd_0.mp ho.2.1.2 i h1
    · rw [← h1]; exact clo_src _ _ _ _ _
  have hV2 : CO a r O < 2 ^ a 0 := lt_bits (fun i hi => clo_n h hi)
  have hle := su_le hwV
  have hgO : gwA a r (CO a r O) = O := by
    unfold gwA
    rw [← clo_z (r 0) (r 1) (a 3) (a 1)]
    refine prim_all h hud ho (a 0 - 1) 0 (fun i hi => (zb hi).elim) (CN.z _ _ _ _) ?_
    rw [clo_z]
    have hlt := bts_lt (x := nd (CO a r O) (2 ^ a 1)) (y := CO a r O) (fun i hi => (nb.mp hi).1) (i := a 1) (tf (fun h9 => (nb.mp h9).2 rfl)) (clo_src _ _ _ _ _) 7 (by omega)
    have h2 : bts (CO a r O) 7 ≤ a 0 := by
      rw [bts_top (L := a 0) (fun i hi => tf (fun h9 => by have := clo_n h h9; omega)) 7 hn7]
      exact bts_le _ _
    show bts (nd (CO a r O) (2 ^ a 1)) 7 ≤ a 0 - 1
    omega
  have hnO : noA a r (gwA a r (CO a r O)) = CO a r O := by
    rw [hgO]; exact nof_clo h hcnO
  have hfeg : ∀ over, over &&& (a 7 ||| 2 ^ a 1) = (a 7 ||| 2 ^ a 1) → noA a r (gwA a r over) = over → FE (r 0) (r 1) (a 3) (a 1) (a 7) (a 9) (gwA a r over) ∧ gwA a r over < 2 ^ a 3 := by
    intro over h1 h2
    have hcn : CN (r 0) (r 1) (a 3) (a 1) (gwA a r over) ∧ ∀ k, (gwA a r over).testBit k = true → k < a 3 ∧ (upA a).testBit k = true := by
      unfold gwA
      rw [← clo_z (r 0) (r 1) (a 3) (a 1)]
      exact gw_cn h (a 0 - 1) 0 (CN.z _ _ _ _) (fun k hk => (zb hk).elim)
    have h3 : CO a r (gwA a r over) = over := (nof_clo h hcn.1).symm.trans h2
    refine ⟨⟨?_, nd_0.mpr (fun v hv => ?_)⟩, lt_bits (fun i hi => (hcn.2 i hi).1)⟩
    · apply Classical.byContradiction
      intro h9
      obtain ⟨i, hi⟩ := nz_bit h9
      obtain ⟨i1, i2⟩ := abb.mp hi
      have h4 := hcn.2 i i1
      have h5 := hud i h4.1
      rw [h4.2, i2] at h5; cases h5
    · show (CO a r (gwA a r over)).testBit v = true
      rw [h3]
      have : (over &&& (a 7 ||| 2 ^ a 1)).testBit v = true := by rw [h1]; exact ob.mpr (Or.inl hv)
      exact (abb.mp this).1
  have hinv : ∀ i, FE (r 0) (r 1) (a 3) (a 1) (a 7) (a 9) (ofN a r i) ∧ ofN a r i < 2 ^ a 3 := by
    intro i
    induction i with
    | zero => exact ⟨hf8, h8L⟩
    | succ i ih =>
      rw [ofN]
      split
      · rename_i h1
        exact hfeg _ h1.1 h1.2.1
      · exact ih
  have hhit : ofN a r (CO a r O - (a 7 ||| 2 ^ a 1) + 1) = O := by
    rw [ofN]
    have e : (a 7 ||| 2 ^ a 1) + (CO a r O - (a 7 ||| 2 ^ a 1)) = CO a r O := by omega
    rw [e]
    have h1 : CO a r O &&& (a 7 ||| 2 ^ a 1) = (a 7 ||| 2 ^ a 1) := se (fun i hi => (abb.mp hi).2) (fun i hi => abb.mpr ⟨hwV i hi, hi⟩)
    have hz := hinv (CO a r O - (a 7 ||| 2 ^ a 1))
    by_cases e2 : ofN a r (CO a r O - (a 7 ||| 2 ^ a 1)) = O
    · rw [e2, hgO]
      split <;> rfl
    · have hlo := ho.2.2 _ hz.2 hz.1
      rw [hgO, if_pos]
      refine ⟨h1, by rw [← hgO] ; rw [hgO]; rw [← hgO, hnO, hgO] , ?_⟩
      unfold lsB coA
      apply decide_eq_true
      rcases hlo with h3 | h3
      · exact Or.inl h3
      · exact Or.inr ⟨h3.1, by omega⟩
  have hstay : ∀ i, ofN a r i = O → ofN a r (i + 1) = O := by
    intro i hi
    rw [ofN, hi]
    split
    · rename_i h1
      have h2 := hfeg _ h1.1 h1.2.1
      have h3 := ho.2.2 _ h2.2 h2.1
      have h4 := of_decide_eq_true h1.2.2
      unfold coA at h4
      omega
    · rfl
  have hall : ∀ d, ofN a r (CO a r O - (a 7 ||| 2 ^ a 1) + 1 + d) = O := by
    intro d
    induction d with
    | zero => exact hhit
    | succ d ih => exact hstay _ ih
  have hfin : ofA a r = O := by
    unfold ofA
    have := hall (2 ^ a 0 - (a 7 ||| 2 ^ a 1) - (CO a r O - (a 7 ||| 2 ^ a 1) + 1))
    rw [show CO a r O - (a 7 ||| 2 ^ a 1) + 1 + (2 ^ a 0 - (a 7 ||| 2 ^ a 1) - (CO a r O - (a 7 ||| 2 ^ a 1) + 1)) = 2 ^ a 0 - (a 7 ||| 2 ^ a 1) by omega] at this
    exact this
  rw [hfin]
  exact ⟨rfl, hc2⟩
end LA
