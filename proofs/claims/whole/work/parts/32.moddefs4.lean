section QB
variable {p : Program} {l : Launch} {e : Env} {R : Room} {s : State} {m : MethodId} {args : Array Value} {below : List Frame} {meth : Method} {c : Code} {H : Heap} {locs : List Loc} {cells slots : Nat} {Q : State → Prop}
variable {cc : ByteArray} {pc : Nat} {ls : Array Slot} {rest : List Value} {G : GG} {A : Nat → Prop} {a : Nat} {ws : va_W} {H0 : Heap}
theorem sb_upd (f : Nat → Nat) (k x : Nat) : upd (fun j => sb_b (f j)) k (sb_b x) = fun j => sb_b (va_up f k x j) := by
  funext j
  simp only [upd, va_up]
  split <;> rfl
theorem sb_nar (x : Nat) : vp_nar .byte (sb_b x) = sb_b x := by
  show (sb_b x).toInt8.toInt32 = sb_b x
  unfold sb_b
  simp
theorem nv_bastS (hx : p.tables.exec = Jvm.exec) (hb : c.code = cc) (hX : CX G s) (hP : va_P G.1 vwCl ws H) (hD : va_D A ws) (hS : va_S A H0 H locs) (q0 : Nat) {n k v : Nat} {f : Nat → Nat} (ha : ws[q0]? = some (a, .inl (G.2 2, n, .inl (fun j => sb_b (f j))))) (hk : k < n) (hn : n < 2 ^ 31) (hdg : decode cc pc = .ok (.bastore, 1)) (kk : ∀ (H1 : Heap) (locs1 : List Loc), va_P G.1 vwCl (ws.set q0 (a, .inl (G.2 2, n, .inl (fun j => sb_b (va_up f k v j))))) H1 → va_D A (ws.set q0 (a, .inl (G.2 2, n, .inl (fun j => sb_b (va_up f k v j))))) → va_S A H0 H1 locs1 → W p l e R s m args below meth c H1 locs1 cells slots Q (F0 m (pc + 1) ls rest)) : W p l e R s m args below meth c H locs cells slots Q (F0 m pc ls (.int (sb_b v) :: .int (nI k) :: .ref a :: rest)) := by
  refine nv_bast hx hb hX hP hD hS q0 ha hk hn (sb_nar v) hdg ?_
  rw [sb_upd]
  exact kk
end QB
theorem in_dec2 (x : Int32) {n : Nat} (h : n < 2 ^ 31) : decide (nI 0 ≤ x ∧ x ≤ nI n) = decide (0 ≤ x.toInt ∧ x.toInt ≤ n) := by
  congr 1
  have h0 : (nI 0).toInt = 0 := by decide
  rw [Int32.le_iff_toInt_le, Int32.le_iff_toInt_le, h0, nI_toInt h]
theorem nd_in {v n : Nat} (h : v < n) (hn : n < 2 ^ 31) : decide (0 ≤ (nI v).toInt ∧ (nI v).toInt < n) = true := by
  rw [nI_toInt (by omega)]
  exact decide_eq_true ⟨by omega, by omega⟩
theorem in_in {v n : Nat} (h : v ≤ n) (hn : n < 2 ^ 31) : decide (nI 0 ≤ nI v ∧ nI v ≤ nI n) = true := by
  rw [in_dec2 _ hn, nI_toInt (by omega)]
  exact decide_eq_true ⟨by omega, by omega⟩
theorem in_no {v n : Nat} (h : n < v) (hn : v < 2 ^ 31) : decide (nI 0 ≤ nI v ∧ nI v ≤ nI n) = false := by
  rw [in_dec2 _ (by omega), nI_toInt (by omega)]
  exact decide_eq_false (fun h2 => by omega)
theorem sf_u {s : Nat → Nat} {i x : Nat} (h : i < 16) : sf (va_up s i x) = sf s := by
  funext k; unfold sf va_up; rw [if_neg (by omega)]
theorem sg_u {s : Nat → Nat} {i x : Nat} (h : i < 28) : sg (va_up s i x) = sg s := by
  funext k; unfold sg va_up; rw [if_neg (by omega)]
theorem sc_u {s : Nat → Nat} {i x : Nat} (h : i < 40) : sc (va_up s i x) = sc s := by
  funext k; unfold sc va_up; rw [if_neg (by omega)]
theorem sm_u {s : Nat → Nat} {i x : Nat} (h : i < 8) : sm (va_up s i x) = sm s := by
  funext k; unfold sm va_up; rw [if_neg (by omega)]
theorem SB.u_ {s : Nat → Nat} {i x : Nat} (hi : i < 8) (h : SB s) (hx : 2 ≤ va_up s i x 0 ∧ va_up s i x 0 ≤ 7 ∧ va_up s i x 2 < va_up s i x 0 ∧ va_up s i x 3 ≤ 9 ∧ va_up s i x 1 ≤ 12 ∧ va_up s i x 4 < 128 ∧ va_up s i x 5 < 4096 ∧ va_up s i x 6 < 4096 ∧ va_up s i x 7 ≤ 7) : SB (va_up s i x) := by
  obtain ⟨_, h1, h2, h3, h4⟩ := h
  have e : ∀ j, 8 ≤ j → va_up s i x j = s j := fun j hj => by unfold va_up; rw [if_neg (by omega)]
  refine ⟨hx, ?_, ?_, ?_, ?_⟩
  · intro j hj; rw [e j hj]; exact h1 j hj
  · intro j hj; rw [e _ (by omega)]; exact h2 j hj
  · intro j hj; rw [e _ (by omega)]; exact h3 j hj
  · intro j hj; rw [e _ (by omega)]; exact h4 j hj
theorem SB.u3 {s : Nat → Nat} {x : Nat} (h : SB s) (hx : x ≤ 9) : SB (va_up s 3 x) := by
  obtain ⟨⟨b0, b1, b2, b3, b4, b5, b6, b7, b8⟩, _⟩ := id h
  exact h.u_ (by decide) ⟨b0, b1, b2, hx, b4, b5, b6, b7, b8⟩
theorem SB.u4 {s : Nat → Nat} {x : Nat} (h : SB s) (hx : x < 128) : SB (va_up s 4 x) := by
  obtain ⟨⟨b0, b1, b2, b3, b4, b5, b6, b7, b8⟩, _⟩ := id h
  exact h.u_ (by decide) ⟨b0, b1, b2, b3, b4, hx, b6, b7, b8⟩
theorem SB.u5 {s : Nat → Nat} {x : Nat} (h : SB s) (hx : x < 4096) : SB (va_up s 5 x) := by
  obtain ⟨⟨b0, b1, b2, b3, b4, b5, b6, b7, b8⟩, _⟩ := id h
  exact h.u_ (by decide) ⟨b0, b1, b2, b3, b4, b5, hx, b7, b8⟩
theorem SB.u6 {s : Nat → Nat} {x : Nat} (h : SB s) (hx : x < 4096) : SB (va_up s 6 x) := by
  obtain ⟨⟨b0, b1, b2, b3, b4, b5, b6, b7, b8⟩, _⟩ := id h
  exact h.u_ (by decide) ⟨b0, b1, b2, b3, b4, b5, b6, hx, b8⟩
theorem up45 (s : Nat → Nat) (a b c d : Nat) : va_up (va_up (va_up (va_up s 5 a) 4 b) 5 c) 4 d = va_up (va_up s 5 c) 4 d := by
  funext j
  unfold va_up
  by_cases h4 : j = 4
  · rw [if_pos h4, if_pos h4]
  · by_cases h5 : j = 5
    · simp [h4, h5]
    · simp [h4, h5]
/-- all ways go on -/
def WA (f g c : Nat → Nat) (dn L n : Nat) : Prop := ∀ goals, WOK f g c (W0 f g c dn L n goals) dn L n
/-- members that join again, of the first v: members, tree, how many are lost -/
def mcS (f g c : Nat → Nat) (dn L n src mem tree : Nat) : Nat → Nat × Nat × Nat
  | 0 => (mem, tree, 0)
  | v + 1 =>
    if (mcS f g c dn L n src mem tree v).1.testBit v = true ∧ (clo f g (mcS f g c dn L n src mem tree v).2.1 L src).testBit v = false then
      (if W0 f g c dn L n (clo f g (mcS f g c dn L n src mem tree v).2.1 L src) v < 1000000 then ((mcS f g c dn L n src mem tree v).1, (mcS f g c dn L n src mem tree v).2.1 ||| wyM f g c dn L n src (mcS f g c dn L n src mem tree v).2.1 v, (mcS f g c dn L n src mem tree v).2.2 + 0)
      else (nd (mcS f g c dn L n src mem tree v).1 (2 ^ v), (mcS f g c dn L n src mem tree v).2.1 ||| 0, (mcS f g c dn L n src mem tree v).2.2 + 1))
    else mcS f g c dn L n src mem tree v
theorem mcS_lt {f g c : Nat → Nat} {dn L n src mem tree : Nat} (hL : L ≤ 12) (hm : mem < 128) (ht : tree < 4096) : ∀ v, (mcS f g c dn L n src mem tree v).1 < 128 ∧ (mcS f g c dn L n src mem tree v).2.1 < 4096 ∧ (mcS f g c dn L n src mem tree v).2.2 ≤ v
  | 0 => ⟨hm, ht, Nat.le_refl _⟩
  | v + 1 => by
    have ih := mcS_lt hL hm ht v (f := f) (g := g) (c := c) (dn := dn) (n := n) (src := src)
    unfold mcS
    split
    · split
      · exact ⟨ih.1, or_lt (n := 12) ih.2.1 (wfM_lt hL _ _ _ (by decide)), by show _ + 0 ≤ _; omega⟩
      · exact ⟨Nat.lt_of_le_of_lt (nd_le _ _) ih.1, or_lt (n := 12) ih.2.1 (by decide), by show _ + 1 ≤ _; omega⟩
    · exact ⟨ih.1, ih.2.1, by omega⟩
def joS (s w : Nat → Nat) (v : Nat) : Nat → Nat := va_up (va_up s 4 (s 4 ||| 2 ^ v)) 5 (s 5 ||| wfM (sf s) (sg s) (sc s) w (s 6) (s 1) 1000000 v 0)
def leS (s : Nat → Nat) (v : Nat) : Nat → Nat := va_up (va_up s 4 (nd (s 4) (2 ^ v))) 5 (mpN (sf s) (sg s) (s 1) (s 0) (s 2) (nd (s 4) (2 ^ v)) 4096 (s 5))
def hgM (s : Nat → Nat) (k : Nat) : Nat := mhaN (sf s) (nd (s 5) (2 ^ k)) (clo (sf s) (sg s) (nd (s 5) (2 ^ k)) (s 1) (s 2)) (s 1)
def mhaN_lt (f : Nat → Nat) (x y : Nat) : ∀ k, mhaN f x y k < 2 ^ k
  | 0 => by simp [mhaN]
  | k + 1 => by
    have h := mhaN_lt f x y k
    have h2 : 2 ^ k < 2 ^ (k + 1) := pw_lt (by omega)
    unfold mhaN
    split
    · exact or_lt (by omega) h2
    · omega
/-- what a cut leaves: members, tree, how many are lost -/
def cmS (s : Nat → Nat) (k v : Nat) : Nat × Nat × Nat := mcS (sf s) (sg s) (sc s) (s 6 ||| 2 ^ k) (s 1) (s 0) (s 2) (s 4) (hgM s k) v
def cutS (s : Nat → Nat) (k : Nat) : Nat → Nat := va_up (va_up (va_up s 6 (s 6 ||| 2 ^ k)) 4 (cmS s k (s 0)).1) 5 (mpN (sf s) (sg s) (s 1) (s 0) (s 2) (cmS s k (s 0)).1 4096 (cmS s k (s 0)).2.1)
theorem sub_ng {a b : Nat} (h : a ≤ b) (h2 : b ≤ 108) : ¬ 0 < nI a - nI b := by
  rw [Int32.lt_iff_toInt_lt, pk_sub_toInt (by omega) (by omega)]
  have : (0 : Int32).toInt = 0 := by decide
  rw [this]; omega
/-- the link of a way n steps on -/
def msN (f g c w : Nat → Nat) (dn L : Nat) : Nat → Nat → Option Nat
  | 0, v => nlO f g c w dn L v
  | i + 1, v => match nlO f g c w dn L v with
    | none => none
    | some k => match byO f g k v with
      | none => none
      | some b => msN f g c w dn L i b
theorem msN_go {f g c w : Nat → Nat} {dn L i v k b : Nat} (h1 : nlO f g c w dn L v = some k) (h2 : byO f g k v = some b) : msN f g c w dn L (i + 1) v = msN f g c w dn L i b := by
  rw [msN, h1]; simp only [h2]
theorem nlS_eq {f g c w : Nat → Nat} {dn v : Nat} : ∀ {k j : Nat}, (nlS f g c w dn v k).1 = some j → ∃ b, byO f g j v = some b ∧ dn.testBit j = false ∧ w b + 16 * c j + 1 = w v ∧ (nlS f g c w dn v k).2 = b
  | 0, j, h => by cases h
  | k + 1, j, h => by
    cases hb : byO f g k v with
    | none => rw [nlS_none hb] at h ⊢; exact nlS_eq h
    | some b =>
      by_cases hc : dn.testBit k = false ∧ w b + 16 * c k + 1 = w v ∧ b < (nlS f g c w dn v k).2
      · rw [nlS_yes hb hc.1 hc.2.1 hc.2.2] at h ⊢
        cases h
        exact ⟨b, hb, hc.1, hc.2.1, rfl⟩
      · rw [nlS_no hb hc] at h ⊢
        exact nlS_eq h
theorem nl_step {f g c w : Nat → Nat} {dn L n v k b : Nat} (h1 : nlO f g c w dn L v = some k) (h2 : byO f g k v = some b) (hm : w b % 16 ≤ 6) : w v % 16 = w b % 16 + 1 := by
  obtain ⟨b2, e1, _, e2, _⟩ := nlS_eq h1
  rw [h2] at e1
  cases e1
  rw [← e2]
  omega
/-- by how a node's way is, all that was seen is so -/
def fuB (w : Nat → Nat) (fa : Nat → Int32) (v : Nat) : Nat → Bool
  | 0 => true
  | k + 1 => fuB w fa v k && decide (oN (mawI w v (fa (2 * k))) = fa (2 * k + 1))
theorem fuB_no {w : Nat → Nat} {fa : Nat → Int32} {v k : Nat} (h : fuB w fa v k = false) : ∀ n, k ≤ n → fuB w fa v n = false
  | 0, h2 => by have : k = 0 := by omega
                rw [this] at h; exact h
  | n + 1, h2 => by
    by_cases e : k = n + 1
    · rw [← e]; exact h
    · rw [fuB, fuB_no h n (by omega), Bool.false_and]
def fiB (w : Nat → Nat) (fa : Nat → Int32) (mf src mem v : Nat) : Bool := decide (v ≠ src) && !mem.testBit v && fuB w fa v mf
def mwS (w : Nat → Nat) (fa : Nat → Int32) (mf src mem : Nat) : Nat → Nat × Option Nat
  | 0 => (0, none)
  | v + 1 => if fiB w fa mf src mem v = true then ((mwS w fa mf src mem v).1 + 1, if (mwS w fa mf src mem v).1 = 0 then some v else (mwS w fa mf src mem v).2) else ((mwS w fa mf src mem v).1 + 0, (mwS w fa mf src mem v).2)
theorem mwS_le (w : Nat → Nat) (fa : Nat → Int32) (mf src mem : Nat) : ∀ v, (mwS w fa mf src mem v).1 ≤ v
  | 0 => Nat.le_refl _
  | v + 1 => by
    have h := mwS_le w fa mf src mem v
    unfold mwS
    split
    · show _ + 1 ≤ _; omega
    · show _ + 0 ≤ _; omega
theorem cmS_no1 {s : Nat → Nat} {k v : Nat} (h : (cmS s k v).1.testBit v = false) : cmS s k (v + 1) = cmS s k v := by
  unfold cmS at h ⊢
  rw [mcS, if_neg (fun h2 => absurd (h.symm.trans h2.1) (by decide))]
theorem cmS_no2 {s : Nat → Nat} {k v : Nat} (h : (clo (sf s) (sg s) (cmS s k v).2.1 (s 1) (s 2)).testBit v = true) : cmS s k (v + 1) = cmS s k v := by
  unfold cmS at h ⊢
  rw [mcS, if_neg (fun h2 => absurd (h.symm.trans h2.2) (by decide))]
theorem cmS_way {s : Nat → Nat} {k v : Nat} (h1 : (cmS s k v).1.testBit v = true) (h2 : (clo (sf s) (sg s) (cmS s k v).2.1 (s 1) (s 2)).testBit v = false) (h3 : W0 (sf s) (sg s) (sc s) (s 6 ||| 2 ^ k) (s 1) (s 0) (clo (sf s) (sg s) (cmS s k v).2.1 (s 1) (s 2)) v < 1000000) : cmS s k (v + 1) = ((cmS s k v).1, (cmS s k v).2.1 ||| wyM (sf s) (sg s) (sc s) (s 6 ||| 2 ^ k) (s 1) (s 0) (s 2) (cmS s k v).2.1 v, (cmS s k v).2.2 + 0) := by
  unfold cmS at h1 h2 h3 ⊢
  rw [mcS, if_pos ⟨h1, h2⟩, if_pos h3]
theorem cmS_lost {s : Nat → Nat} {k v : Nat} (h1 : (cmS s k v).1.testBit v = true) (h2 : (clo (sf s) (sg s) (cmS s k v).2.1 (s 1) (s 2)).testBit v = false) (h3 : 1000000 ≤ W0 (sf s) (sg s) (sc s) (s 6 ||| 2 ^ k) (s 1) (s 0) (clo (sf s) (sg s) (cmS s k v).2.1 (s 1) (s 2)) v) : cmS s k (v + 1) = (nd (cmS s k v).1 (2 ^ v), (cmS s k v).2.1 ||| 0, (cmS s k v).2.2 + 1) := by
  unfold cmS at h1 h2 h3 ⊢
  rw [mcS, if_pos ⟨h1, h2⟩, if_neg (Nat.not_lt.mpr h3)]
