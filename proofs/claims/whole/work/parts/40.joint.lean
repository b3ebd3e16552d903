/-! the two objects side by side -/
abbrev TT : Type := (Nat → Nat) × (Nat → Nat → Nat)
/-- an object of the class: kept, text, now, told, past, builder's ways, ways, sights, images -/
abbrev CS : Type := (Nat → Int32) × ((Nat → Nat) × (Nat → Nat)) × TT × TT × (Nat × Nat × (Nat → Nat → Nat) × (Nat → Nat → Nat → Nat)) × ((Nat → Nat) × Nat) × ((Nat → Nat) × Nat) × ((Nat → Nat) × (Nat → Int32) × Nat) × TT × TT
/-- one of the reference: numbers, fault, the talk, draft, past, kept, isKept, facts, text, away -/
abbrev MS : Type := (Nat → Nat) × Option Nat × (Nat → Nat) × (Nat → Int32) × (Nat → Nat) × (Nat → Nat) × (Nat → Int32) × (Nat → Int32) × (Nat → Nat) × (Nat → Nat)
def cw (G : GG) (ca ads : Nat → Nat → Nat) (x : CS) : va_W := clw G ca ads x.1 x.2.1.1 x.2.1.2 x.2.2.1.1 x.2.2.1.2 x.2.2.2.1.1 x.2.2.2.1.2 x.2.2.2.2.1.1 x.2.2.2.2.1.2.1 x.2.2.2.2.1.2.2.1 x.2.2.2.2.1.2.2.2 x.2.2.2.2.2.1.1 x.2.2.2.2.2.1.2 x.2.2.2.2.2.2.1.1 x.2.2.2.2.2.2.1.2 x.2.2.2.2.2.2.2.1.1 x.2.2.2.2.2.2.2.1.2.1 x.2.2.2.2.2.2.2.1.2.2 x.2.2.2.2.2.2.2.2.1.1 x.2.2.2.2.2.2.2.2.1.2 x.2.2.2.2.2.2.2.2.2.1 x.2.2.2.2.2.2.2.2.2.2
def mw (G : GG) (ad : Nat → Nat) (y : MS) : va_W := mow G ad y.1 y.2.1 y.2.2.1 y.2.2.2.1 y.2.2.2.2.1 y.2.2.2.2.2.1 y.2.2.2.2.2.2.1 y.2.2.2.2.2.2.2.1 y.2.2.2.2.2.2.2.2.1 y.2.2.2.2.2.2.2.2.2
/-- what a call may do, of a world -/
def CV (l : Launch) (G : GG) (y : MethodName) (bytes : ByteArray) (maxL : Nat) (b ci : Nat) (as : List Value) (w : va_W) {T : Type} (post : Int32 → T → Prop) (w' : T → va_W) : Prop :=
  ∃ (rm : Room) (wc wr0 : va_W) (S : Type) (post0 : Int32 → S → Prop) (w0' : S → va_W) (fs : List Value), Mi l y bytes maxL (some .int) rm G (.ref b :: as) wc post0 w0' ∧ wc[0]? = some (b, .inr (ci, fs)) ∧ w.Perm (wc ++ wr0) ∧ (rm.frames ≤ 10 ∧ rm.locals ≤ 250 ∧ rm.cells = 0 ∧ rm.slots = 0) ∧ ∀ r u, post0 r u → ∃ u', post r u' ∧ (w0' u ++ wr0).Perm (w' u')
def CVE (E : (Nat → Prop) → State → Prop) (l : Launch) (G : GG) (y : MethodName) (bytes : ByteArray) (maxL : Nat) (b ci : Nat) (as : List Value) (w : va_W) {T : Type} (post : Int32 → T → Prop) (w' : T → va_W) : Prop :=
  ∃ (rm : Room) (wc wr0 : va_W) (S : Type) (post0 : Int32 → S → Prop) (w0' : S → va_W) (fs : List Value), MiE E l y bytes maxL (some .int) rm G (.ref b :: as) wc post0 w0' ∧ wc[0]? = some (b, .inr (ci, fs)) ∧ w.Perm (wc ++ wr0) ∧ (rm.frames ≤ 10 ∧ rm.locals ≤ 250 ∧ rm.cells = 0 ∧ rm.slots = 0) ∧ ∀ r u, post0 r u → ∃ u', post r u' ∧ (w0' u ++ wr0).Perm (w' u')
section QJ
variable {p : Program} {l : Launch} {e : Env} {R : Room} {s : State} {m : MethodId} {args : Array Value} {below : List Frame} {meth : Method} {c : Code} {H : Heap} {locs : List Loc} {cells slots : Nat} {Q : State → Prop}
variable {cc : ByteArray} {pc nL : Nat} {ls : Array Slot} {rest st0 : List Value} {G : GG} {A : Nat → Prop} {ws w wr : va_W} {own : String}
variable {T : Type} {y : MethodName} {bytes : ByteArray} {maxL n index b ci : Nat} {as : List Value} {w' : T → va_W} {q : vw_C} {E : (Nat → Prop) → State → Prop}
theorem ca_CV {post : Int32 → T → Prop} (F : CallFix p m c cc nL s args wA own) (hX : CX G s) (hM : CV l G y bytes maxL b ci as w post w') (hc1 : Cond.code y bytes maxL (some .int) ∈ wA) (hc2 : Cond.initialized y.cls ∈ wA) (hc3 : Cond.methodLink own index y ∈ wA) (hc4 : Cond.instanceMethod y ∈ wA) (hc5 : Cond.selects q.1 y y ∈ wA) (hd : hdOK y n) (hc : vwCl[ci]? = some q) (hm7 : maxL ≤ 20) (hR : 11 ≤ R.frames ∧ 300 ≤ R.locals) (hn : as.length = n) (hsz : ls.size = nL) (hst : st0 = as.reverse ++ .ref b :: rest) (hW : (rest.map fun v => v.category).sum ≤ 8) (hdg : decode cc pc = .ok (.invokevirtual index, 3)) (hf : cells ≤ R.cells ∧ slots ≤ R.slots)
    (hP : va_P G.1 vwCl ws H) (hD : va_D A ws) (hS : va_S A s.heap H locs) (hA : ∀ q, s.heap.size ≤ q → A q) (pm : ws.Perm (w ++ wr))
    (kk : ∀ (r : Int32) (u : T) (H1 : Heap) (locs1 : List Loc), post r u → va_P G.1 vwCl (w' u ++ wr) H1 → va_D A (w' u ++ wr) → va_S A s.heap H1 locs1 → W p l e R s m args below meth c H1 locs1 cells slots Q (F0 m (pc + 3) ls (.int r :: rest))) : W p l e R s m args below meth c H locs cells slots Q (F0 m pc ls st0) := by
  obtain ⟨rm, wc, wr0, S, post0, w0', fs, hMi, he, hpm, ⟨h1, h2, h3, h4⟩, hpost⟩ := hM
  obtain ⟨fr, ce, sl, lo⟩ := rm
  simp only at h1 h2 h3 h4
  subst h3
  subst h4
  refine ca_Vi (ci := ci) (q := q) (wr := wr0 ++ wr) F hX hMi (cA_V F.2.2.2.2 hc1 hc2 hc3 hc4 hc5 hd ⟨by show fr + 1 ≤ _; omega, by show 8 + (maxL + 11) + lo ≤ _; omega⟩) hc he hn hsz hst hW hdg hf hP hD hS hA (pm.trans ((List.Perm.append_right wr hpm).trans (List.Perm.of_eq (List.append_assoc _ _ _)))) ?_
  intro r u H1 locs1 g1 g2 g3 g4
  obtain ⟨u', g5, g6⟩ := hpost r u g1
  have pm2 : (w0' u ++ (wr0 ++ wr)).Perm (w' u' ++ wr) := (List.Perm.of_eq (List.append_assoc _ _ _).symm).trans (List.Perm.append_right wr g6)
  exact kk r u' H1 locs1 g5 (wp_pm pm2 g2) (wd_pm pm2 g3) g4
theorem ca_CVE {post : Int32 → T → Prop} (hstE : Estab E) (hE : E A s) (F : CallFix p m c cc nL s args wA own) (hX : CX G s) (hM : CVE E l G y bytes maxL b ci as w post w') (hc1 : Cond.code y bytes maxL (some .int) ∈ wA) (hc2 : Cond.initialized y.cls ∈ wA) (hc3 : Cond.methodLink own index y ∈ wA) (hc4 : Cond.instanceMethod y ∈ wA) (hc5 : Cond.selects q.1 y y ∈ wA) (hd : hdOK y n) (hc : vwCl[ci]? = some q) (hm7 : maxL ≤ 20) (hR : 11 ≤ R.frames ∧ 300 ≤ R.locals) (hn : as.length = n) (hsz : ls.size = nL) (hst : st0 = as.reverse ++ .ref b :: rest) (hW : (rest.map fun v => v.category).sum ≤ 8) (hdg : decode cc pc = .ok (.invokevirtual index, 3)) (hf : cells ≤ R.cells ∧ slots ≤ R.slots)
    (hP : va_P G.1 vwCl ws H) (hD : va_D A ws) (hS : va_S A s.heap H locs) (hA : ∀ q, s.heap.size ≤ q → A q) (pm : ws.Perm (w ++ wr))
    (kk : ∀ (r : Int32) (u : T) (H1 : Heap) (locs1 : List Loc), post r u → va_P G.1 vwCl (w' u ++ wr) H1 → va_D A (w' u ++ wr) → va_S A s.heap H1 locs1 → W p l e R s m args below meth c H1 locs1 cells slots Q (F0 m (pc + 3) ls (.int r :: rest))) : W p l e R s m args below meth c H locs cells slots Q (F0 m pc ls st0) := by
  obtain ⟨rm, wc, wr0, S, post0, w0', fs, hMi, he, hpm, ⟨h1, h2, h3, h4⟩, hpost⟩ := hM
  obtain ⟨fr, ce, sl, lo⟩ := rm
  simp only at h1 h2 h3 h4
  subst h3
  subst h4
  have pm1 : ws.Perm (wc ++ (wr0 ++ wr)) := pm.trans ((List.Perm.append_right wr hpm).trans (List.Perm.of_eq (List.append_assoc _ _ _)))
  refine ca_ViE (wr := wr0 ++ wr) hstE hE F hX hMi (cA_V F.2.2.2.2 hc1 hc2 hc3 hc4 hc5 hd ⟨by show fr + 1 ≤ _; omega, by show 8 + (maxL + 11) + lo ≤ _; omega⟩) (pr_V (as := as) hX (wp_l (wp_pm pm1 hP)) (wd_l (wd_pm pm1 hD)) hc he).2.1 hn hsz hst hW hdg hf hP hD hS hA pm1 ?_
  intro r u H1 locs1 g1 g2 g3 g4
  obtain ⟨u', g5, g6⟩ := hpost r u g1
  have pm2 : (w0' u ++ (wr0 ++ wr)).Perm (w' u' ++ wr) := (List.Perm.of_eq (List.append_assoc _ _ _).symm).trans (List.Perm.append_right wr g6)
  exact kk r u' H1 locs1 g5 (wp_pm pm2 g2) (wd_pm pm2 g3) g4
end QJ
/-- both answer alike, and stay alike -/
def JS (l : Launch) (G : GG) (Rel : CS → MS → Prop) (yC : MethodName) (cC : ByteArray) (nC : Nat) (yM : MethodName) (cM : ByteArray) (nM : Nat) (as : List Value) : Prop :=
  ∀ (ca ads : Nat → Nat → Nat) (ad : Nat → Nat) (x : CS) (y : MS), Rel x y → ∃ (r : Int32) (PC : CS → Prop) (PM : MS → Prop), CV l G yC cC nC (ca 0 0) 6 as (cw G ca ads x) (fun r' (x' : CS) => r' = r ∧ PC x') (cw G ca ads) ∧ CV l G yM cM nM (ad 0) 7 as (mw G ad y) (fun r' (y' : MS) => r' = r ∧ PM y') (mw G ad) ∧ ∀ x' y', PC x' → PM y' → Rel x' y'
def JSE (E : (Nat → Prop) → State → Prop) (l : Launch) (G : GG) (Rel : CS → MS → Prop) (yC : MethodName) (cC : ByteArray) (nC : Nat) (yM : MethodName) (cM : ByteArray) (nM : Nat) (as : List Value) : Prop :=
  ∀ (ca ads : Nat → Nat → Nat) (ad : Nat → Nat) (x : CS) (y : MS), Rel x y → ∃ (r : Int32) (PC : CS → Prop) (PM : MS → Prop), CVE E l G yC cC nC (ca 0 0) 6 as (cw G ca ads x) (fun r' (x' : CS) => r' = r ∧ PC x') (cw G ca ads) ∧ CV l G yM cM nM (ad 0) 7 as (mw G ad y) (fun r' (y' : MS) => r' = r ∧ PM y') (mw G ad) ∧ ∀ x' y', PC x' → PM y' → Rel x' y'
theorem i31 (x : Int32) : ∃ k, k < 32 ∧ x &&& nI 31 = nI k := by
  refine ⟨(x &&& nI 31).toInt.toNat, ?_, ?_⟩
  · have h1 : (x &&& nI 31).toBitVec = x.toBitVec &&& 31#32 := rfl
    have h2 : (x.toBitVec &&& 31#32).toNat < 32 := by
      have : (x.toBitVec &&& 31#32).toNat = x.toBitVec.toNat &&& 31 := by simp
      rw [this]
      have := Nat.and_le_right (n := x.toBitVec.toNat) (m := 31)
      omega
    have h3 : (x &&& nI 31).toInt = ((x.toBitVec &&& 31#32).toNat : Int) := by
      show (x &&& nI 31).toBitVec.toInt = _
      rw [h1, BitVec.toInt_eq_toNat_of_lt (by omega)]
    rw [h3]
    omega
  · have h1 : (x &&& nI 31).toBitVec = x.toBitVec &&& 31#32 := rfl
    have h2 : (x.toBitVec &&& 31#32).toNat < 32 := by
      have : (x.toBitVec &&& 31#32).toNat = x.toBitVec.toNat &&& 31 := by simp
      rw [this]
      have := Nat.and_le_right (n := x.toBitVec.toNat) (m := 31)
      omega
    have h3 : (x &&& nI 31).toInt = ((x.toBitVec &&& 31#32).toNat : Int) := by
      show (x &&& nI 31).toBitVec.toInt = _
      rw [h1, BitVec.toInt_eq_toNat_of_lt (by omega)]
    rw [← Int32.toInt_inj, nI_toInt (by rw [h3]; omega), h3]
    omega
theorem k21 (k : Nat) : k = 0 ∨ k = 1 ∨ k = 2 ∨ k = 3 ∨ k = 4 ∨ k = 5 ∨ k = 6 ∨ k = 7 ∨ k = 8 ∨ k = 9 ∨ k = 10 ∨ k = 11 ∨ k = 12 ∨ k = 13 ∨ k = 14 ∨ k = 15 ∨ k = 16 ∨ k = 17 ∨ k = 18 ∨ k = 19 ∨ 20 ≤ k := by omega
theorem gt3 {i L : Nat} (hi : i < 2 ^ 20) (hL : L < 2 ^ 20) : (nI L - nI 3 < nI i) ↔ L < i + 3 := by
  rw [Int32.lt_iff_toInt_lt, pk_sub_toInt (by omega) (by omega), nI_toInt (by omega)]
  omega
