/-! the object itself: its world and words -/
def obw (G : GG) (ad : Nat → Nat) (t0 n0 d0 p0 b0 w0 s0 i0 i1 : Nat) (kp : Nat → Int32) : va_W := [(ad 0, .inr (6, [.ref t0, .ref n0, .ref d0, .ref p0, .ref b0, .ref w0, .ref s0, .ref (ad 1), .ref (ad 2)])), (ad 1, .inl (G.2 3, 2, .inr (.inr (.inr (.inr (fun k => if k = 0 then some i0 else some i1)))))), (ad 2, .inl (G.2 1, 2, .inl kp))]
theorem in_le {x : Int32} {n : Nat} (h1 : ¬ x < 0) (h2 : x ≤ nI n) (hn : n < 2 ^ 31) : 0 ≤ x.toInt ∧ x.toInt ≤ n := by
  rw [Int32.le_iff_toInt_le, nI_toInt hn] at h2
  have h3 : 0 ≤ x.toInt := by
    have := Int32.not_lt.mp h1
    simpa using Int32.le_iff_toInt_le.mp this
  exact ⟨h3, h2⟩
theorem in_lt {x : Int32} {n : Nat} (h1 : ¬ x < 0) (h2 : x < nI n) (hn : n < 2 ^ 31) : 0 ≤ x.toInt ∧ x.toInt < n := by
  rw [Int32.lt_iff_toInt_lt, nI_toInt hn] at h2
  have h3 : 0 ≤ x.toInt := by
    have := Int32.not_lt.mp h1
    simpa using Int32.le_iff_toInt_le.mp this
  exact ⟨h3, h2⟩
def roN (a : Nat → Nat) (v : Nat) : Nat := if v = a 1 then 2 else if (a 7).testBit v = true then 1 else 0
theorem roN_le (a : Nat → Nat) (v : Nat) : roN a v ≤ 2 := by
  unfold roN
  split
  · omega
  · split <;> omega
/-- the nodes by which all that was seen is so, of the first v -/
def fiN (a : Nat → Nat) (w : Nat → Nat) (wh : Nat → Nat) (nu : Nat → Int32) (sz : Nat) : Nat → Nat
  | 0 => 0
  | v + 1 => if roN a v = 0 ∧ fitN wh nu (oN (cfr w v)) (oN (sfr w v)) sz = true then fiN a w wh nu sz v ||| 2 ^ v else fiN a w wh nu sz v
theorem fiN_lt (a : Nat → Nat) (w : Nat → Nat) (wh : Nat → Nat) (nu : Nat → Int32) (sz : Nat) : ∀ v, fiN a w wh nu sz v < 2 ^ v
  | 0 => by simp [fiN]
  | v + 1 => by
    have h := fiN_lt a w wh nu sz v
    have h2 : 2 ^ v < 2 ^ (v + 1) := pw_lt (by omega)
    unfold fiN
    split
    · exact or_lt (by omega) h2
    · omega
/-- Integer.numberOfTrailingZeros -/
def nz0 (x : Int32) : Int32 := (x ^^^ (-1)) &&& (x - nI 1)
def lowB (n : Nat) : Nat → Nat
  | 0 => 0
  | k + 1 => if n.testBit 0 then 0 else lowB (n / 2) k + 1
section QZ
variable {p : Program} {l : Launch} {e : Env} {R : Room} {s : State} {m : MethodId} {args : Array Value} {below : List Frame} {meth : Method} {c : Code} {H : Heap} {locs : List Loc} {cells slots : Nat} {Q : State → Prop}
variable {cc : ByteArray} {pc : Nat} {ls : Array Slot} {rest : List Value} {G : GG} {A : Nat → Prop} {a : Nat} {ws : va_W} {H0 : Heap}
theorem nv_zast (hx : p.tables.exec = Jvm.exec) (hb : c.code = cc) (hX : CX G s) (hP : va_P G.1 vwCl ws H) (hD : va_D A ws) (hS : va_S A H0 H locs) (q0 : Nat) {n k : Nat} {v : Int32} {f : Nat → Int32} (ha : ws[q0]? = some (a, .inl (G.2 1, n, .inl f))) (hk : k < n) (hn : n < 2 ^ 31) (hv : vp_nar .boolean v = v) (hdg : decode cc pc = .ok (.bastore, 1)) (kk : ∀ (H1 : Heap) (locs1 : List Loc), va_P G.1 vwCl (ws.set q0 (a, .inl (G.2 1, n, .inl (upd f k v)))) H1 → va_D A (ws.set q0 (a, .inl (G.2 1, n, .inl (upd f k v)))) → va_S A H0 H1 locs1 → W p l e R s m args below meth c H1 locs1 cells slots Q (F0 m (pc + 1) ls rest)) : W p l e R s m args below meth c H locs cells slots Q (F0 m pc ls (.int v :: .int (nI k) :: .ref a :: rest)) := by
  refine va_zast hx hb hX.1 hP hD hS q0 1 ha rfl (vp_in_nI hk hn) hdg ?_
  rw [nI_clamp (by omega), hv]
  exact kk
theorem nv_bast (hx : p.tables.exec = Jvm.exec) (hb : c.code = cc) (hX : CX G s) (hP : va_P G.1 vwCl ws H) (hD : va_D A ws) (hS : va_S A H0 H locs) (q0 : Nat) {n k : Nat} {v : Int32} {f : Nat → Int32} (ha : ws[q0]? = some (a, .inl (G.2 2, n, .inl f))) (hk : k < n) (hn : n < 2 ^ 31) (hv : vp_nar .byte v = v) (hdg : decode cc pc = .ok (.bastore, 1)) (kk : ∀ (H1 : Heap) (locs1 : List Loc), va_P G.1 vwCl (ws.set q0 (a, .inl (G.2 2, n, .inl (upd f k v)))) H1 → va_D A (ws.set q0 (a, .inl (G.2 2, n, .inl (upd f k v)))) → va_S A H0 H1 locs1 → W p l e R s m args below meth c H1 locs1 cells slots Q (F0 m (pc + 1) ls rest)) : W p l e R s m args below meth c H locs cells slots Q (F0 m pc ls (.int v :: .int (nI k) :: .ref a :: rest)) := by
  refine va_bast hx hb hX.1 hP hD hS q0 2 ha rfl (vp_in_nI hk hn) hdg ?_
  rw [nI_clamp (by omega), hv]
  exact kk
end QZ
