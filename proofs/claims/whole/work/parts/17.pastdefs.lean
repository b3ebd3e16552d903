/-! what can be undone; what was seen: worlds and words -/
section QT
variable {p : Program} {l : Launch} {e : Env} {R : Room} {s : State} {m : MethodId} {args : Array Value} {below : List Frame} {meth : Method} {c : Code} {H : Heap} {locs : List Loc} {cells slots : Nat} {Q : State → Prop}
variable {cc : ByteArray} {pc : Nat} {ls : Array Slot} {rest : List Value} {G : GG} {a : Nat} {ws : va_W}
theorem nv_aldT (hx : p.tables.exec = Jvm.exec) (hb : c.code = cc) (hX : CX G s) (hP : va_P G.1 vwCl ws H) (q0 : Nat) {n k x : Nat} {f : Nat → Option Nat} (ha : ws[q0]? = some (a, .inl (G.2 3, n, .inr (.inr (.inr (.inr f)))))) (hk : k < n) (hn : n < 2 ^ 31) (hf : f k = some x) (hdg : decode cc pc = .ok (.aaload, 1)) (kk : W p l e R s m args below meth c H locs cells slots Q (F0 m (pc + 1) ls (.ref x :: rest))) : W p l e R s m args below meth c H locs cells slots Q (F0 m pc ls (.int (nI k) :: .ref a :: rest)) := by
  refine va_aldq (C := RX4) hx hb hX.1 hP q0 3 ha rfl (vp_in_nI hk hn) hdg ?_
  rw [nI_clamp (by omega), hf]
  exact kk
end QT
def paw (G : GG) (pd : Nat → Nat) (sz nx : Nat) (ads as : Nat → Nat → Nat) (rs : Nat → Nat → Nat → Nat) : va_W := pao G pd sz nx (fun k => some (ads k 0)) ++ (tkw G (ads 0) (as 0) (rs 0) ++ (tkw G (ads 1) (as 1) (rs 1) ++ (tkw G (ads 2) (as 2) (rs 2) ++ (tkw G (ads 3) (as 3) (rs 3) ++ (tkw G (ads 4) (as 4) (rs 4) ++ tkw G (ads 5) (as 5) (rs 5))))))
def fitN (wh : Nat → Nat) (nu : Nat → Int32) (x y : Int32) : Nat → Bool
  | 0 => true
  | k + 1 => fitN wh nu x y k && decide (nu k = if wh k = 0 then x else y)
theorem fitN_no {wh : Nat → Nat} {nu : Nat → Int32} {x y : Int32} {k : Nat} (h : nu k ≠ if wh k = 0 then x else y) : ∀ n, k < n → fitN wh nu x y n = false
  | 0, h2 => absurd h2 (Nat.not_lt_zero _)
  | n + 1, h2 => by
    unfold fitN
    by_cases e : k = n
    · subst e
      rw [decide_eq_false h, Bool.and_false]
    · rw [fitN_no h n (by omega), Bool.false_and]
