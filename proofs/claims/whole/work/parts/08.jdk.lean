/-! Integer.bitCount, numberOfTrailingZeros; Arrays.fill -/
def us (x : Int32) (k : Int32) : Int32 := (x.toUInt32 >>> (k.toUInt32 &&& Int32.toUInt32 31)).toInt32
def bc1 (x : Int32) : Int32 := x - (us x (nI 1) &&& nI 1431655765)
def bc2 (x : Int32) : Int32 := (x &&& nI 858993459) + (us x (nI 2) &&& nI 858993459)
def bc3 (x : Int32) : Int32 := (x + us x (nI 4)) &&& nI 252645135
def bc4 (x : Int32) : Int32 := x + us x (nI 8)
def bc5 (x : Int32) : Int32 := x + us x (nI 16)
/-- how many of the first k bits are set -/
def bts (n : Nat) : Nat → Nat
  | 0 => 0
  | k + 1 => bts n k + (if n.testBit k then 1 else 0)
theorem bts_le (n : Nat) : ∀ k, bts n k ≤ k
  | 0 => Nat.le_refl _
  | k + 1 => by
    have := bts_le n k
    unfold bts
    split <;> omega
theorem bc_ok0 : ∀ i : Fin 64, ∀ j : Fin 64, bc5 (bc4 (bc3 (bc2 (bc1 (nI (64 * i.val + j.val)))))) &&& nI 63 = nI (bts (64 * i.val + j.val) 12) := by decide +kernel
theorem bc_ok {n : Nat} (h : n < 4096) : bc5 (bc4 (bc3 (bc2 (bc1 (nI n))))) &&& nI 63 = nI (bts n 12) := by
  have := bc_ok0 ⟨n / 64, by omega⟩ ⟨n % 64, by omega⟩
  have e : 64 * (n / 64) + n % 64 = n := by omega
  simp only [e] at this
  exact this

theorem hdJ6_bitCount_0f7a4 : hdOK yJ6_bitCount_0f7a4 1 := by decide +kernel
set_option maxHeartbeats 4000000 in
set_option maxRecDepth 100000 in
theorem mJ6_bitCount_0f7a4 (l : Launch) (G : GG) (n : Nat) (hn : n < 4096) : Mi l yJ6_bitCount_0f7a4 cJ6_bitCount_0f7a4 1 (some .int) (rmN 0 0) G [.int (nI n)] (([] : va_W)) (fun (r9 : Int32) (_ : Unit) => r9 = (nI (bts n 12))) (fun (_ : Unit) => ([] : va_W)) := by
  refine Mi.of (cc := cJ6_bitCount_0f7a4) (nL := 1) (by decide) (Nat.le_of_ble_eq_true rfl) ?_
  intro p e s m below meth c A ls F hr hlocks hnm hX hA hD hP hS hl
  have F : CallFix p m c cJ6_bitCount_0f7a4 1 s [.int (nI n)].toArray wA RJ6 := F
  obtain ⟨hx, hb, hml, hown, hts⟩ := id F
  have hl : lv_has ls 1 [(0, .int (nI n))] := hl
  refine lv_iload_n hx hb dJ6_bitCount_0f7a4_0 rfl (lv_at hl 0 rfl) ?_
  refine lv_iload_n hx hb dJ6_bitCount_0f7a4_1 rfl (lv_at hl 0 rfl) ?_
  refine lv_iconst (v := (nI 1)) hx hb dJ6_bitCount_0f7a4_2 (by decide) ?_
  refine lv_iushr (v := ((nI n).toUInt32 >>> ((nI 1).toUInt32 &&& Int32.toUInt32 31)).toInt32) hx hb dJ6_bitCount_0f7a4_3 rfl ?_
  refine lv_ldcw (v := (nI 1431655765)) hx hb hown (hts _ kw_504) dJ6_bitCount_0f7a4_4 ?_
  refine lv_iand hx hb dJ6_bitCount_0f7a4_7 ?_
  refine lv_isub hx hb dJ6_bitCount_0f7a4_8 ?_
  refine ti (y := (bc1 (nI n))) rfl ?_
  refine lv_istore_n (lv' := [(0, .int (bc1 (nI n)))]) hx hb dJ6_bitCount_0f7a4_9 rfl hl (by decide) rfl (fun ls hl => ?_)
  refine lv_iload_n hx hb dJ6_bitCount_0f7a4_10 rfl (lv_at hl 0 rfl) ?_
  refine lv_ldcw (v := (nI 858993459)) hx hb hown (hts _ kw_505) dJ6_bitCount_0f7a4_11 ?_
  refine lv_iand hx hb dJ6_bitCount_0f7a4_14 ?_
  refine lv_iload_n hx hb dJ6_bitCount_0f7a4_15 rfl (lv_at hl 0 rfl) ?_
  refine lv_iconst (v := (nI 2)) hx hb dJ6_bitCount_0f7a4_16 (by decide) ?_
  refine lv_iushr (v := ((bc1 (nI n)).toUInt32 >>> ((nI 2).toUInt32 &&& Int32.toUInt32 31)).toInt32) hx hb dJ6_bitCount_0f7a4_17 rfl ?_
  refine lv_ldcw (v := (nI 858993459)) hx hb hown (hts _ kw_505) dJ6_bitCount_0f7a4_18 ?_
  refine lv_iand hx hb dJ6_bitCount_0f7a4_21 ?_
  refine lv_iadd hx hb dJ6_bitCount_0f7a4_22 ?_
  refine ti (y := (bc2 (bc1 (nI n)))) rfl ?_
  refine lv_istore_n (lv' := [(0, .int (bc2 (bc1 (nI n))))]) hx hb dJ6_bitCount_0f7a4_23 rfl hl (by decide) rfl (fun ls hl => ?_)
  refine lv_iload_n hx hb dJ6_bitCount_0f7a4_24 rfl (lv_at hl 0 rfl) ?_
  refine lv_iload_n hx hb dJ6_bitCount_0f7a4_25 rfl (lv_at hl 0 rfl) ?_
  refine lv_iconst (v := (nI 4)) hx hb dJ6_bitCount_0f7a4_26 (by decide) ?_
  refine lv_iushr (v := ((bc2 (bc1 (nI n))).toUInt32 >>> ((nI 4).toUInt32 &&& Int32.toUInt32 31)).toInt32) hx hb dJ6_bitCount_0f7a4_27 rfl ?_
  refine lv_iadd hx hb dJ6_bitCount_0f7a4_28 ?_
  refine lv_ldcw (v := (nI 252645135)) hx hb hown (hts _ kw_506) dJ6_bitCount_0f7a4_29 ?_
  refine lv_iand hx hb dJ6_bitCount_0f7a4_32 ?_
  refine ti (y := (bc3 (bc2 (bc1 (nI n))))) rfl ?_
  refine lv_istore_n (lv' := [(0, .int (bc3 (bc2 (bc1 (nI n)))))]) hx hb dJ6_bitCount_0f7a4_33 rfl hl (by decide) rfl (fun ls hl => ?_)
  refine lv_iload_n hx hb dJ6_bitCount_0f7a4_34 rfl (lv_at hl 0 rfl) ?_
  refine lv_iload_n hx hb dJ6_bitCount_0f7a4_35 rfl (lv_at hl 0 rfl) ?_
  refine lv_bipush (v := (nI 8)) hx hb dJ6_bitCount_0f7a4_36 (by decide) ?_
  refine lv_iushr (v := ((bc3 (bc2 (bc1 (nI n)))).toUInt32 >>> ((nI 8).toUInt32 &&& Int32.toUInt32 31)).toInt32) hx hb dJ6_bitCount_0f7a4_38 rfl ?_
  refine lv_iadd hx hb dJ6_bitCount_0f7a4_39 ?_
  refine ti (y := (bc4 (bc3 (bc2 (bc1 (nI n)))))) rfl ?_
  refine lv_istore_n (lv' := [(0, .int (bc4 (bc3 (bc2 (bc1 (nI n))))))]) hx hb dJ6_bitCount_0f7a4_40 rfl hl (by decide) rfl (fun ls hl => ?_)
  refine lv_iload_n hx hb dJ6_bitCount_0f7a4_41 rfl (lv_at hl 0 rfl) ?_
  refine lv_iload_n hx hb dJ6_bitCount_0f7a4_42 rfl (lv_at hl 0 rfl) ?_
  refine lv_bipush (v := (nI 16)) hx hb dJ6_bitCount_0f7a4_43 (by decide) ?_
  refine lv_iushr (v := ((bc4 (bc3 (bc2 (bc1 (nI n))))).toUInt32 >>> ((nI 16).toUInt32 &&& Int32.toUInt32 31)).toInt32) hx hb dJ6_bitCount_0f7a4_45 rfl ?_
  refine lv_iadd hx hb dJ6_bitCount_0f7a4_46 ?_
  refine ti (y := (bc5 (bc4 (bc3 (bc2 (bc1 (nI n))))))) rfl ?_
  refine lv_istore_n (lv' := [(0, .int (bc5 (bc4 (bc3 (bc2 (bc1 (nI n)))))))]) hx hb dJ6_bitCount_0f7a4_47 rfl hl (by decide) rfl (fun ls hl => ?_)
  refine lv_iload_n hx hb dJ6_bitCount_0f7a4_48 rfl (lv_at hl 0 rfl) ?_
  refine lv_bipush (v := (nI 63)) hx hb dJ6_bitCount_0f7a4_49 (by decide) ?_
  refine lv_iand hx hb dJ6_bitCount_0f7a4_51 ?_
  exact re_i (v := ((bc5 (bc4 (bc3 (bc2 (bc1 (nI n)))))) &&& (nI 63))) hx hb hr hlocks hS () hP hD (bc_ok hn) dJ6_bitCount_0f7a4_52

