/-! each call on both objects: what is done, what is told -/
set_option maxHeartbeats 4000000 in
set_option maxRecDepth 100000 in
theorem j_joins (l : Launch) (G : GG) (v1 : Int32) : JS l G RTT yX7_joins cX7_joins 2 yX8_joins cX8_joins 2 [.int v1] := by
  intro ca ads ad x y hR
  obtain ⟨kp, ⟨z, tl⟩, ⟨a, r⟩, ⟨ta, tr⟩, ⟨sz, nx, as, rs⟩, ⟨wb, ub⟩, ⟨w, us⟩, ⟨wh, nu, ss⟩, ⟨a0, r0⟩, a1, r1⟩ := x
  obtain ⟨zm, fo, s, d, pa, ke, ik, fa, te, aw⟩ := y
  obtain ⟨hR, hA⟩ := hR
  have hA : ∀ j, aw j ≤ 1000000 := hA
  have hR : RLx kp z tl a r tr sz nx as rs wh nu ss a0 r0 a1 r1 zm s pa ke ik fa te := hR
  obtain ⟨hX, hT, hD, hP, hS, hI⟩ := id hR
  obtain ⟨hx1, hx2, hx3⟩ := id hX
  obtain ⟨e0, e1, e2, e3, e4, e5, e6, e7⟩ := hT.2.2.1
  have hW := hT.1
  have hTB := hT.1.1
  have hB := hT.2.1
  by_cases hv9 : 0 ≤ v1.toInt ∧ v1.toInt < a 0
  · obtain ⟨v, rfl, hv31, hvi⟩ := asN hv9.1
    have hv : v < a 0 := by have := hv9.2; omega
    have hv2 : v < s 0 := by rw [e0]; exact hv
    have hM : ∀ j, ME s aw j ≤ 1000000 := mesN_le hA
    have hb := hT.bth aw hv
    by_cases hok : roN a v = 0 ∧ wtA a r (a 8) v < 1048576
    · have hro := (ro_0 a v).mp hok.1
      have hfM : ME s aw v < 1000000 := by have := hok.2; omega
      have hf : WW a r (a 8) v < 1000000 := by rw [← hT.mes aw hv]; exact hfM
      have hJ := hT.join hv hro.1 hf aw
      have hMk := hJ.tm (v := v) hv
      have hK := hJ.mkp (v := v) hv
      have hc2 : mmF (sm (joS s (ME s aw) v)) v ((joS s (ME s aw) v) 7) = none → (joS s (ME s aw) v) 7 < 7 := by
        intro h9
        rw [← hJ.mkm] at h9
        have h8 := hJ.1.mk7 hv h9
        rw [hJ.2.2.1.2.2.2.2.2.2.2]
        exact Nat.lt_of_lt_of_le h8 hTB.2.1
      refine ⟨nI (coA (mkP (joA a r v) r v).1 (mkP (joA a r v) r v).2 ((mkP (joA a r v) r v).1 8)), pcs kp z tl ((mkP (joA a r v) r v).1) ((mkP (joA a r v) r v).2) ta tr (min (sz + 1) 6) ((nx + 1) % 6) (va_up as nx a) (va_up rs nx r) wh nu ss a0 r0 a1 r1, pms (va_up zm 4 (ntU (zm 4) + 1)) fo (mkS (joS s (ME s aw) v) v) d (ntP pa s (zm 4)) ke ik fa te, ⟨_, _, _, _, _, _, _, mX7_joins_ok l G (ca 0) (ca 1) (ca 2) (ca 3) (ca 4) (ca 5 0) (ca 7) (ca 8) (ca 9) (ca 10) kp a r sz nx ads as rs (ca 6) wb ub w us v hTB hP.2.1 hP.2.2.1 hv hok.1 hok.2 (fun h9 => Nat.lt_of_lt_of_le (hW.mk7 hv h9) hTB.2.1), rfl, (pq_2_4_5_6_7 _ _ _ _ _ _ _ _ _ _ _), ⟨by decide, by decide, rfl, rfl⟩, fun r9 u hp => ⟨(kp, (z, tl), ((mkP (joA a r v) r v).1, (mkP (joA a r v) r v).2), (ta, tr), (min (sz + 1) 6, (nx + 1) % 6, va_up as nx a, va_up rs nx r), (u.2.1, u.2.2), (u.1.1, u.1.2), (wh, nu, ss), (a0, r0), (a1, r1)), ⟨hp, _, _, _, _, rfl⟩, (pq_2_4_5_6_7 _ _ _ _ _ _ _ _ _ _ _).symm⟩⟩, ?_, ?_⟩
      · exact ⟨_, _, [], _, _, _, _, mX8_joins_ok l G ad zm fo s d pa ke ik fa te aw v hB hA (by rw [← hP.1]; exact hP.2.1) hv2 (by rw [e2]; exact hro.1) (by rw [e4]; exact hro.2) hfM (hT.wok aw) hJ.2.1 hc2 hMk.2.1 hMk.ans hK.2.1, rfl, pm_nil _, ⟨by decide, by decide, rfl, rfl⟩, fun r9 u hp => ⟨(va_up zm 4 (ntU (zm 4) + 1), fo, mkS (joS s (ME s aw) v) v, d, ntP pa s (zm 4), ke, ik, fa, te, u), ⟨hp.1.trans (by rw [hK.co, hK.2.2.1.2.2.2.2.2.1]), _, hp.2, rfl⟩, (pm_nil _).symm⟩⟩
      · exact rel_of (⟨hX, hK, hD, hP.push hT, hS, hI⟩)
    · have hst : roN a v ≠ 0 ∨ ¬ wtA a r (a 8) v < 1048576 := by
        by_cases h9 : roN a v = 0
        · exact Or.inr (fun h8 => hok ⟨h9, h8⟩)
        · exact Or.inl h9
      have hst2 : v = s 2 ∨ (s 4).testBit v = true ∨ 1000000 ≤ ME s aw v := by
        by_cases h9 : roN a v = 0
        · exact Or.inr (Or.inr (by have : ¬ wtA a r (a 8) v < 1048576 := (fun h8 => hok ⟨h9, h8⟩); omega))
        · by_cases h8 : v = s 2
          · exact Or.inl h8
          · refine Or.inr (Or.inl ?_)
            cases h7 : (s 4).testBit v
            · exact absurd ((ro_0 a v).mpr ⟨by rw [← e2]; exact h8, by rw [← e4]; exact h7⟩) h9
            · rfl
      refine ⟨-2, pcs kp z tl a r ta tr sz nx as rs wh nu ss a0 r0 a1 r1, pms zm fo s d pa ke ik fa te, ⟨_, _, _, _, _, _, _, mX7_joins_state l G (ca 0) (ca 1) (ca 2) (ca 3) (ca 4) (ca 5 0) (ca 7) (ca 8) (ca 9) (ca 10) kp a r w us v hTB hv hst, rfl, (pq_2_7 _ _ _ _ _ _ _ _ _ _ _), ⟨by decide, by decide, rfl, rfl⟩, fun r9 u hp => ⟨(kp, (z, tl), (a, r), (ta, tr), (sz, nx, as, rs), (wb, ub), (u.1, u.2), (wh, nu, ss), (a0, r0), (a1, r1)), ⟨hp, _, _, _, _, rfl⟩, (pq_2_7 _ _ _ _ _ _ _ _ _ _ _).symm⟩⟩, ?_, ?_⟩
      · exact ⟨_, _, [], _, _, _, _, mX8_joins_state l G ad zm fo s d pa ke ik fa te aw v hB hA hv2 hst2, rfl, pm_nil _, ⟨by decide, by decide, rfl, rfl⟩, fun r9 u hp => ⟨(zm, fo, s, d, pa, ke, ik, fa, te, ME s aw), ⟨hp, _, hM, rfl⟩, (pm_nil _).symm⟩⟩
      · exact rel_of (hR)
  · skip
    refine ⟨-1, pcs kp z tl a r ta tr sz nx as rs wh nu ss a0 r0 a1 r1, pms zm fo s d pa ke ik fa te, ⟨_, _, _, _, _, _, _, mX7_joins_bad l G (ca 0) (ca 1) (ca 2) (ca 3) (ca 4) (ca 5 0) (ca 7) (ca 8) (ca 9) (ca 10) kp a r v1 hTB hv9, rfl, (pq_2 _ _ _ _ _ _ _ _ _ _ _), ⟨by decide, by decide, rfl, rfl⟩, fun r9 u hp => ⟨(kp, (z, tl), (a, r), (ta, tr), (sz, nx, as, rs), (wb, ub), (w, us), (wh, nu, ss), (a0, r0), (a1, r1)), ⟨hp, _, _, _, _, rfl⟩, (pq_2 _ _ _ _ _ _ _ _ _ _ _).symm⟩⟩, ?_, ?_⟩
    · exact ⟨_, _, [], _, _, _, _, mX8_joins_bad l G ad zm fo s d pa ke ik fa te aw v1 hB (by rw [e0]; exact hv9), rfl, pm_nil _, ⟨by decide, by decide, rfl, rfl⟩, fun r9 u hp => ⟨(zm, fo, s, d, pa, ke, ik, fa, te, aw), ⟨hp, _, hA, rfl⟩, (pm_nil _).symm⟩⟩
    · exact rel_of (hR)
set_option maxHeartbeats 4000000 in
set_option maxRecDepth 100000 in
theorem j_leaves (l : Launch) (G : GG) (v1 : Int32) : JS l G RTT yX7_leaves cX7_leaves 2 yX8_leaves cX8_leaves 2 [.int v1] := by
  intro ca ads ad x y hR
  obtain ⟨kp, ⟨z, tl⟩, ⟨a, r⟩, ⟨ta, tr⟩, ⟨sz, nx, as, rs⟩, ⟨wb, ub⟩, ⟨w, us⟩, ⟨wh, nu, ss⟩, ⟨a0, r0⟩, a1, r1⟩ := x
  obtain ⟨zm, fo, s, d, pa, ke, ik, fa, te, aw⟩ := y
  obtain ⟨hR, hA⟩ := hR
  have hA : ∀ j, aw j ≤ 1000000 := hA
  have hR : RLx kp z tl a r tr sz nx as rs wh nu ss a0 r0 a1 r1 zm s pa ke ik fa te := hR
  obtain ⟨hX, hT, hD, hP, hS, hI⟩ := id hR
  obtain ⟨hx1, hx2, hx3⟩ := id hX
  obtain ⟨e0, e1, e2, e3, e4, e5, e6, e7⟩ := hT.2.2.1
  have hW := hT.1
  have hTB := hT.1.1
  have hB := hT.2.1
  by_cases hv9 : 0 ≤ v1.toInt ∧ v1.toInt < a 0
  · obtain ⟨v, rfl, hv31, hvi⟩ := asN hv9.1
    have hv : v < a 0 := by have := hv9.2; omega
    have hv2 : v < s 0 := by rw [e0]; exact hv
    by_cases hok : (a 7).testBit v = true
    · have hJ := hT.leave v
      have hMk := hJ.tm (v := v) hv
      have hK := hJ.mkp (v := v) hv
      have hc2 : mmF (sm (leS s v)) v ((leS s v) 7) = none → (leS s v) 7 < 7 := by
        intro h9
        rw [← hJ.mkm] at h9
        have h8 := hJ.1.mk7 hv h9
        rw [hJ.2.2.1.2.2.2.2.2.2.2]
        exact Nat.lt_of_lt_of_le h8 hTB.2.1
      refine ⟨nI (coA (mkP (leA a r v) r v).1 (mkP (leA a r v) r v).2 ((mkP (leA a r v) r v).1 8)), pcs kp z tl ((mkP (leA a r v) r v).1) ((mkP (leA a r v) r v).2) ta tr (min (sz + 1) 6) ((nx + 1) % 6) (va_up as nx a) (va_up rs nx r) wh nu ss a0 r0 a1 r1, pms (va_up zm 4 (ntU (zm 4) + 1)) fo (mkS (leS s v) v) d (ntP pa s (zm 4)) ke ik fa te, ⟨_, _, _, _, _, _, _, mX7_leaves_ok l G (ca 0) (ca 1) (ca 2) (ca 3) (ca 4) (ca 5 0) (ca 7) (ca 8) (ca 9) (ca 10) kp a r sz nx ads as rs (ca 6) wb ub v hTB hP.2.1 hP.2.2.1 hv hok (fun h9 => Nat.lt_of_lt_of_le (hW.mk7 hv h9) hTB.2.1), rfl, (pq_2_4_5_6 _ _ _ _ _ _ _ _ _ _ _), ⟨by decide, by decide, rfl, rfl⟩, fun r9 u hp => ⟨(kp, (z, tl), ((mkP (leA a r v) r v).1, (mkP (leA a r v) r v).2), (ta, tr), (min (sz + 1) 6, (nx + 1) % 6, va_up as nx a, va_up rs nx r), (u.1, u.2), (w, us), (wh, nu, ss), (a0, r0), (a1, r1)), ⟨hp, _, _, _, _, rfl⟩, (pq_2_4_5_6 _ _ _ _ _ _ _ _ _ _ _).symm⟩⟩, ?_, ?_⟩
      · exact ⟨_, _, [], _, _, _, _, mX8_leaves_ok l G ad zm fo s d pa ke ik fa te aw v hB hA (by rw [← hP.1]; exact hP.2.1) hv2 (by rw [e4]; exact hok) hJ.2.1 hc2 hMk.2.1 hMk.ans hK.2.1, rfl, pm_nil _, ⟨by decide, by decide, rfl, rfl⟩, fun r9 u hp => ⟨(va_up zm 4 (ntU (zm 4) + 1), fo, mkS (leS s v) v, d, ntP pa s (zm 4), ke, ik, fa, te, u), ⟨hp.1.trans (by rw [hK.co, hK.2.2.1.2.2.2.2.2.1]), _, hp.2, rfl⟩, (pm_nil _).symm⟩⟩
      · exact rel_of (⟨hX, hK, hD, hP.push hT, hS, hI⟩)
    · skip
      refine ⟨-2, pcs kp z tl a r ta tr sz nx as rs wh nu ss a0 r0 a1 r1, pms zm fo s d pa ke ik fa te, ⟨_, _, _, _, _, _, _, mX7_leaves_state l G (ca 0) (ca 1) (ca 2) (ca 3) (ca 4) (ca 5 0) (ca 7) (ca 8) (ca 9) (ca 10) kp a r v hTB hv (tf hok), rfl, (pq_2 _ _ _ _ _ _ _ _ _ _ _), ⟨by decide, by decide, rfl, rfl⟩, fun r9 u hp => ⟨(kp, (z, tl), (a, r), (ta, tr), (sz, nx, as, rs), (wb, ub), (w, us), (wh, nu, ss), (a0, r0), (a1, r1)), ⟨hp, _, _, _, _, rfl⟩, (pq_2 _ _ _ _ _ _ _ _ _ _ _).symm⟩⟩, ?_, ?_⟩
      · exact ⟨_, _, [], _, _, _, _, mX8_leaves_state l G ad zm fo s d pa ke ik fa te aw v hB hv2 (by rw [e4]; exact tf hok), rfl, pm_nil _, ⟨by decide, by decide, rfl, rfl⟩, fun r9 u hp => ⟨(zm, fo, s, d, pa, ke, ik, fa, te, aw), ⟨hp, _, hA, rfl⟩, (pm_nil _).symm⟩⟩
      · exact rel_of (hR)
  · skip
    refine ⟨-1, pcs kp z tl a r ta tr sz nx as rs wh nu ss a0 r0 a1 r1, pms zm fo s d pa ke ik fa te, ⟨_, _, _, _, _, _, _, mX7_leaves_bad l G (ca 0) (ca 1) (ca 2) (ca 3) (ca 4) (ca 5 0) (ca 7) (ca 8) (ca 9) (ca 10) kp a r v1 hTB hv9, rfl, (pq_2 _ _ _ _ _ _ _ _ _ _ _), ⟨by decide, by decide, rfl, rfl⟩, fun r9 u hp => ⟨(kp, (z, tl), (a, r), (ta, tr), (sz, nx, as, rs), (wb, ub), (w, us), (wh, nu, ss), (a0, r0), (a1, r1)), ⟨hp, _, _, _, _, rfl⟩, (pq_2 _ _ _ _ _ _ _ _ _ _ _).symm⟩⟩, ?_, ?_⟩
    · exact ⟨_, _, [], _, _, _, _, mX8_leaves_bad l G ad zm fo s d pa ke ik fa te aw v1 hB (by rw [e0]; exact hv9), rfl, pm_nil _, ⟨by decide, by decide, rfl, rfl⟩, fun r9 u hp => ⟨(zm, fo, s, d, pa, ke, ik, fa, te, aw), ⟨hp, _, hA, rfl⟩, (pm_nil _).symm⟩⟩
    · exact rel_of (hR)
set_option maxHeartbeats 4000000 in
set_option maxRecDepth 100000 in
theorem j_rearranges (l : Launch) (G : GG) : JS l G RTT yX7_rearranges cX7_rearranges 2 yX8_rearranges cX8_rearranges 3 [] := by
  intro ca ads ad x y hR
  obtain ⟨kp, ⟨z, tl⟩, ⟨a, r⟩, ⟨ta, tr⟩, ⟨sz, nx, as, rs⟩, ⟨wb, ub⟩, ⟨w, us⟩, ⟨wh, nu, ss⟩, ⟨a0, r0⟩, a1, r1⟩ := x
  obtain ⟨zm, fo, s, d, pa, ke, ik, fa, te, aw⟩ := y
  obtain ⟨hR, hA⟩ := hR
  have hA : ∀ j, aw j ≤ 1000000 := hA
  have hR : RLx kp z tl a r tr sz nx as rs wh nu ss a0 r0 a1 r1 zm s pa ke ik fa te := hR
  obtain ⟨hX, hT, hD, hP, hS, hI⟩ := id hR
  obtain ⟨hx1, hx2, hx3⟩ := id hX
  obtain ⟨e0, e1, e2, e3, e4, e5, e6, e7⟩ := hT.2.2.1
  have hW := hT.1
  have hTB := hT.1.1
  have hB := hT.2.1
  by_cases hno : coA a r (anA a r) < coA a r (a 8)
  · have hno2 : coS s (anS s) < coS s (s 5) := by rw [hT.co, hT.co, hT.an, e5]; exact hno
    have hRR := hT.rr
    rw [if_pos hno2] at hRR
    refine ⟨nI (coA a r (a 8) - coA a r (anA a r)), pcs kp z tl (rrA a r) r ta tr (min (sz + 1) 6) ((nx + 1) % 6) (va_up as nx a) (va_up rs nx r) wh nu ss a0 r0 a1 r1, pms (va_up zm 4 (ntU (zm 4) + 1)) fo (baS (va_up s 5 (anS s))) d (ntP pa s (zm 4)) ke ik fa te, ⟨_, _, _, _, _, _, _, mX7_rearranges_ok l G (ca 0) (ca 1) (ca 2) (ca 3) (ca 4) (ca 5 0) (ca 7) (ca 8) (ca 9) (ca 10) kp a r sz nx ads as rs (ca 6) wb ub hTB hP.2.1 hP.2.2.1 hno, rfl, (pq_2_4_5_6 _ _ _ _ _ _ _ _ _ _ _), ⟨by decide, by decide, rfl, rfl⟩, fun r9 u hp => ⟨(kp, (z, tl), (rrA a r, r), (ta, tr), (min (sz + 1) 6, (nx + 1) % 6, va_up as nx a, va_up rs nx r), (u.1, u.2), (w, us), (wh, nu, ss), (a0, r0), (a1, r1)), ⟨hp, _, _, _, _, rfl⟩, (pq_2_4_5_6 _ _ _ _ _ _ _ _ _ _ _).symm⟩⟩, ?_, ?_⟩
    · exact ⟨_, _, [], _, _, _, _, mX8_rearranges_ok l G ad zm fo s d pa ke ik fa te aw hB hA (by rw [← hP.1]; exact hP.2.1) hT.ans hno2, rfl, pm_nil _, ⟨by decide, by decide, rfl, rfl⟩, fun r9 u hp => ⟨(va_up zm 4 (ntU (zm 4) + 1), fo, baS (va_up s 5 (anS s)), d, ntP pa s (zm 4), ke, ik, fa, te, u), ⟨hp.1.trans (by rw [hT.co, hT.co, hT.an, e5]), _, hp.2, rfl⟩, (pm_nil _).symm⟩⟩
    · exact rel_of (⟨hX, hRR, hD, hP.push hT, hS, hI⟩)
  · skip
    refine ⟨-2, pcs kp z tl a r ta tr sz nx as rs wh nu ss a0 r0 a1 r1, pms zm fo s d pa ke ik fa te, ⟨_, _, _, _, _, _, _, mX7_rearranges_state l G (ca 0) (ca 1) (ca 2) (ca 3) (ca 4) (ca 5 0) (ca 7) (ca 8) (ca 9) (ca 10) kp a r (ca 6) wb ub hTB (Nat.not_lt.mp hno), rfl, (pq_2_5_6 _ _ _ _ _ _ _ _ _ _ _), ⟨by decide, by decide, rfl, rfl⟩, fun r9 u hp => ⟨(kp, (z, tl), (a, r), (ta, tr), (sz, nx, as, rs), (u.1, u.2), (w, us), (wh, nu, ss), (a0, r0), (a1, r1)), ⟨hp, _, _, _, _, rfl⟩, (pq_2_5_6 _ _ _ _ _ _ _ _ _ _ _).symm⟩⟩, ?_, ?_⟩
    · exact ⟨_, _, [], _, _, _, _, mX8_rearranges_state l G ad zm fo s d pa ke ik fa te aw hB hA hT.ans (by rw [hT.co, hT.co, hT.an, e5]; exact Nat.not_lt.mp hno), rfl, pm_nil _, ⟨by decide, by decide, rfl, rfl⟩, fun r9 u hp => ⟨(zm, fo, s, d, pa, ke, ik, fa, te, u), ⟨hp.1, _, hp.2, rfl⟩, (pm_nil _).symm⟩⟩
    · exact rel_of (hR)
set_option maxHeartbeats 4000000 in
set_option maxRecDepth 100000 in
theorem j_cuts (l : Launch) (G : GG) (v1 : Int32) : JS l G RTT yX7_cuts cX7_cuts 2 yX8_cuts cX8_cuts 6 [.int v1] := by
  intro ca ads ad x y hR
  obtain ⟨kp, ⟨z, tl⟩, ⟨a, r⟩, ⟨ta, tr⟩, ⟨sz, nx, as, rs⟩, ⟨wb, ub⟩, ⟨w, us⟩, ⟨wh, nu, ss⟩, ⟨a0, r0⟩, a1, r1⟩ := x
  obtain ⟨zm, fo, s, d, pa, ke, ik, fa, te, aw⟩ := y
  obtain ⟨hR, hA⟩ := hR
  have hA : ∀ j, aw j ≤ 1000000 := hA
  have hR : RLx kp z tl a r tr sz nx as rs wh nu ss a0 r0 a1 r1 zm s pa ke ik fa te := hR
  obtain ⟨hX, hT, hD, hP, hS, hI⟩ := id hR
  obtain ⟨hx1, hx2, hx3⟩ := id hX
  obtain ⟨e0, e1, e2, e3, e4, e5, e6, e7⟩ := hT.2.2.1
  have hW := hT.1
  have hTB := hT.1.1
  have hB := hT.2.1
  by_cases hv : 0 ≤ v1.toInt ∧ v1.toInt < a 3
  · obtain ⟨k, rfl, hk31, hki⟩ := asN hv.1
    have hk : k < a 3 := by have := hv.2; omega
    have hk2 : k < s 1 := by rw [e1]; exact hk
    by_cases hd9 : (a 9).testBit k = true
    · skip
      refine ⟨-2, pcs kp z tl a r ta tr sz nx as rs wh nu ss a0 r0 a1 r1, pms zm fo s d pa ke ik fa te, ⟨_, _, _, _, _, _, _, mX7_cuts_state l G (ca 0) (ca 1) (ca 2) (ca 3) (ca 4) (ca 5 0) (ca 7) (ca 8) (ca 9) (ca 10) kp a r k hTB hk hd9, rfl, (pq_2 _ _ _ _ _ _ _ _ _ _ _), ⟨by decide, by decide, rfl, rfl⟩, fun r9 u hp => ⟨(kp, (z, tl), (a, r), (ta, tr), (sz, nx, as, rs), (wb, ub), (w, us), (wh, nu, ss), (a0, r0), (a1, r1)), ⟨hp, _, _, _, _, rfl⟩, (pq_2 _ _ _ _ _ _ _ _ _ _ _).symm⟩⟩, ?_, ?_⟩
      · exact ⟨_, _, [], _, _, _, _, mX8_cuts_state l G ad zm fo s d pa ke ik fa te aw k hB hk2 (by rw [e6]; exact hd9), rfl, pm_nil _, ⟨by decide, by decide, rfl, rfl⟩, fun r9 u hp => ⟨(zm, fo, s, d, pa, ke, ik, fa, te, aw), ⟨hp, _, hA, rfl⟩, (pm_nil _).symm⟩⟩
      · exact rel_of (hR)
    · by_cases ht : (a 8).testBit k = true
      · have hC := hT.cut hk
        refine ⟨nI (bts (a 7) 12 - bts (cu3 a r k 7) 12), pcs kp z tl (cu3 a r k) r ta tr (min (sz + 1) 6) ((nx + 1) % 6) (va_up as nx a) (va_up rs nx r) wh nu ss a0 r0 a1 r1, pms (va_up zm 4 (ntU (zm 4) + 1)) fo (cutS s k) d (ntP pa s (zm 4)) ke ik fa te, ⟨_, _, _, _, _, _, _, mX7_cuts_yes l G (ca 0) (ca 1) (ca 2) (ca 3) (ca 4) (ca 5 0) (ca 7) (ca 8) (ca 9) (ca 10) kp a r sz nx ads as rs (ca 6) wb ub k hTB hP.2.1 hP.2.2.1 hk (tf hd9) ht, rfl, (pq_2_4_5_6 _ _ _ _ _ _ _ _ _ _ _), ⟨by decide, by decide, rfl, rfl⟩, fun r9 u hp => ⟨(kp, (z, tl), (cu3 a r k, r), (ta, tr), (min (sz + 1) 6, (nx + 1) % 6, va_up as nx a, va_up rs nx r), (u.1, u.2), (w, us), (wh, nu, ss), (a0, r0), (a1, r1)), ⟨hp, _, _, _, _, rfl⟩, (pq_2_4_5_6 _ _ _ _ _ _ _ _ _ _ _).symm⟩⟩, ?_, ?_⟩
        · exact ⟨_, _, [], _, _, _, _, mX8_cuts_yes l G ad zm fo s d pa ke ik fa te aw k hB hA (by rw [← hP.1]; exact hP.2.1) hk2 (by rw [e6]; exact tf hd9) (by rw [e5]; exact ht) hT.en hT.wa, rfl, pm_nil _, ⟨by decide, by decide, rfl, rfl⟩, fun r9 u hp => ⟨(va_up zm 4 (ntU (zm 4) + 1), fo, cutS s k, d, ntP pa s (zm 4), ke, ik, fa, te, u), ⟨hp.1.trans (by rw [hC.2]), _, hp.2, rfl⟩, (pm_nil _).symm⟩⟩
        · exact rel_of (⟨hX, hC.1, hD, hP.push hT, hS, hI⟩)
      · have hdn : TR (va_up a 9 (a 9 ||| 2 ^ k)) r (va_up s 6 (s 6 ||| 2 ^ k)) := by
          rw [e6]
          refine hT.dn (or_lt (n := 12) hTB.2.2.2.2.2.2.2.2.2.2.1 (pw_lt (by have := hTB.2.2.2.2.1; omega))) (fun j hj => tf (fun h9 => ?_))
          rcases ob.mp h9 with h8 | h8
          · exact absurd h8 (ft (hW.2.2.2.1 j hj))
          · subst h8; exact ht hj
        refine ⟨nI 0, pcs kp z tl (va_up a 9 (a 9 ||| 2 ^ k)) r ta tr (min (sz + 1) 6) ((nx + 1) % 6) (va_up as nx a) (va_up rs nx r) wh nu ss a0 r0 a1 r1, pms (va_up zm 4 (ntU (zm 4) + 1)) fo (va_up s 6 (s 6 ||| 2 ^ k)) d (ntP pa s (zm 4)) ke ik fa te, ⟨_, _, _, _, _, _, _, mX7_cuts_no l G (ca 0) (ca 1) (ca 2) (ca 3) (ca 4) (ca 5 0) (ca 7) (ca 8) (ca 9) (ca 10) kp a r sz nx ads as rs (ca 6) wb ub k hTB hP.2.1 hP.2.2.1 hk (tf hd9) (tf ht), rfl, (pq_2_4_5_6 _ _ _ _ _ _ _ _ _ _ _), ⟨by decide, by decide, rfl, rfl⟩, fun r9 u hp => ⟨(kp, (z, tl), (va_up a 9 (a 9 ||| 2 ^ k), r), (ta, tr), (min (sz + 1) 6, (nx + 1) % 6, va_up as nx a, va_up rs nx r), (u.1, u.2), (w, us), (wh, nu, ss), (a0, r0), (a1, r1)), ⟨hp, _, _, _, _, rfl⟩, (pq_2_4_5_6 _ _ _ _ _ _ _ _ _ _ _).symm⟩⟩, ?_, ?_⟩
        · exact ⟨_, _, [], _, _, _, _, mX8_cuts_no l G ad zm fo s d pa ke ik fa te aw k hB (by rw [← hP.1]; exact hP.2.1) hk2 (by rw [e6]; exact tf hd9) (by rw [e5]; exact tf ht), rfl, pm_nil _, ⟨by decide, by decide, rfl, rfl⟩, fun r9 u hp => ⟨(va_up zm 4 (ntU (zm 4) + 1), fo, va_up s 6 (s 6 ||| 2 ^ k), d, ntP pa s (zm 4), ke, ik, fa, te, aw), ⟨hp, _, hA, rfl⟩, (pm_nil _).symm⟩⟩
        · exact rel_of (⟨hX, hdn, hD, hP.push hT, hS, hI⟩)
  · skip
    refine ⟨-1, pcs kp z tl a r ta tr sz nx as rs wh nu ss a0 r0 a1 r1, pms zm fo s d pa ke ik fa te, ⟨_, _, _, _, _, _, _, mX7_cuts_bad l G (ca 0) (ca 1) (ca 2) (ca 3) (ca 4) (ca 5 0) (ca 7) (ca 8) (ca 9) (ca 10) kp a r v1 hTB hv, rfl, (pq_2 _ _ _ _ _ _ _ _ _ _ _), ⟨by decide, by decide, rfl, rfl⟩, fun r9 u hp => ⟨(kp, (z, tl), (a, r), (ta, tr), (sz, nx, as, rs), (wb, ub), (w, us), (wh, nu, ss), (a0, r0), (a1, r1)), ⟨hp, _, _, _, _, rfl⟩, (pq_2 _ _ _ _ _ _ _ _ _ _ _).symm⟩⟩, ?_, ?_⟩
    · exact ⟨_, _, [], _, _, _, _, mX8_cuts_bad l G ad zm fo s d pa ke ik fa te aw v1 hB (by rw [e1]; exact hv), rfl, pm_nil _, ⟨by decide, by decide, rfl, rfl⟩, fun r9 u hp => ⟨(zm, fo, s, d, pa, ke, ik, fa, te, aw), ⟨hp, _, hA, rfl⟩, (pm_nil _).symm⟩⟩
    · exact rel_of (hR)
set_option maxHeartbeats 4000000 in
set_option maxRecDepth 100000 in
theorem j_tells (l : Launch) (G : GG) (sk sv : Nat → Nat) : JSE (E4 sk sv) l G RTT yX7_tells cX7_tells 2 yX8_tells cX8_tells 3 [] := by
  intro ca ads ad x y hR
  obtain ⟨kp, ⟨z, tl⟩, ⟨a, r⟩, ⟨ta, tr⟩, ⟨sz, nx, as, rs⟩, ⟨wb, ub⟩, ⟨w, us⟩, ⟨wh, nu, ss⟩, ⟨a0, r0⟩, a1, r1⟩ := x
  obtain ⟨zm, fo, s, d, pa, ke, ik, fa, te, aw⟩ := y
  obtain ⟨hR, hA⟩ := hR
  have hA : ∀ j, aw j ≤ 1000000 := hA
  have hR : RLx kp z tl a r tr sz nx as rs wh nu ss a0 r0 a1 r1 zm s pa ke ik fa te := hR
  obtain ⟨hX, hT, hD, hP, hS, hI⟩ := id hR
  obtain ⟨hx1, hx2, hx3⟩ := id hX
  obtain ⟨e0, e1, e2, e3, e4, e5, e6, e7⟩ := hT.2.2.1
  have hW := hT.1
  have hTB := hT.1.1
  have hB := hT.2.1
  subst hx2
  have ht9 : ∀ j, tl j < 256 := hx3.2.2.2.2.2.2
  have hz10 : zm 10 ≤ 120 := by rw [← hx1]; exact hx3.1
  have hRR := read_eqW (z := z) (a := ta) (r := tr) (zm := zm) (d := d) hx3 hD.1 hD.2.1 hD.2.2.1 hD.2.2.2 hx1
  have o4 := rx_o tl zm d (j := 4) (by omega)
  have o8 := rx_o tl zm d (j := 8) (by omega)
  have o10 := rx_o tl zm d (j := 10) (by omega)
  obtain ⟨k1, k2, k3, kk⟩ := hRR
  rcases kk with ⟨c1, c2, c3, c4, c5, i, c6⟩ | ⟨q, c1, c2, c3⟩
  · have hN := told_ok k2 c6 hB
    refine ⟨nI (rdA z ta tr tl).2.1, pcs kp (va_up (rdA z ta tr tl).2.2.1 1 0) tl ((rdA z ta tr tl).2.2.2.1) ((rdA z ta tr tl).2.2.2.2) ((rdA z ta tr tl).2.2.2.1) ((rdA z ta tr tl).2.2.2.2) (min (sz + 1) 6) ((nx + 1) % 6) (va_up as nx a) (va_up rs nx r) wh nu ss a0 r0 a1 r1, pms (va_up (va_up (rxA tl zm d).2.2.2.2.1 4 (ntU ((rxA tl zm d).2.2.2.2.1 4) + 1)) 10 0) ((rxA tl zm d).2.2.2.2.2) (cdP s (dnF (rdA z ta tr tl).2.2.2.1 (rdA z ta tr tl).2.2.2.2) 52) ((rxA tl zm d).2.2.1) (ntP pa s ((rxA tl zm d).2.2.2.2.1 4)) ke ik fa tl, ⟨_, _, _, _, _, _, _, mX7_tells_okW l G sk sv (ca 0) (ca 1) (ca 2) (ca 3) (ca 4) (ca 5 0) (ca 7) (ca 8) (ca 9) (ca 10) kp z tl ta tr a r sz nx ads as rs hx3 hD.1 hD.2.1 hD.2.2.1 hD.2.2.2 hP.2.1 hP.2.2.1 c1 (by omega), rfl, (pq_1_3_2_4 _ _ _ _ _ _ _ _ _ _ _), ⟨by decide, by decide, rfl, rfl⟩, fun r9 u hp => ⟨(kp, (va_up (rdA z ta tr tl).2.2.1 1 0, tl), ((rdA z ta tr tl).2.2.2.1, (rdA z ta tr tl).2.2.2.2), ((rdA z ta tr tl).2.2.2.1, (rdA z ta tr tl).2.2.2.2), (min (sz + 1) 6, (nx + 1) % 6, va_up as nx a, va_up rs nx r), (wb, ub), (w, us), (wh, nu, ss), (a0, r0), (a1, r1)), ⟨hp, _, _, _, _, rfl⟩, (pq_1_3_2_4 _ _ _ _ _ _ _ _ _ _ _).symm⟩⟩, ?_, ?_⟩
    · exact ⟨_, _, [], _, _, _, _, mX8_tells_ok l G ad zm fo s d pa ke ik fa tl aw (dnF (rdA z ta tr tl).2.2.2.1 (rdA z ta tr tl).2.2.2.2) ht9 hz10 c2 (by rw [o4, ← hP.1]; exact hP.2.1) (dnF_d c5), rfl, pm_nil _, ⟨by decide, by decide, rfl, rfl⟩, fun r9 u hp => ⟨(va_up (va_up (rxA tl zm d).2.2.2.2.1 4 (ntU ((rxA tl zm d).2.2.2.2.1 4) + 1)) 10 0, (rxA tl zm d).2.2.2.2.2, cdP s (dnF (rdA z ta tr tl).2.2.2.1 (rdA z ta tr tl).2.2.2.2) 52, (rxA tl zm d).2.2.1, ntP pa s ((rxA tl zm d).2.2.2.2.1 4), ke, ik, fa, tl, aw), ⟨hp.trans (by rw [c3]), _, hA, rfl⟩, (pm_nil _).symm⟩⟩
    · exact rel_of (⟨⟨rfl, rfl, by
    obtain ⟨b1, b2, b3, b4, b5, b6, b7⟩ := k1
    exact ⟨Nat.zero_le _, b2, Nat.le_refl _, b4, b5, Nat.zero_le _, b7⟩⟩, hN, k2.td, by
    show PR _ _ _ _ (ntU ((rxA tl zm d).2.2.2.2.1 4) + 1) (ntP pa s ((rxA tl zm d).2.2.2.2.1 4))
    rw [o4]; exact hP.push hT, ⟨by show ss = (rxA tl zm d).2.2.2.2.1 8; rw [o8]; exact hS.1, hS.2⟩, hI⟩)
  · skip
    refine ⟨-10 - nI q, pcs kp ((rdA z ta tr tl).2.2.1) tl a r ((rdA z ta tr tl).2.2.2.1) ((rdA z ta tr tl).2.2.2.2) sz nx as rs wh nu ss a0 r0 a1 r1, pms ((rxA tl zm d).2.2.2.2.1) ((rxA tl zm d).2.2.2.2.2) s ((rxA tl zm d).2.2.1) pa ke ik fa tl, ⟨_, _, _, _, _, _, _, mX7_tells_faultW l G sk sv (ca 0) (ca 1) (ca 2) (ca 3) (ca 4) (ca 5 0) (ca 7) (ca 8) (ca 9) (ca 10) kp z tl ta tr q hx3 hD.1 hD.2.1 hD.2.2.1 hD.2.2.2 c1 (by omega), rfl, (pq_1_3 _ _ _ _ _ _ _ _ _ _ _), ⟨by decide, by decide, rfl, rfl⟩, fun r9 u hp => ⟨(kp, ((rdA z ta tr tl).2.2.1, tl), (a, r), ((rdA z ta tr tl).2.2.2.1, (rdA z ta tr tl).2.2.2.2), (sz, nx, as, rs), (wb, ub), (w, us), (wh, nu, ss), (a0, r0), (a1, r1)), ⟨hp, _, _, _, _, rfl⟩, (pq_1_3 _ _ _ _ _ _ _ _ _ _ _).symm⟩⟩, ?_, ?_⟩
    · exact ⟨_, _, [], _, _, _, _, mX8_tells_fault l G ad zm fo s d pa ke ik fa tl aw q ht9 hz10 c2 (by omega), rfl, pm_nil _, ⟨by decide, by decide, rfl, rfl⟩, fun r9 u hp => ⟨((rxA tl zm d).2.2.2.2.1, (rxA tl zm d).2.2.2.2.2, s, (rxA tl zm d).2.2.1, pa, ke, ik, fa, tl, aw), ⟨hp, _, hA, rfl⟩, (pm_nil _).symm⟩⟩
    · exact rel_of (⟨⟨by rw [o10, k3, hx1], rfl, k1.w⟩, hT, k2.td, by rw [o4]; exact hP, ⟨by rw [o8]; exact hS.1, hS.2⟩, hI⟩)
