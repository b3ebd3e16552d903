/-! each call on both objects: the small ones -/
set_option maxHeartbeats 4000000 in
set_option maxRecDepth 100000 in
theorem j_type (l : Launch) (G : GG) (v1 : Int32) : JS l G RTT yX7_type cX7_type 2 yX8_type cX8_type 2 [.int v1] := by
  intro ca ads ad x y hR
  obtain ⟨kp, ⟨z, tl⟩, ⟨a, r⟩, ⟨ta, tr⟩, ⟨sz, nx, as, rs⟩, ⟨wb, ub⟩, ⟨w, us⟩, ⟨wh, nu, ss⟩, ⟨a0, r0⟩, a1, r1⟩ := x
  obtain ⟨zm, fo, s, d, pa, ke, ik, fa, te, aw⟩ := y
  obtain ⟨hR, hA⟩ := hR
  have hA : ∀ j, aw j ≤ 1000000 := hA
  have hR : RLx kp z tl a r tr sz nx as rs wh nu ss a0 r0 a1 r1 zm s pa ke ik fa te := hR
  obtain ⟨hX, hT, hD, hP, hS, hI⟩ := id hR
  obtain ⟨hx1, hx2, hx3⟩ := id hX
  obtain ⟨e0, e1, e2, e3, e4, e5, e6, e7⟩ := hT.2.2.1
  have hW := hT.1
  have hTB := hT.1.1
  have hB := hT.2.1
  by_cases hv : 0 ≤ v1.toInt ∧ v1.toInt ≤ 255
  · obtain ⟨x, rfl, hx31, hxi⟩ := asN hv.1
    have hx9 : x ≤ 255 := by have := hv.2; omega
    have hz := hx3.1
    have hz : z 1 ≤ 120 := hz
    by_cases hz1 : z 1 = 120
    · skip
      refine ⟨-3, pcs kp z tl a r ta tr sz nx as rs wh nu ss a0 r0 a1 r1, pms zm fo s d pa ke ik fa te, ⟨_, _, _, _, _, _, _, mX7_type_full l G (ca 0) (ca 1) (ca 2) (ca 3) (ca 4) (ca 5 0) (ca 7) (ca 8) (ca 9) (ca 10) kp z tl x hx9 hz1, rfl, (pq_1 _ _ _ _ _ _ _ _ _ _ _), ⟨by decide, by decide, rfl, rfl⟩, fun r9 u hp => ⟨(kp, (z, tl), (a, r), (ta, tr), (sz, nx, as, rs), (wb, ub), (w, us), (wh, nu, ss), (a0, r0), (a1, r1)), ⟨hp, _, _, _, _, rfl⟩, (pq_1 _ _ _ _ _ _ _ _ _ _ _).symm⟩⟩, ?_, ?_⟩
      · exact ⟨_, _, [], _, _, _, _, mX8_type_full l G ad zm fo s d pa ke ik fa te aw x hx9 (by omega), rfl, pm_nil _, ⟨by decide, by decide, rfl, rfl⟩, fun r9 u hp => ⟨(zm, fo, s, d, pa, ke, ik, fa, te, aw), ⟨hp, _, hA, rfl⟩, (pm_nil _).symm⟩⟩
      · exact rel_of (hR)
    · skip
      refine ⟨nI (z 1 + 1), pcs kp (va_up z 1 (z 1 + 1)) (va_up tl (z 1) x) a r ta tr sz nx as rs wh nu ss a0 r0 a1 r1, pms (va_up zm 10 (zm 10 + 1)) fo s d pa ke ik fa (va_up te (zm 10) x), ⟨_, _, _, _, _, _, _, mX7_type_ok l G (ca 0) (ca 1) (ca 2) (ca 3) (ca 4) (ca 5 0) (ca 7) (ca 8) (ca 9) (ca 10) kp z tl x hx9 (by omega), rfl, (pq_1 _ _ _ _ _ _ _ _ _ _ _), ⟨by decide, by decide, rfl, rfl⟩, fun r9 u hp => ⟨(kp, (va_up z 1 (z 1 + 1), va_up tl (z 1) x), (a, r), (ta, tr), (sz, nx, as, rs), (wb, ub), (w, us), (wh, nu, ss), (a0, r0), (a1, r1)), ⟨hp, _, _, _, _, rfl⟩, (pq_1 _ _ _ _ _ _ _ _ _ _ _).symm⟩⟩, ?_, ?_⟩
      · exact ⟨_, _, [], _, _, _, _, mX8_type_ok l G ad zm fo s d pa ke ik fa te aw x hx9 (by omega), rfl, pm_nil _, ⟨by decide, by decide, rfl, rfl⟩, fun r9 u hp => ⟨(va_up zm 10 (zm 10 + 1), fo, s, d, pa, ke, ik, fa, va_up te (zm 10) x, aw), ⟨hp.trans (by rw [hx1]), _, hA, rfl⟩, (pm_nil _).symm⟩⟩
      · exact rel_of (⟨⟨by show z 1 + 1 = zm 10 + 1; rw [hx1], by rw [hx2, hx1], by obtain ⟨b1, b2, b3, b4, b5, b6, b7⟩ := hx3; exact ⟨by show z 1 + 1 ≤ 120; omega, b2, Nat.zero_le _, b4, b5, b6, up_lt7 b7 (by omega)⟩⟩, hT, hD, hP, hS, hI⟩)
  · skip
    refine ⟨-1, pcs kp z tl a r ta tr sz nx as rs wh nu ss a0 r0 a1 r1, pms zm fo s d pa ke ik fa te, ⟨_, _, _, _, _, _, _, mX7_type_bad l G (ca 0) (ca 1) (ca 2) (ca 3) (ca 4) (ca 5 0) (ca 7) (ca 8) (ca 9) (ca 10) kp z tl v1 hv, rfl, (pq_1 _ _ _ _ _ _ _ _ _ _ _), ⟨by decide, by decide, rfl, rfl⟩, fun r9 u hp => ⟨(kp, (z, tl), (a, r), (ta, tr), (sz, nx, as, rs), (wb, ub), (w, us), (wh, nu, ss), (a0, r0), (a1, r1)), ⟨hp, _, _, _, _, rfl⟩, (pq_1 _ _ _ _ _ _ _ _ _ _ _).symm⟩⟩, ?_, ?_⟩
    · exact ⟨_, _, [], _, _, _, _, mX8_type_bad l G ad zm fo s d pa ke ik fa te aw v1 hv, rfl, pm_nil _, ⟨by decide, by decide, rfl, rfl⟩, fun r9 u hp => ⟨(zm, fo, s, d, pa, ke, ik, fa, te, aw), ⟨hp, _, hA, rfl⟩, (pm_nil _).symm⟩⟩
    · exact rel_of (hR)
set_option maxHeartbeats 4000000 in
set_option maxRecDepth 100000 in
theorem j_clear (l : Launch) (G : GG) : JS l G RTT yX7_clear cX7_clear 1 yX8_clear cX8_clear 2 [] := by
  intro ca ads ad x y hR
  obtain ⟨kp, ⟨z, tl⟩, ⟨a, r⟩, ⟨ta, tr⟩, ⟨sz, nx, as, rs⟩, ⟨wb, ub⟩, ⟨w, us⟩, ⟨wh, nu, ss⟩, ⟨a0, r0⟩, a1, r1⟩ := x
  obtain ⟨zm, fo, s, d, pa, ke, ik, fa, te, aw⟩ := y
  obtain ⟨hR, hA⟩ := hR
  have hA : ∀ j, aw j ≤ 1000000 := hA
  have hR : RLx kp z tl a r tr sz nx as rs wh nu ss a0 r0 a1 r1 zm s pa ke ik fa te := hR
  obtain ⟨hX, hT, hD, hP, hS, hI⟩ := id hR
  obtain ⟨hx1, hx2, hx3⟩ := id hX
  obtain ⟨e0, e1, e2, e3, e4, e5, e6, e7⟩ := hT.2.2.1
  have hW := hT.1
  have hTB := hT.1.1
  have hB := hT.2.1
  refine ⟨nI (z 1), pcs kp (va_up z 1 0) tl a r ta tr sz nx as rs wh nu ss a0 r0 a1 r1, pms (va_up zm 10 0) fo s d pa ke ik fa te, ⟨_, _, _, _, _, _, _, mX7_clear l G (ca 0) (ca 1) (ca 2) (ca 3) (ca 4) (ca 5 0) (ca 7) (ca 8) (ca 9) (ca 10) kp z tl, rfl, (pq_1 _ _ _ _ _ _ _ _ _ _ _), ⟨by decide, by decide, rfl, rfl⟩, fun r9 u hp => ⟨(kp, (va_up z 1 0, tl), (a, r), (ta, tr), (sz, nx, as, rs), (wb, ub), (w, us), (wh, nu, ss), (a0, r0), (a1, r1)), ⟨hp, _, _, _, _, rfl⟩, (pq_1 _ _ _ _ _ _ _ _ _ _ _).symm⟩⟩, ?_, ?_⟩
  · exact ⟨_, _, [], _, _, _, _, mX8_clear l G ad zm fo s d pa ke ik fa te aw , rfl, pm_nil _, ⟨by decide, by decide, rfl, rfl⟩, fun r9 u hp => ⟨(va_up zm 10 0, fo, s, d, pa, ke, ik, fa, te, aw), ⟨hp.trans (by rw [hx1]), _, hA, rfl⟩, (pm_nil _).symm⟩⟩
  · exact rel_of (⟨⟨rfl, hx2, by obtain ⟨b1, b2, b3, b4, b5, b6, b7⟩ := hx3; exact ⟨Nat.zero_le _, b2, Nat.le_refl _, b4, b5, b6, b7⟩⟩, hT, hD, hP, hS, hI⟩)
set_option maxHeartbeats 4000000 in
set_option maxRecDepth 100000 in
theorem j_forget (l : Launch) (G : GG) : JS l G RTT yX7_forget cX7_forget 1 yX8_forget cX8_forget 2 [] := by
  intro ca ads ad x y hR
  obtain ⟨kp, ⟨z, tl⟩, ⟨a, r⟩, ⟨ta, tr⟩, ⟨sz, nx, as, rs⟩, ⟨wb, ub⟩, ⟨w, us⟩, ⟨wh, nu, ss⟩, ⟨a0, r0⟩, a1, r1⟩ := x
  obtain ⟨zm, fo, s, d, pa, ke, ik, fa, te, aw⟩ := y
  obtain ⟨hR, hA⟩ := hR
  have hA : ∀ j, aw j ≤ 1000000 := hA
  have hR : RLx kp z tl a r tr sz nx as rs wh nu ss a0 r0 a1 r1 zm s pa ke ik fa te := hR
  obtain ⟨hX, hT, hD, hP, hS, hI⟩ := id hR
  obtain ⟨hx1, hx2, hx3⟩ := id hX
  obtain ⟨e0, e1, e2, e3, e4, e5, e6, e7⟩ := hT.2.2.1
  have hW := hT.1
  have hTB := hT.1.1
  have hB := hT.2.1
  refine ⟨nI ss, pcs kp z tl a r ta tr sz nx as rs wh nu 0 a0 r0 a1 r1, pms (va_up zm 8 0) fo s d pa ke ik fa te, ⟨_, _, _, _, _, _, _, mX7_forget l G (ca 0) (ca 1) (ca 2) (ca 3) (ca 4) (ca 5 0) (ca 7) (ca 8) (ca 9) (ca 10) kp wh nu ss, rfl, (pq_8 _ _ _ _ _ _ _ _ _ _ _), ⟨by decide, by decide, rfl, rfl⟩, fun r9 u hp => ⟨(kp, (z, tl), (a, r), (ta, tr), (sz, nx, as, rs), (wb, ub), (w, us), (wh, nu, 0), (a0, r0), (a1, r1)), ⟨hp, _, _, _, _, rfl⟩, (pq_8 _ _ _ _ _ _ _ _ _ _ _).symm⟩⟩, ?_, ?_⟩
  · exact ⟨_, _, [], _, _, _, _, mX8_forget l G ad zm fo s d pa ke ik fa te aw , rfl, pm_nil _, ⟨by decide, by decide, rfl, rfl⟩, fun r9 u hp => ⟨(va_up zm 8 0, fo, s, d, pa, ke, ik, fa, te, aw), ⟨hp.trans (by rw [hS.1]), _, hA, rfl⟩, (pm_nil _).symm⟩⟩
  · exact rel_of (⟨hX, hT, hD, hP, ⟨rfl, Nat.zero_le _, hS.2.2.1, fun i hi => absurd hi (Nat.not_lt_zero _)⟩, hI⟩)
set_option maxHeartbeats 4000000 in
set_option maxRecDepth 100000 in
theorem j_limits (l : Launch) (G : GG) (v1 : Int32) : JS l G RTT yX7_limits cX7_limits 3 yX8_limits cX8_limits 3 [.int v1] := by
  intro ca ads ad x y hR
  obtain ⟨kp, ⟨z, tl⟩, ⟨a, r⟩, ⟨ta, tr⟩, ⟨sz, nx, as, rs⟩, ⟨wb, ub⟩, ⟨w, us⟩, ⟨wh, nu, ss⟩, ⟨a0, r0⟩, a1, r1⟩ := x
  obtain ⟨zm, fo, s, d, pa, ke, ik, fa, te, aw⟩ := y
  obtain ⟨hR, hA⟩ := hR
  have hA : ∀ j, aw j ≤ 1000000 := hA
  have hR : RLx kp z tl a r tr sz nx as rs wh nu ss a0 r0 a1 r1 zm s pa ke ik fa te := hR
  obtain ⟨hX, hT, hD, hP, hS, hI⟩ := id hR
  obtain ⟨hx1, hx2, hx3⟩ := id hX
  obtain ⟨e0, e1, e2, e3, e4, e5, e6, e7⟩ := hT.2.2.1
  have hW := hT.1
  have hTB := hT.1.1
  have hB := hT.2.1
  by_cases hv : 0 ≤ v1.toInt ∧ v1.toInt ≤ 9
  · obtain ⟨x, rfl, hx31, hxi⟩ := asN hv.1
    have hx9 : x ≤ 9 := by have := hv.2; omega
    by_cases hz1 : x = a 2
    · skip
      refine ⟨-2, pcs kp z tl a r ta tr sz nx as rs wh nu ss a0 r0 a1 r1, pms zm fo s d pa ke ik fa te, ⟨_, _, _, _, _, _, _, mX7_limits_state l G (ca 0) (ca 1) (ca 2) (ca 3) (ca 4) (ca 5 0) (ca 7) (ca 8) (ca 9) (ca 10) kp a r x hTB hx9 hz1, rfl, (pq_2 _ _ _ _ _ _ _ _ _ _ _), ⟨by decide, by decide, rfl, rfl⟩, fun r9 u hp => ⟨(kp, (z, tl), (a, r), (ta, tr), (sz, nx, as, rs), (wb, ub), (w, us), (wh, nu, ss), (a0, r0), (a1, r1)), ⟨hp, _, _, _, _, rfl⟩, (pq_2 _ _ _ _ _ _ _ _ _ _ _).symm⟩⟩, ?_, ?_⟩
      · exact ⟨_, _, [], _, _, _, _, mX8_limits_state l G ad zm fo s d pa ke ik fa te aw x hB hx9 (by omega), rfl, pm_nil _, ⟨by decide, by decide, rfl, rfl⟩, fun r9 u hp => ⟨(zm, fo, s, d, pa, ke, ik, fa, te, aw), ⟨hp, _, hA, rfl⟩, (pm_nil _).symm⟩⟩
      · exact rel_of (hR)
    · skip
      refine ⟨nI (a 2), pcs kp z tl (va_up a 2 x) r ta tr (min (sz + 1) 6) ((nx + 1) % 6) (va_up as nx a) (va_up rs nx r) wh nu ss a0 r0 a1 r1, pms (va_up zm 4 (ntU (zm 4) + 1)) fo (va_up s 3 x) d (ntP pa s (zm 4)) ke ik fa te, ⟨_, _, _, _, _, _, _, mX7_limits_ok l G (ca 0) (ca 1) (ca 2) (ca 3) (ca 4) (ca 5 0) (ca 7) (ca 8) (ca 9) (ca 10) kp a r sz nx ads as rs x hTB hP.2.1 hP.2.2.1 hx9 hz1, rfl, (pq_2_4 _ _ _ _ _ _ _ _ _ _ _), ⟨by decide, by decide, rfl, rfl⟩, fun r9 u hp => ⟨(kp, (z, tl), (va_up a 2 x, r), (ta, tr), (min (sz + 1) 6, (nx + 1) % 6, va_up as nx a, va_up rs nx r), (wb, ub), (w, us), (wh, nu, ss), (a0, r0), (a1, r1)), ⟨hp, _, _, _, _, rfl⟩, (pq_2_4 _ _ _ _ _ _ _ _ _ _ _).symm⟩⟩, ?_, ?_⟩
      · exact ⟨_, _, [], _, _, _, _, mX8_limits_ok l G ad zm fo s d pa ke ik fa te aw x hB (by rw [← hP.1]; exact hP.2.1) hx9 (by omega), rfl, pm_nil _, ⟨by decide, by decide, rfl, rfl⟩, fun r9 u hp => ⟨(va_up zm 4 (ntU (zm 4) + 1), fo, va_up s 3 x, d, ntP pa s (zm 4), ke, ik, fa, te, aw), ⟨hp.trans (by rw [e3]), _, hA, rfl⟩, (pm_nil _).symm⟩⟩
      · exact rel_of (⟨hX, hT.lim hx9, hD, hP.push hT, hS, hI⟩)
  · skip
    refine ⟨-1, pcs kp z tl a r ta tr sz nx as rs wh nu ss a0 r0 a1 r1, pms zm fo s d pa ke ik fa te, ⟨_, _, _, _, _, _, _, mX7_limits_bad l G (ca 0) (ca 1) (ca 2) (ca 3) (ca 4) (ca 5 0) (ca 7) (ca 8) (ca 9) (ca 10) kp a r v1 hv, rfl, (pq_2 _ _ _ _ _ _ _ _ _ _ _), ⟨by decide, by decide, rfl, rfl⟩, fun r9 u hp => ⟨(kp, (z, tl), (a, r), (ta, tr), (sz, nx, as, rs), (wb, ub), (w, us), (wh, nu, ss), (a0, r0), (a1, r1)), ⟨hp, _, _, _, _, rfl⟩, (pq_2 _ _ _ _ _ _ _ _ _ _ _).symm⟩⟩, ?_, ?_⟩
    · exact ⟨_, _, [], _, _, _, _, mX8_limits_bad l G ad zm fo s d pa ke ik fa te aw v1 hv, rfl, pm_nil _, ⟨by decide, by decide, rfl, rfl⟩, fun r9 u hp => ⟨(zm, fo, s, d, pa, ke, ik, fa, te, aw), ⟨hp, _, hA, rfl⟩, (pm_nil _).symm⟩⟩
    · exact rel_of (hR)
set_option maxHeartbeats 4000000 in
set_option maxRecDepth 100000 in
theorem j_undo (l : Launch) (G : GG) : JS l G RTT yX7_undo cX7_undo 1 yX8_undo cX8_undo 2 [] := by
  intro ca ads ad x y hR
  obtain ⟨kp, ⟨z, tl⟩, ⟨a, r⟩, ⟨ta, tr⟩, ⟨sz, nx, as, rs⟩, ⟨wb, ub⟩, ⟨w, us⟩, ⟨wh, nu, ss⟩, ⟨a0, r0⟩, a1, r1⟩ := x
  obtain ⟨zm, fo, s, d, pa, ke, ik, fa, te, aw⟩ := y
  obtain ⟨hR, hA⟩ := hR
  have hA : ∀ j, aw j ≤ 1000000 := hA
  have hR : RLx kp z tl a r tr sz nx as rs wh nu ss a0 r0 a1 r1 zm s pa ke ik fa te := hR
  obtain ⟨hX, hT, hD, hP, hS, hI⟩ := id hR
  obtain ⟨hx1, hx2, hx3⟩ := id hX
  obtain ⟨e0, e1, e2, e3, e4, e5, e6, e7⟩ := hT.2.2.1
  have hW := hT.1
  have hTB := hT.1.1
  have hB := hT.2.1
  by_cases hz0 : sz = 0
  · skip
    refine ⟨-2, pcs kp z tl a r ta tr sz nx as rs wh nu ss a0 r0 a1 r1, pms zm fo s d pa ke ik fa te, ⟨_, _, _, _, _, _, _, mX7_undo_state l G (ca 0) (ca 1) (ca 2) (ca 3) (ca 4) (ca 5 0) (ca 7) (ca 8) (ca 9) (ca 10) kp a r sz nx ads as rs hz0 hP.2.2.1, rfl, (pq_2_4 _ _ _ _ _ _ _ _ _ _ _), ⟨by decide, by decide, rfl, rfl⟩, fun r9 u hp => ⟨(kp, (z, tl), (a, r), (ta, tr), (sz, nx, as, rs), (wb, ub), (w, us), (wh, nu, ss), (a0, r0), (a1, r1)), ⟨hp, _, _, _, _, rfl⟩, (pq_2_4 _ _ _ _ _ _ _ _ _ _ _).symm⟩⟩, ?_, ?_⟩
    · exact ⟨_, _, [], _, _, _, _, mX8_undo_state l G ad zm fo s d pa ke ik fa te aw (by rw [← hP.1]; exact hz0), rfl, pm_nil _, ⟨by decide, by decide, rfl, rfl⟩, fun r9 u hp => ⟨(zm, fo, s, d, pa, ke, ik, fa, te, aw), ⟨hp, _, hA, rfl⟩, (pm_nil _).symm⟩⟩
    · exact rel_of (hR)
  · have hpp := hP.pop (by omega)
    refine ⟨nI (sz - 1), pcs kp z tl (as ((nx + 6 - 1) % 6)) (rs ((nx + 6 - 1) % 6)) ta tr (sz - 1) ((nx + 6 - 1) % 6) as rs wh nu ss a0 r0 a1 r1, pms (va_up zm 4 (zm 4 - 1)) fo (geP s pa (52 * (zm 4 - 1)) 52) d pa ke ik fa te, ⟨_, _, _, _, _, _, _, mX7_undo_ok l G (ca 0) (ca 1) (ca 2) (ca 3) (ca 4) (ca 5 0) (ca 7) (ca 8) (ca 9) (ca 10) kp a r sz nx ads as rs hP.2.1 (by omega) hP.2.2.1, rfl, (pq_2_4 _ _ _ _ _ _ _ _ _ _ _), ⟨by decide, by decide, rfl, rfl⟩, fun r9 u hp => ⟨(kp, (z, tl), (as ((nx + 6 - 1) % 6), rs ((nx + 6 - 1) % 6)), (ta, tr), (sz - 1, (nx + 6 - 1) % 6, as, rs), (wb, ub), (w, us), (wh, nu, ss), (a0, r0), (a1, r1)), ⟨hp, _, _, _, _, rfl⟩, (pq_2_4 _ _ _ _ _ _ _ _ _ _ _).symm⟩⟩, ?_, ?_⟩
    · exact ⟨_, _, [], _, _, _, _, mX8_undo_ok l G ad zm fo s d pa ke ik fa te aw (by rw [← hP.1]; exact hP.2.1) (by rw [← hP.1]; omega), rfl, pm_nil _, ⟨by decide, by decide, rfl, rfl⟩, fun r9 u hp => ⟨(va_up zm 4 (zm 4 - 1), fo, geP s pa (52 * (zm 4 - 1)) 52, d, pa, ke, ik, fa, te, aw), ⟨hp.trans (by rw [hP.1]), _, hA, rfl⟩, (pm_nil _).symm⟩⟩
    · exact rel_of (⟨hX, by rw [← hP.1]; exact hpp.2.to hB, hD, hpp.1, hS, hI⟩)
set_option maxHeartbeats 4000000 in
set_option maxRecDepth 100000 in
theorem j_mends (l : Launch) (G : GG) (v1 : Int32) : JS l G RTT yX7_mends cX7_mends 2 yX8_mends cX8_mends 2 [.int v1] := by
  intro ca ads ad x y hR
  obtain ⟨kp, ⟨z, tl⟩, ⟨a, r⟩, ⟨ta, tr⟩, ⟨sz, nx, as, rs⟩, ⟨wb, ub⟩, ⟨w, us⟩, ⟨wh, nu, ss⟩, ⟨a0, r0⟩, a1, r1⟩ := x
  obtain ⟨zm, fo, s, d, pa, ke, ik, fa, te, aw⟩ := y
  obtain ⟨hR, hA⟩ := hR
  have hA : ∀ j, aw j ≤ 1000000 := hA
  have hR : RLx kp z tl a r tr sz nx as rs wh nu ss a0 r0 a1 r1 zm s pa ke ik fa te := hR
  obtain ⟨hX, hT, hD, hP, hS, hI⟩ := id hR
  obtain ⟨hx1, hx2, hx3⟩ := id hX
  obtain ⟨e0, e1, e2, e3, e4, e5, e6, e7⟩ := hT.2.2.1
  have hW := hT.1
  have hTB := hT.1.1
  have hB := hT.2.1
  by_cases hv : 0 ≤ v1.toInt ∧ v1.toInt < a 3
  · obtain ⟨k, rfl, hk31, hki⟩ := asN hv.1
    have hk : k < a 3 := by have := hv.2; omega
    by_cases hd9 : (a 9).testBit k = true
    · skip
      refine ⟨nI (bts (nd (a 9) (2 ^ k)) 12), pcs kp z tl (va_up a 9 (nd (a 9) (2 ^ k))) r ta tr (min (sz + 1) 6) ((nx + 1) % 6) (va_up as nx a) (va_up rs nx r) wh nu ss a0 r0 a1 r1, pms (va_up zm 4 (ntU (zm 4) + 1)) fo (va_up s 6 (nd (s 6) (2 ^ k))) d (ntP pa s (zm 4)) ke ik fa te, ⟨_, _, _, _, _, _, _, mX7_mends_ok l G (ca 0) (ca 1) (ca 2) (ca 3) (ca 4) (ca 5 0) (ca 7) (ca 8) (ca 9) (ca 10) kp a r sz nx ads as rs k hTB hP.2.1 hP.2.2.1 hk hd9, rfl, (pq_2_4 _ _ _ _ _ _ _ _ _ _ _), ⟨by decide, by decide, rfl, rfl⟩, fun r9 u hp => ⟨(kp, (z, tl), (va_up a 9 (nd (a 9) (2 ^ k)), r), (ta, tr), (min (sz + 1) 6, (nx + 1) % 6, va_up as nx a, va_up rs nx r), (wb, ub), (w, us), (wh, nu, ss), (a0, r0), (a1, r1)), ⟨hp, _, _, _, _, rfl⟩, (pq_2_4 _ _ _ _ _ _ _ _ _ _ _).symm⟩⟩, ?_, ?_⟩
      · exact ⟨_, _, [], _, _, _, _, mX8_mends_ok l G ad zm fo s d pa ke ik fa te aw k hB (by rw [← hP.1]; exact hP.2.1) (by rw [e1]; exact hk) (by rw [e6]; exact hd9), rfl, pm_nil _, ⟨by decide, by decide, rfl, rfl⟩, fun r9 u hp => ⟨(va_up zm 4 (ntU (zm 4) + 1), fo, va_up s 6 (nd (s 6) (2 ^ k)), d, ntP pa s (zm 4), ke, ik, fa, te, aw), ⟨hp.trans (by rw [e6]), _, hA, rfl⟩, (pm_nil _).symm⟩⟩
      · exact rel_of (⟨hX, by rw [e6]; exact hT.dn (Nat.lt_of_le_of_lt (nd_le _ _) hTB.2.2.2.2.2.2.2.2.2.2.1) (fun j hj => tf (fun h9 => absurd (nb.mp h9).1 (ft (hW.2.2.2.1 j hj)))), hD, hP.push hT, hS, hI⟩)
    · skip
      refine ⟨-2, pcs kp z tl a r ta tr sz nx as rs wh nu ss a0 r0 a1 r1, pms zm fo s d pa ke ik fa te, ⟨_, _, _, _, _, _, _, mX7_mends_state l G (ca 0) (ca 1) (ca 2) (ca 3) (ca 4) (ca 5 0) (ca 7) (ca 8) (ca 9) (ca 10) kp a r k hTB hk (tf hd9), rfl, (pq_2 _ _ _ _ _ _ _ _ _ _ _), ⟨by decide, by decide, rfl, rfl⟩, fun r9 u hp => ⟨(kp, (z, tl), (a, r), (ta, tr), (sz, nx, as, rs), (wb, ub), (w, us), (wh, nu, ss), (a0, r0), (a1, r1)), ⟨hp, _, _, _, _, rfl⟩, (pq_2 _ _ _ _ _ _ _ _ _ _ _).symm⟩⟩, ?_, ?_⟩
      · exact ⟨_, _, [], _, _, _, _, mX8_mends_state l G ad zm fo s d pa ke ik fa te aw k hB (by rw [e1]; exact hk) (by rw [e6]; exact tf hd9), rfl, pm_nil _, ⟨by decide, by decide, rfl, rfl⟩, fun r9 u hp => ⟨(zm, fo, s, d, pa, ke, ik, fa, te, aw), ⟨hp, _, hA, rfl⟩, (pm_nil _).symm⟩⟩
      · exact rel_of (hR)
  · skip
    refine ⟨-1, pcs kp z tl a r ta tr sz nx as rs wh nu ss a0 r0 a1 r1, pms zm fo s d pa ke ik fa te, ⟨_, _, _, _, _, _, _, mX7_mends_bad l G (ca 0) (ca 1) (ca 2) (ca 3) (ca 4) (ca 5 0) (ca 7) (ca 8) (ca 9) (ca 10) kp a r v1 hTB hv, rfl, (pq_2 _ _ _ _ _ _ _ _ _ _ _), ⟨by decide, by decide, rfl, rfl⟩, fun r9 u hp => ⟨(kp, (z, tl), (a, r), (ta, tr), (sz, nx, as, rs), (wb, ub), (w, us), (wh, nu, ss), (a0, r0), (a1, r1)), ⟨hp, _, _, _, _, rfl⟩, (pq_2 _ _ _ _ _ _ _ _ _ _ _).symm⟩⟩, ?_, ?_⟩
    · exact ⟨_, _, [], _, _, _, _, mX8_mends_bad l G ad zm fo s d pa ke ik fa te aw v1 hB (by rw [e1]; exact hv), rfl, pm_nil _, ⟨by decide, by decide, rfl, rfl⟩, fun r9 u hp => ⟨(zm, fo, s, d, pa, ke, ik, fa, te, aw), ⟨hp, _, hA, rfl⟩, (pm_nil _).symm⟩⟩
    · exact rel_of (hR)
set_option maxHeartbeats 4000000 in
set_option maxRecDepth 100000 in
theorem j_sees (l : Launch) (G : GG) (v1 v2 : Int32) : JS l G RTT yX7_sees cX7_sees 4 yX8_sees cX8_sees 3 [.int v1, .int v2] := by
  intro ca ads ad x y hR
  obtain ⟨kp, ⟨z, tl⟩, ⟨a, r⟩, ⟨ta, tr⟩, ⟨sz, nx, as, rs⟩, ⟨wb, ub⟩, ⟨w, us⟩, ⟨wh, nu, ss⟩, ⟨a0, r0⟩, a1, r1⟩ := x
  obtain ⟨zm, fo, s, d, pa, ke, ik, fa, te, aw⟩ := y
  obtain ⟨hR, hA⟩ := hR
  have hA : ∀ j, aw j ≤ 1000000 := hA
  have hR : RLx kp z tl a r tr sz nx as rs wh nu ss a0 r0 a1 r1 zm s pa ke ik fa te := hR
  obtain ⟨hX, hT, hD, hP, hS, hI⟩ := id hR
  obtain ⟨hx1, hx2, hx3⟩ := id hX
  obtain ⟨e0, e1, e2, e3, e4, e5, e6, e7⟩ := hT.2.2.1
  have hW := hT.1
  have hTB := hT.1.1
  have hB := hT.2.1
  by_cases hv : (0 ≤ v1.toInt ∧ v1.toInt ≤ 1) ∧ (v2 = -9 ∨ (0 ≤ v2.toInt ∧ v2.toInt ≤ 99))
  · obtain ⟨x, rfl, hx31, hxi⟩ := asN hv.1.1
    have hx9 : x ≤ 1 := by have := hv.1.2; omega
    have hs6 := hS.2.1
    by_cases hz1 : ss = 6
    · skip
      refine ⟨-3, pcs kp z tl a r ta tr sz nx as rs wh nu ss a0 r0 a1 r1, pms zm fo s d pa ke ik fa te, ⟨_, _, _, _, _, _, _, mX7_sees_full l G (ca 0) (ca 1) (ca 2) (ca 3) (ca 4) (ca 5 0) (ca 7) (ca 8) (ca 9) (ca 10) kp wh nu ss x v2 hx9 hv.2 hz1, rfl, (pq_8 _ _ _ _ _ _ _ _ _ _ _), ⟨by decide, by decide, rfl, rfl⟩, fun r9 u hp => ⟨(kp, (z, tl), (a, r), (ta, tr), (sz, nx, as, rs), (wb, ub), (w, us), (wh, nu, ss), (a0, r0), (a1, r1)), ⟨hp, _, _, _, _, rfl⟩, (pq_8 _ _ _ _ _ _ _ _ _ _ _).symm⟩⟩, ?_, ?_⟩
      · exact ⟨_, _, [], _, _, _, _, mX8_sees_full l G ad zm fo s d pa ke ik fa te aw x v2 hx9 hv.2 (by rw [← hS.1]; exact hz1), rfl, pm_nil _, ⟨by decide, by decide, rfl, rfl⟩, fun r9 u hp => ⟨(zm, fo, s, d, pa, ke, ik, fa, te, aw), ⟨hp, _, hA, rfl⟩, (pm_nil _).symm⟩⟩
      · exact rel_of (hR)
    · skip
      refine ⟨nI (ss + 1), pcs kp z tl a r ta tr sz nx as rs (va_up wh ss x) (upd nu ss v2) (ss + 1) a0 r0 a1 r1, pms (va_up zm 8 (zm 8 + 1)) fo s d pa ke ik (upd (upd fa (2 * zm 8) (nI x)) (2 * zm 8 + 1) v2) te, ⟨_, _, _, _, _, _, _, mX7_sees_ok l G (ca 0) (ca 1) (ca 2) (ca 3) (ca 4) (ca 5 0) (ca 7) (ca 8) (ca 9) (ca 10) kp wh nu ss x v2 hx9 hv.2 (by omega), rfl, (pq_8 _ _ _ _ _ _ _ _ _ _ _), ⟨by decide, by decide, rfl, rfl⟩, fun r9 u hp => ⟨(kp, (z, tl), (a, r), (ta, tr), (sz, nx, as, rs), (wb, ub), (w, us), (va_up wh ss x, upd nu ss v2, ss + 1), (a0, r0), (a1, r1)), ⟨hp, _, _, _, _, rfl⟩, (pq_8 _ _ _ _ _ _ _ _ _ _ _).symm⟩⟩, ?_, ?_⟩
      · exact ⟨_, _, [], _, _, _, _, mX8_sees_ok l G ad zm fo s d pa ke ik fa te aw x v2 hx9 hv.2 (by rw [← hS.1]; omega), rfl, pm_nil _, ⟨by decide, by decide, rfl, rfl⟩, fun r9 u hp => ⟨(va_up zm 8 (zm 8 + 1), fo, s, d, pa, ke, ik, upd (upd fa (2 * zm 8) (nI x)) (2 * zm 8 + 1) v2, te, aw), ⟨hp.trans (by rw [hS.1]), _, hA, rfl⟩, (pm_nil _).symm⟩⟩
      · exact rel_of (⟨hX, hT, hD, hP, ⟨by show ss + 1 = zm 8 + 1; rw [hS.1], by omega, up_lt7 hS.2.2.1 (by omega), by
    intro i hi
    have hg := hS.2.2.2
    rw [← hS.1]
    by_cases e : i = ss
    · subst e
      rw [upd_n (by omega), upd_s, upd_s, va_up_self, upd_s]
      exact ⟨rfl, rfl⟩
    · rw [upd_n (by omega), upd_n (by omega), upd_n (by omega), upd_n (by omega), va_up_ne _ _ e, upd_n e]
      exact hg i (by omega)⟩, hI⟩)
  · skip
    refine ⟨-1, pcs kp z tl a r ta tr sz nx as rs wh nu ss a0 r0 a1 r1, pms zm fo s d pa ke ik fa te, ⟨_, _, _, _, _, _, _, mX7_sees_bad l G (ca 0) (ca 1) (ca 2) (ca 3) (ca 4) (ca 5 0) (ca 7) (ca 8) (ca 9) (ca 10) kp wh nu ss v1 v2 hv, rfl, (pq_8 _ _ _ _ _ _ _ _ _ _ _), ⟨by decide, by decide, rfl, rfl⟩, fun r9 u hp => ⟨(kp, (z, tl), (a, r), (ta, tr), (sz, nx, as, rs), (wb, ub), (w, us), (wh, nu, ss), (a0, r0), (a1, r1)), ⟨hp, _, _, _, _, rfl⟩, (pq_8 _ _ _ _ _ _ _ _ _ _ _).symm⟩⟩, ?_, ?_⟩
    · exact ⟨_, _, [], _, _, _, _, mX8_sees_bad l G ad zm fo s d pa ke ik fa te aw v1 v2 (by by_cases h9 : (0 ≤ v1.toInt ∧ v1.toInt ≤ 1); exact Or.inr (fun h8 => hv ⟨h9, h8⟩); exact Or.inl h9), rfl, pm_nil _, ⟨by decide, by decide, rfl, rfl⟩, fun r9 u hp => ⟨(zm, fo, s, d, pa, ke, ik, fa, te, aw), ⟨hp, _, hA, rfl⟩, (pm_nil _).symm⟩⟩
    · exact rel_of (hR)
set_option maxHeartbeats 4000000 in
set_option maxRecDepth 100000 in
theorem j_keep (l : Launch) (G : GG) (v1 : Int32) : JS l G RTT yX7_keep cX7_keep 2 yX8_keep cX8_keep 3 [.int v1] := by
  intro ca ads ad x y hR
  obtain ⟨kp, ⟨z, tl⟩, ⟨a, r⟩, ⟨ta, tr⟩, ⟨sz, nx, as, rs⟩, ⟨wb, ub⟩, ⟨w, us⟩, ⟨wh, nu, ss⟩, ⟨a0, r0⟩, a1, r1⟩ := x
  obtain ⟨zm, fo, s, d, pa, ke, ik, fa, te, aw⟩ := y
  obtain ⟨hR, hA⟩ := hR
  have hA : ∀ j, aw j ≤ 1000000 := hA
  have hR : RLx kp z tl a r tr sz nx as rs wh nu ss a0 r0 a1 r1 zm s pa ke ik fa te := hR
  obtain ⟨hX, hT, hD, hP, hS, hI⟩ := id hR
  obtain ⟨hx1, hx2, hx3⟩ := id hX
  obtain ⟨e0, e1, e2, e3, e4, e5, e6, e7⟩ := hT.2.2.1
  have hW := hT.1
  have hTB := hT.1.1
  have hB := hT.2.1
  by_cases hv : 0 ≤ v1.toInt ∧ v1.toInt < 2
  · obtain ⟨x, rfl, hx31, hxi⟩ := asN hv.1
    have hx2 : x = 0 ∨ x = 1 := by have := hv.2; omega
    rcases hx2 with rfl | rfl
    · skip
      refine ⟨nI (bts (a 7) 12), pcs (upd kp 0 (nI 1)) z tl a r ta tr sz nx as rs wh nu ss a r a1 r1, pms zm fo s d pa (coP ke s (52 * 0) 52) (upd ik 0 (nI 1)) fa te, ⟨_, _, _, _, _, _, _, mX7_keep_0 l G (ca 0) (ca 1) (ca 2) (ca 3) (ca 4) (ca 5 0) (ca 7) (ca 8) (ca 9) (ca 10) kp a r a0 r0 hTB, rfl, (pq_2_9 _ _ _ _ _ _ _ _ _ _ _), ⟨by decide, by decide, rfl, rfl⟩, fun r9 u hp => ⟨(upd kp 0 (nI 1), (z, tl), (a, r), (ta, tr), (sz, nx, as, rs), (wb, ub), (w, us), (wh, nu, ss), (a, r), (a1, r1)), ⟨hp, _, _, _, _, rfl⟩, (pq_2_9 _ _ _ _ _ _ _ _ _ _ _).symm⟩⟩, ?_, ?_⟩
      · exact ⟨_, _, [], _, _, _, _, mX8_keep_ok l G ad zm fo s d pa ke ik fa te aw 0 hB (by decide), rfl, pm_nil _, ⟨by decide, by decide, rfl, rfl⟩, fun r9 u hp => ⟨(zm, fo, s, d, pa, coP ke s (52 * 0) 52, upd ik 0 (nI 1), fa, te, aw), ⟨hp.trans (by rw [e4]), _, hA, rfl⟩, (pm_nil _).symm⟩⟩
      · exact rel_of (⟨hX, hT, hD, hP, hS, hI.k0 hT⟩)
    · skip
      refine ⟨nI (bts (a 7) 12), pcs (upd kp 1 (nI 1)) z tl a r ta tr sz nx as rs wh nu ss a0 r0 a r, pms zm fo s d pa (coP ke s (52 * 1) 52) (upd ik 1 (nI 1)) fa te, ⟨_, _, _, _, _, _, _, mX7_keep_1 l G (ca 0) (ca 1) (ca 2) (ca 3) (ca 4) (ca 5 0) (ca 7) (ca 8) (ca 9) (ca 10) kp a r a1 r1 hTB, rfl, (pq_2_10 _ _ _ _ _ _ _ _ _ _ _), ⟨by decide, by decide, rfl, rfl⟩, fun r9 u hp => ⟨(upd kp 1 (nI 1), (z, tl), (a, r), (ta, tr), (sz, nx, as, rs), (wb, ub), (w, us), (wh, nu, ss), (a0, r0), (a, r)), ⟨hp, _, _, _, _, rfl⟩, (pq_2_10 _ _ _ _ _ _ _ _ _ _ _).symm⟩⟩, ?_, ?_⟩
      · exact ⟨_, _, [], _, _, _, _, mX8_keep_ok l G ad zm fo s d pa ke ik fa te aw 1 hB (by decide), rfl, pm_nil _, ⟨by decide, by decide, rfl, rfl⟩, fun r9 u hp => ⟨(zm, fo, s, d, pa, coP ke s (52 * 1) 52, upd ik 1 (nI 1), fa, te, aw), ⟨hp.trans (by rw [e4]), _, hA, rfl⟩, (pm_nil _).symm⟩⟩
      · exact rel_of (⟨hX, hT, hD, hP, hS, hI.k1 hT⟩)
  · skip
    refine ⟨-1, pcs kp z tl a r ta tr sz nx as rs wh nu ss a0 r0 a1 r1, pms zm fo s d pa ke ik fa te, ⟨_, _, _, _, _, _, _, mX7_keep_bad l G (ca 0) (ca 1) (ca 2) (ca 3) (ca 4) (ca 5 0) (ca 7) (ca 8) (ca 9) (ca 10) kp v1 hv, rfl, (pq_n _ _ _ _ _ _ _ _ _ _ _), ⟨by decide, by decide, rfl, rfl⟩, fun r9 u hp => ⟨(kp, (z, tl), (a, r), (ta, tr), (sz, nx, as, rs), (wb, ub), (w, us), (wh, nu, ss), (a0, r0), (a1, r1)), ⟨hp, _, _, _, _, rfl⟩, (pq_n _ _ _ _ _ _ _ _ _ _ _).symm⟩⟩, ?_, ?_⟩
    · exact ⟨_, _, [], _, _, _, _, mX8_keep_bad l G ad zm fo s d pa ke ik fa te aw v1 (by omega), rfl, pm_nil _, ⟨by decide, by decide, rfl, rfl⟩, fun r9 u hp => ⟨(zm, fo, s, d, pa, ke, ik, fa, te, aw), ⟨hp, _, hA, rfl⟩, (pm_nil _).symm⟩⟩
    · exact rel_of (hR)
set_option maxHeartbeats 4000000 in
set_option maxRecDepth 100000 in
theorem j_back (l : Launch) (G : GG) (v1 : Int32) : JS l G RTT yX7_back cX7_back 2 yX8_back cX8_back 3 [.int v1] := by
  intro ca ads ad x y hR
  obtain ⟨kp, ⟨z, tl⟩, ⟨a, r⟩, ⟨ta, tr⟩, ⟨sz, nx, as, rs⟩, ⟨wb, ub⟩, ⟨w, us⟩, ⟨wh, nu, ss⟩, ⟨a0, r0⟩, a1, r1⟩ := x
  obtain ⟨zm, fo, s, d, pa, ke, ik, fa, te, aw⟩ := y
  obtain ⟨hR, hA⟩ := hR
  have hA : ∀ j, aw j ≤ 1000000 := hA
  have hR : RLx kp z tl a r tr sz nx as rs wh nu ss a0 r0 a1 r1 zm s pa ke ik fa te := hR
  obtain ⟨hX, hT, hD, hP, hS, hI⟩ := id hR
  obtain ⟨hx1, hx2, hx3⟩ := id hX
  obtain ⟨e0, e1, e2, e3, e4, e5, e6, e7⟩ := hT.2.2.1
  have hW := hT.1
  have hTB := hT.1.1
  have hB := hT.2.1
  by_cases hv : 0 ≤ v1.toInt ∧ v1.toInt < 2
  · obtain ⟨x, rfl, hx31, hxi⟩ := asN hv.1
    have hx2 : x = 0 ∨ x = 1 := by have := hv.2; omega
    obtain ⟨i1, i2, i3, i4⟩ := id hI
    rcases hx2 with rfl | rfl
    · rcases i3 with hk | ⟨hk, hTP⟩
      · skip
        refine ⟨-2, pcs kp z tl a r ta tr sz nx as rs wh nu ss a0 r0 a1 r1, pms zm fo s d pa ke ik fa te, ⟨_, _, _, _, _, _, _, mX7_back_state_0 l G (ca 0) (ca 1) (ca 2) (ca 3) (ca 4) (ca 5 0) (ca 7) (ca 8) (ca 9) (ca 10) kp hk, rfl, (pq_n _ _ _ _ _ _ _ _ _ _ _), ⟨by decide, by decide, rfl, rfl⟩, fun r9 u hp => ⟨(kp, (z, tl), (a, r), (ta, tr), (sz, nx, as, rs), (wb, ub), (w, us), (wh, nu, ss), (a0, r0), (a1, r1)), ⟨hp, _, _, _, _, rfl⟩, (pq_n _ _ _ _ _ _ _ _ _ _ _).symm⟩⟩, ?_, ?_⟩
        · exact ⟨_, _, [], _, _, _, _, mX8_back_state l G ad zm fo s d pa ke ik fa te aw 0 (by decide) (by rw [← i1]; exact hk), rfl, pm_nil _, ⟨by decide, by decide, rfl, rfl⟩, fun r9 u hp => ⟨(zm, fo, s, d, pa, ke, ik, fa, te, aw), ⟨hp, _, hA, rfl⟩, (pm_nil _).symm⟩⟩
        · exact rel_of (hR)
      · have hT2 := hTP.to hB
        refine ⟨nI (bts (a0 7) 12), pcs kp z tl a0 r0 ta tr 0 nx as rs wh nu ss a0 r0 a1 r1, pms (va_up zm 4 0) fo (geP s ke (52 * 0) 52) d pa ke ik fa te, ⟨_, _, _, _, _, _, _, mX7_back_ok_0 l G (ca 0) (ca 1) (ca 2) (ca 3) (ca 4) (ca 5 0) (ca 7) (ca 8) (ca 9) (ca 10) kp a r a0 r0 sz nx ads as rs hT2.1.1 hk, rfl, (pq_2_9_4 _ _ _ _ _ _ _ _ _ _ _), ⟨by decide, by decide, rfl, rfl⟩, fun r9 u hp => ⟨(kp, (z, tl), (a0, r0), (ta, tr), (0, nx, as, rs), (wb, ub), (w, us), (wh, nu, ss), (a0, r0), (a1, r1)), ⟨hp, _, _, _, _, rfl⟩, (pq_2_9_4 _ _ _ _ _ _ _ _ _ _ _).symm⟩⟩, ?_, ?_⟩
        · exact ⟨_, _, [], _, _, _, _, mX8_back_ok l G ad zm fo s d pa ke ik fa te aw 0 (by decide) (by rw [← i1]; exact hk) hT2.2.1, rfl, pm_nil _, ⟨by decide, by decide, rfl, rfl⟩, fun r9 u hp => ⟨(va_up zm 4 0, fo, geP s ke (52 * 0) 52, d, pa, ke, ik, fa, te, aw), ⟨hp.trans (by rw [hT2.2.2.1.2.2.2.2.1]), _, hA, rfl⟩, (pm_nil _).symm⟩⟩
        · exact rel_of (⟨hX, hT2, hD, hP.z, hS, hI⟩)
    · rcases i4 with hk | ⟨hk, hTP⟩
      · skip
        refine ⟨-2, pcs kp z tl a r ta tr sz nx as rs wh nu ss a0 r0 a1 r1, pms zm fo s d pa ke ik fa te, ⟨_, _, _, _, _, _, _, mX7_back_state_1 l G (ca 0) (ca 1) (ca 2) (ca 3) (ca 4) (ca 5 0) (ca 7) (ca 8) (ca 9) (ca 10) kp hk, rfl, (pq_n _ _ _ _ _ _ _ _ _ _ _), ⟨by decide, by decide, rfl, rfl⟩, fun r9 u hp => ⟨(kp, (z, tl), (a, r), (ta, tr), (sz, nx, as, rs), (wb, ub), (w, us), (wh, nu, ss), (a0, r0), (a1, r1)), ⟨hp, _, _, _, _, rfl⟩, (pq_n _ _ _ _ _ _ _ _ _ _ _).symm⟩⟩, ?_, ?_⟩
        · exact ⟨_, _, [], _, _, _, _, mX8_back_state l G ad zm fo s d pa ke ik fa te aw 1 (by decide) (by rw [← i2]; exact hk), rfl, pm_nil _, ⟨by decide, by decide, rfl, rfl⟩, fun r9 u hp => ⟨(zm, fo, s, d, pa, ke, ik, fa, te, aw), ⟨hp, _, hA, rfl⟩, (pm_nil _).symm⟩⟩
        · exact rel_of (hR)
      · have hT2 := hTP.to hB
        refine ⟨nI (bts (a1 7) 12), pcs kp z tl a1 r1 ta tr 0 nx as rs wh nu ss a0 r0 a1 r1, pms (va_up zm 4 0) fo (geP s ke (52 * 1) 52) d pa ke ik fa te, ⟨_, _, _, _, _, _, _, mX7_back_ok_1 l G (ca 0) (ca 1) (ca 2) (ca 3) (ca 4) (ca 5 0) (ca 7) (ca 8) (ca 9) (ca 10) kp a r a1 r1 sz nx ads as rs hT2.1.1 hk, rfl, (pq_2_10_4 _ _ _ _ _ _ _ _ _ _ _), ⟨by decide, by decide, rfl, rfl⟩, fun r9 u hp => ⟨(kp, (z, tl), (a1, r1), (ta, tr), (0, nx, as, rs), (wb, ub), (w, us), (wh, nu, ss), (a0, r0), (a1, r1)), ⟨hp, _, _, _, _, rfl⟩, (pq_2_10_4 _ _ _ _ _ _ _ _ _ _ _).symm⟩⟩, ?_, ?_⟩
        · exact ⟨_, _, [], _, _, _, _, mX8_back_ok l G ad zm fo s d pa ke ik fa te aw 1 (by decide) (by rw [← i2]; exact hk) hT2.2.1, rfl, pm_nil _, ⟨by decide, by decide, rfl, rfl⟩, fun r9 u hp => ⟨(va_up zm 4 0, fo, geP s ke (52 * 1) 52, d, pa, ke, ik, fa, te, aw), ⟨hp.trans (by rw [hT2.2.2.1.2.2.2.2.1]), _, hA, rfl⟩, (pm_nil _).symm⟩⟩
        · exact rel_of (⟨hX, hT2, hD, hP.z, hS, hI⟩)
  · skip
    refine ⟨-1, pcs kp z tl a r ta tr sz nx as rs wh nu ss a0 r0 a1 r1, pms zm fo s d pa ke ik fa te, ⟨_, _, _, _, _, _, _, mX7_back_bad l G (ca 0) (ca 1) (ca 2) (ca 3) (ca 4) (ca 5 0) (ca 7) (ca 8) (ca 9) (ca 10) kp v1 hv, rfl, (pq_n _ _ _ _ _ _ _ _ _ _ _), ⟨by decide, by decide, rfl, rfl⟩, fun r9 u hp => ⟨(kp, (z, tl), (a, r), (ta, tr), (sz, nx, as, rs), (wb, ub), (w, us), (wh, nu, ss), (a0, r0), (a1, r1)), ⟨hp, _, _, _, _, rfl⟩, (pq_n _ _ _ _ _ _ _ _ _ _ _).symm⟩⟩, ?_, ?_⟩
    · exact ⟨_, _, [], _, _, _, _, mX8_back_bad l G ad zm fo s d pa ke ik fa te aw v1 (by omega), rfl, pm_nil _, ⟨by decide, by decide, rfl, rfl⟩, fun r9 u hp => ⟨(zm, fo, s, d, pa, ke, ik, fa, te, aw), ⟨hp, _, hA, rfl⟩, (pm_nil _).symm⟩⟩
    · exact rel_of (hR)
set_option maxHeartbeats 4000000 in
set_option maxRecDepth 100000 in
theorem j_count (l : Launch) (G : GG) (v1 : Int32) : JS l G RTT yX7_count cX7_count 2 yX8_count cX8_count 2 [.int v1] := by
  intro ca ads ad x y hR
  obtain ⟨kp, ⟨z, tl⟩, ⟨a, r⟩, ⟨ta, tr⟩, ⟨sz, nx, as, rs⟩, ⟨wb, ub⟩, ⟨w, us⟩, ⟨wh, nu, ss⟩, ⟨a0, r0⟩, a1, r1⟩ := x
  obtain ⟨zm, fo, s, d, pa, ke, ik, fa, te, aw⟩ := y
  obtain ⟨hR, hA⟩ := hR
  have hA : ∀ j, aw j ≤ 1000000 := hA
  have hR : RLx kp z tl a r tr sz nx as rs wh nu ss a0 r0 a1 r1 zm s pa ke ik fa te := hR
  obtain ⟨hX, hT, hD, hP, hS, hI⟩ := id hR
  obtain ⟨hx1, hx2, hx3⟩ := id hX
  obtain ⟨e0, e1, e2, e3, e4, e5, e6, e7⟩ := hT.2.2.1
  have hW := hT.1
  have hTB := hT.1.1
  have hB := hT.2.1
  by_cases hv : 0 ≤ v1.toInt ∧ v1.toInt ≤ 9
  · obtain ⟨x, rfl, hx31, hxi⟩ := asN hv.1
    have hx9 : x = 0 ∨ x = 1 ∨ x = 2 ∨ x = 3 ∨ x = 4 ∨ x = 5 ∨ x = 6 ∨ x = 7 ∨ x = 8 ∨ x = 9 := by have := hv.2; omega
    rcases hx9 with rfl | rfl | rfl | rfl | rfl | rfl | rfl | rfl | rfl | rfl
    · skip
      refine ⟨nI (a 0), pcs kp z tl a r ta tr sz nx as rs wh nu ss a0 r0 a1 r1, pms zm fo s d pa ke ik fa te, ⟨_, _, _, _, _, _, _, mX7_count_0 l G (ca 0) (ca 1) (ca 2) (ca 3) (ca 4) (ca 5 0) (ca 7) (ca 8) (ca 9) (ca 10) kp a r hTB, rfl, (pq_2 _ _ _ _ _ _ _ _ _ _ _), ⟨by decide, by decide, rfl, rfl⟩, fun r9 u hp => ⟨(kp, (z, tl), (a, r), (ta, tr), (sz, nx, as, rs), (wb, ub), (w, us), (wh, nu, ss), (a0, r0), (a1, r1)), ⟨hp, _, _, _, _, rfl⟩, (pq_2 _ _ _ _ _ _ _ _ _ _ _).symm⟩⟩, ?_, ?_⟩
      · exact ⟨_, _, [], _, _, _, _, mX8_count_0 l G ad zm fo s d pa ke ik fa te aw hB, rfl, pm_nil _, ⟨by decide, by decide, rfl, rfl⟩, fun r9 u hp => ⟨(zm, fo, s, d, pa, ke, ik, fa, te, aw), ⟨hp.trans (by rw [e0]), _, hA, rfl⟩, (pm_nil _).symm⟩⟩
      · exact rel_of (hR)
    · skip
      refine ⟨nI (a 3), pcs kp z tl a r ta tr sz nx as rs wh nu ss a0 r0 a1 r1, pms zm fo s d pa ke ik fa te, ⟨_, _, _, _, _, _, _, mX7_count_1 l G (ca 0) (ca 1) (ca 2) (ca 3) (ca 4) (ca 5 0) (ca 7) (ca 8) (ca 9) (ca 10) kp a r hTB, rfl, (pq_2 _ _ _ _ _ _ _ _ _ _ _), ⟨by decide, by decide, rfl, rfl⟩, fun r9 u hp => ⟨(kp, (z, tl), (a, r), (ta, tr), (sz, nx, as, rs), (wb, ub), (w, us), (wh, nu, ss), (a0, r0), (a1, r1)), ⟨hp, _, _, _, _, rfl⟩, (pq_2 _ _ _ _ _ _ _ _ _ _ _).symm⟩⟩, ?_, ?_⟩
      · exact ⟨_, _, [], _, _, _, _, mX8_count_1 l G ad zm fo s d pa ke ik fa te aw hB, rfl, pm_nil _, ⟨by decide, by decide, rfl, rfl⟩, fun r9 u hp => ⟨(zm, fo, s, d, pa, ke, ik, fa, te, aw), ⟨hp.trans (by rw [e1]), _, hA, rfl⟩, (pm_nil _).symm⟩⟩
      · exact rel_of (hR)
    · skip
      refine ⟨nI (a 1), pcs kp z tl a r ta tr sz nx as rs wh nu ss a0 r0 a1 r1, pms zm fo s d pa ke ik fa te, ⟨_, _, _, _, _, _, _, mX7_count_2 l G (ca 0) (ca 1) (ca 2) (ca 3) (ca 4) (ca 5 0) (ca 7) (ca 8) (ca 9) (ca 10) kp a r hTB, rfl, (pq_2 _ _ _ _ _ _ _ _ _ _ _), ⟨by decide, by decide, rfl, rfl⟩, fun r9 u hp => ⟨(kp, (z, tl), (a, r), (ta, tr), (sz, nx, as, rs), (wb, ub), (w, us), (wh, nu, ss), (a0, r0), (a1, r1)), ⟨hp, _, _, _, _, rfl⟩, (pq_2 _ _ _ _ _ _ _ _ _ _ _).symm⟩⟩, ?_, ?_⟩
      · exact ⟨_, _, [], _, _, _, _, mX8_count_2 l G ad zm fo s d pa ke ik fa te aw hB, rfl, pm_nil _, ⟨by decide, by decide, rfl, rfl⟩, fun r9 u hp => ⟨(zm, fo, s, d, pa, ke, ik, fa, te, aw), ⟨hp.trans (by rw [e2]), _, hA, rfl⟩, (pm_nil _).symm⟩⟩
      · exact rel_of (hR)
    · skip
      refine ⟨nI (a 2), pcs kp z tl a r ta tr sz nx as rs wh nu ss a0 r0 a1 r1, pms zm fo s d pa ke ik fa te, ⟨_, _, _, _, _, _, _, mX7_count_3 l G (ca 0) (ca 1) (ca 2) (ca 3) (ca 4) (ca 5 0) (ca 7) (ca 8) (ca 9) (ca 10) kp a r hTB, rfl, (pq_2 _ _ _ _ _ _ _ _ _ _ _), ⟨by decide, by decide, rfl, rfl⟩, fun r9 u hp => ⟨(kp, (z, tl), (a, r), (ta, tr), (sz, nx, as, rs), (wb, ub), (w, us), (wh, nu, ss), (a0, r0), (a1, r1)), ⟨hp, _, _, _, _, rfl⟩, (pq_2 _ _ _ _ _ _ _ _ _ _ _).symm⟩⟩, ?_, ?_⟩
      · exact ⟨_, _, [], _, _, _, _, mX8_count_3 l G ad zm fo s d pa ke ik fa te aw hB, rfl, pm_nil _, ⟨by decide, by decide, rfl, rfl⟩, fun r9 u hp => ⟨(zm, fo, s, d, pa, ke, ik, fa, te, aw), ⟨hp.trans (by rw [e3]), _, hA, rfl⟩, (pm_nil _).symm⟩⟩
      · exact rel_of (hR)
    · skip
      refine ⟨nI (bts (a 7) 12), pcs kp z tl a r ta tr sz nx as rs wh nu ss a0 r0 a1 r1, pms zm fo s d pa ke ik fa te, ⟨_, _, _, _, _, _, _, mX7_count_4 l G (ca 0) (ca 1) (ca 2) (ca 3) (ca 4) (ca 5 0) (ca 7) (ca 8) (ca 9) (ca 10) kp a r hTB, rfl, (pq_2 _ _ _ _ _ _ _ _ _ _ _), ⟨by decide, by decide, rfl, rfl⟩, fun r9 u hp => ⟨(kp, (z, tl), (a, r), (ta, tr), (sz, nx, as, rs), (wb, ub), (w, us), (wh, nu, ss), (a0, r0), (a1, r1)), ⟨hp, _, _, _, _, rfl⟩, (pq_2 _ _ _ _ _ _ _ _ _ _ _).symm⟩⟩, ?_, ?_⟩
      · exact ⟨_, _, [], _, _, _, _, mX8_count_4 l G ad zm fo s d pa ke ik fa te aw hB, rfl, pm_nil _, ⟨by decide, by decide, rfl, rfl⟩, fun r9 u hp => ⟨(zm, fo, s, d, pa, ke, ik, fa, te, aw), ⟨hp.trans (by rw [e4]), _, hA, rfl⟩, (pm_nil _).symm⟩⟩
      · exact rel_of (hR)
    · skip
      refine ⟨nI (a 10), pcs kp z tl a r ta tr sz nx as rs wh nu ss a0 r0 a1 r1, pms zm fo s d pa ke ik fa te, ⟨_, _, _, _, _, _, _, mX7_count_5 l G (ca 0) (ca 1) (ca 2) (ca 3) (ca 4) (ca 5 0) (ca 7) (ca 8) (ca 9) (ca 10) kp a r hTB, rfl, (pq_2 _ _ _ _ _ _ _ _ _ _ _), ⟨by decide, by decide, rfl, rfl⟩, fun r9 u hp => ⟨(kp, (z, tl), (a, r), (ta, tr), (sz, nx, as, rs), (wb, ub), (w, us), (wh, nu, ss), (a0, r0), (a1, r1)), ⟨hp, _, _, _, _, rfl⟩, (pq_2 _ _ _ _ _ _ _ _ _ _ _).symm⟩⟩, ?_, ?_⟩
      · exact ⟨_, _, [], _, _, _, _, mX8_count_5 l G ad zm fo s d pa ke ik fa te aw hB, rfl, pm_nil _, ⟨by decide, by decide, rfl, rfl⟩, fun r9 u hp => ⟨(zm, fo, s, d, pa, ke, ik, fa, te, aw), ⟨hp.trans (by rw [e7]), _, hA, rfl⟩, (pm_nil _).symm⟩⟩
      · exact rel_of (hR)
    · skip
      refine ⟨nI (bts (a 9) 12), pcs kp z tl a r ta tr sz nx as rs wh nu ss a0 r0 a1 r1, pms zm fo s d pa ke ik fa te, ⟨_, _, _, _, _, _, _, mX7_count_6 l G (ca 0) (ca 1) (ca 2) (ca 3) (ca 4) (ca 5 0) (ca 7) (ca 8) (ca 9) (ca 10) kp a r hTB, rfl, (pq_2 _ _ _ _ _ _ _ _ _ _ _), ⟨by decide, by decide, rfl, rfl⟩, fun r9 u hp => ⟨(kp, (z, tl), (a, r), (ta, tr), (sz, nx, as, rs), (wb, ub), (w, us), (wh, nu, ss), (a0, r0), (a1, r1)), ⟨hp, _, _, _, _, rfl⟩, (pq_2 _ _ _ _ _ _ _ _ _ _ _).symm⟩⟩, ?_, ?_⟩
      · exact ⟨_, _, [], _, _, _, _, mX8_count_6 l G ad zm fo s d pa ke ik fa te aw hB, rfl, pm_nil _, ⟨by decide, by decide, rfl, rfl⟩, fun r9 u hp => ⟨(zm, fo, s, d, pa, ke, ik, fa, te, aw), ⟨hp.trans (by rw [e6]), _, hA, rfl⟩, (pm_nil _).symm⟩⟩
      · exact rel_of (hR)
    · skip
      refine ⟨nI ss, pcs kp z tl a r ta tr sz nx as rs wh nu ss a0 r0 a1 r1, pms zm fo s d pa ke ik fa te, ⟨_, _, _, _, _, _, _, mX7_count_7 l G (ca 0) (ca 1) (ca 2) (ca 3) (ca 4) (ca 5 0) (ca 7) (ca 8) (ca 9) (ca 10) kp wh nu ss, rfl, (pq_8 _ _ _ _ _ _ _ _ _ _ _), ⟨by decide, by decide, rfl, rfl⟩, fun r9 u hp => ⟨(kp, (z, tl), (a, r), (ta, tr), (sz, nx, as, rs), (wb, ub), (w, us), (wh, nu, ss), (a0, r0), (a1, r1)), ⟨hp, _, _, _, _, rfl⟩, (pq_8 _ _ _ _ _ _ _ _ _ _ _).symm⟩⟩, ?_, ?_⟩
      · exact ⟨_, _, [], _, _, _, _, mX8_count_7 l G ad zm fo s d pa ke ik fa te aw hB, rfl, pm_nil _, ⟨by decide, by decide, rfl, rfl⟩, fun r9 u hp => ⟨(zm, fo, s, d, pa, ke, ik, fa, te, aw), ⟨hp.trans (by rw [hS.1]), _, hA, rfl⟩, (pm_nil _).symm⟩⟩
      · exact rel_of (hR)
    · skip
      refine ⟨nI (z 1), pcs kp z tl a r ta tr sz nx as rs wh nu ss a0 r0 a1 r1, pms zm fo s d pa ke ik fa te, ⟨_, _, _, _, _, _, _, mX7_count_8 l G (ca 0) (ca 1) (ca 2) (ca 3) (ca 4) (ca 5 0) (ca 7) (ca 8) (ca 9) (ca 10) kp z tl, rfl, (pq_1 _ _ _ _ _ _ _ _ _ _ _), ⟨by decide, by decide, rfl, rfl⟩, fun r9 u hp => ⟨(kp, (z, tl), (a, r), (ta, tr), (sz, nx, as, rs), (wb, ub), (w, us), (wh, nu, ss), (a0, r0), (a1, r1)), ⟨hp, _, _, _, _, rfl⟩, (pq_1 _ _ _ _ _ _ _ _ _ _ _).symm⟩⟩, ?_, ?_⟩
      · exact ⟨_, _, [], _, _, _, _, mX8_count_8 l G ad zm fo s d pa ke ik fa te aw hB, rfl, pm_nil _, ⟨by decide, by decide, rfl, rfl⟩, fun r9 u hp => ⟨(zm, fo, s, d, pa, ke, ik, fa, te, aw), ⟨hp.trans (by rw [hx1]), _, hA, rfl⟩, (pm_nil _).symm⟩⟩
      · exact rel_of (hR)
    · skip
      refine ⟨nI sz, pcs kp z tl a r ta tr sz nx as rs wh nu ss a0 r0 a1 r1, pms zm fo s d pa ke ik fa te, ⟨_, _, _, _, _, _, _, mX7_count_9 l G (ca 0) (ca 1) (ca 2) (ca 3) (ca 4) (ca 5 0) (ca 7) (ca 8) (ca 9) (ca 10) kp sz nx ads as rs, rfl, (pq_4 _ _ _ _ _ _ _ _ _ _ _), ⟨by decide, by decide, rfl, rfl⟩, fun r9 u hp => ⟨(kp, (z, tl), (a, r), (ta, tr), (sz, nx, as, rs), (wb, ub), (w, us), (wh, nu, ss), (a0, r0), (a1, r1)), ⟨hp, _, _, _, _, rfl⟩, (pq_4 _ _ _ _ _ _ _ _ _ _ _).symm⟩⟩, ?_, ?_⟩
      · exact ⟨_, _, [], _, _, _, _, mX8_count_9 l G ad zm fo s d pa ke ik fa te aw hB, rfl, pm_nil _, ⟨by decide, by decide, rfl, rfl⟩, fun r9 u hp => ⟨(zm, fo, s, d, pa, ke, ik, fa, te, aw), ⟨hp.trans (by rw [hP.1]), _, hA, rfl⟩, (pm_nil _).symm⟩⟩
      · exact rel_of (hR)
  · skip
    refine ⟨-1, pcs kp z tl a r ta tr sz nx as rs wh nu ss a0 r0 a1 r1, pms zm fo s d pa ke ik fa te, ⟨_, _, _, _, _, _, _, mX7_count_bad l G (ca 0) (ca 1) (ca 2) (ca 3) (ca 4) (ca 5 0) (ca 7) (ca 8) (ca 9) (ca 10) kp v1 hv, rfl, (pq_n _ _ _ _ _ _ _ _ _ _ _), ⟨by decide, by decide, rfl, rfl⟩, fun r9 u hp => ⟨(kp, (z, tl), (a, r), (ta, tr), (sz, nx, as, rs), (wb, ub), (w, us), (wh, nu, ss), (a0, r0), (a1, r1)), ⟨hp, _, _, _, _, rfl⟩, (pq_n _ _ _ _ _ _ _ _ _ _ _).symm⟩⟩, ?_, ?_⟩
    · exact ⟨_, _, [], _, _, _, _, mX8_count_bad l G ad zm fo s d pa ke ik fa te aw v1 hv, rfl, pm_nil _, ⟨by decide, by decide, rfl, rfl⟩, fun r9 u hp => ⟨(zm, fo, s, d, pa, ke, ik, fa, te, aw), ⟨hp, _, hA, rfl⟩, (pm_nil _).symm⟩⟩
    · exact rel_of (hR)
