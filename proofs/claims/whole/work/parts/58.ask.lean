/-! each call on both objects: what is asked -/
theorem bI_nI (b : Bool) : nI (if b then 1 else 0) = bI b := by cases b <;> rfl
theorem rx_o (te z : Nat → Nat) (d : Nat → Int32) {j : Nat} (hj : j < 11 ∨ 13 < j) : (rxA te z d).2.2.2.2.1 j = z j := by
  unfold rxA
  rw [rdM_o te hj]
  show va_up (va_up (va_up (va_up z 12 0) 11 _) 12 _) 13 _ j = z j
  rw [va_up_ne _ _ (by omega), va_up_ne _ _ (by omega), va_up_ne _ _ (by omega), va_up_ne _ _ (by omega)]
theorem XB.w {z tl : Nat → Nat} (h : XB z tl) : XB (va_up (va_up z 3 0) 6 0) tl := by
  obtain ⟨x1, x2, x3, x4, x5, x6, x7⟩ := h
  exact ⟨x1, x2, Nat.zero_le _, x4, x5, Nat.zero_le _, x7⟩
def dnF (a : Nat → Nat) (r : Nat → Nat → Nat) (j : Nat) : Nat := if j = 0 then a 0 else if j = 1 then a 3 else if j = 2 then a 1 else if j = 3 then a 2 else if j < 16 then 0 else if j < 28 then (if j - 16 < a 3 then r 0 (j - 16) else 0) else if j < 40 then (if j - 28 < a 3 then r 1 (j - 28) else 0) else (if j - 40 < a 3 then r 2 (j - 40) else 0)
theorem dnF_z (a : Nat → Nat) (r : Nat → Nat → Nat) {j : Nat} (h1 : 4 ≤ j) (h2 : j < 16) : dnF a r j = 0 := by
  unfold dnF
  rw [if_neg (by omega), if_neg (by omega), if_neg (by omega), if_neg (by omega), if_pos h2]
theorem dnF_f (a : Nat → Nat) (r : Nat → Nat → Nat) {k : Nat} (hk : k < 12) : dnF a r (16 + k) = if k < a 3 then r 0 k else 0 := by
  unfold dnF
  rw [if_neg (by omega), if_neg (by omega), if_neg (by omega), if_neg (by omega), if_neg (by omega), if_pos (by omega), show 16 + k - 16 = k by omega]
theorem dnF_g (a : Nat → Nat) (r : Nat → Nat → Nat) {k : Nat} (hk : k < 12) : dnF a r (28 + k) = if k < a 3 then r 1 k else 0 := by
  unfold dnF
  rw [if_neg (by omega), if_neg (by omega), if_neg (by omega), if_neg (by omega), if_neg (by omega), if_neg (by omega), if_pos (by omega), show 28 + k - 28 = k by omega]
theorem dnF_c (a : Nat → Nat) (r : Nat → Nat → Nat) {k : Nat} : dnF a r (40 + k) = if k < a 3 then r 2 k else 0 := by
  unfold dnF
  rw [if_neg (by omega), if_neg (by omega), if_neg (by omega), if_neg (by omega), if_neg (by omega), if_neg (by omega), if_neg (by omega), show 40 + k - 40 = k by omega]
theorem dnF_d {a : Nat → Nat} {r : Nat → Nat → Nat} {d : Nat → Int32} (h : DR a r d) : ∀ j, j < 52 → d j = nI (dnF a r j) := by
  obtain ⟨d0, d1, d2, d3, d4, d5, d6⟩ := h
  intro j hj
  have key : ∀ k, k < 12 → d (16 + k) = nI (dnF a r (16 + k)) ∧ d (28 + k) = nI (dnF a r (28 + k)) ∧ d (40 + k) = nI (dnF a r (40 + k)) := by
    intro k hk
    rw [dnF_f a r hk, dnF_g a r hk, dnF_c a r]
    by_cases e : k < a 3
    · rw [if_pos e, if_pos e, if_pos e]; exact d5 k e
    · rw [if_neg e, if_neg e, if_neg e]; exact d6 k (by omega) hk
  by_cases e0 : j = 0
  · rw [e0]; exact d0
  by_cases e1 : j = 1
  · rw [e1]; exact d1
  by_cases e2 : j = 2
  · rw [e2]; exact d2
  by_cases e3 : j = 3
  · rw [e3]; exact d3
  by_cases e4 : j < 16
  · rw [dnF_z a r (by omega) e4]; exact d4 j (by omega) e4
  by_cases e5 : j < 28
  · have := (key (j - 16) (by omega)).1
    rw [show 16 + (j - 16) = j by omega] at this
    exact this
  by_cases e6 : j < 40
  · have := (key (j - 28) (by omega)).2.1
    rw [show 28 + (j - 28) = j by omega] at this
    exact this
  · have := (key (j - 40) (by omega)).2.2
    rw [show 40 + (j - 40) = j by omega] at this
    exact this
theorem told_ok {a : Nat → Nat} {r : Nat → Nat → Nat} {s : Nat → Nat} {i : Nat} (hT : TB a r) (hg : GI a r i) (hB : SB s) : TR a r (cdP s (dnF a r) 52) := by
  obtain ⟨g1, g2, g3, g4, g5, g6⟩ := hg
  have hL := hT.2.2.2.2.1
  have ei : ∀ j, j < 52 → cdP s (dnF a r) 52 j = dnF a r j := fun j hj => by unfold cdP; rw [if_pos hj]
  have eo : ∀ j, 52 ≤ j → cdP s (dnF a r) 52 j = s j := fun j hj => by unfold cdP; rw [if_neg (by omega)]
  have hm : dnF a r 4 = 0 ∧ dnF a r 5 = 0 ∧ dnF a r 6 = 0 ∧ dnF a r 7 = 0 := ⟨rfl, rfl, rfl, rfl⟩
  have hf : ∀ k, k < 12 → dnF a r (16 + k) < 7 ∧ dnF a r (28 + k) < 7 ∧ dnF a r (40 + k) < 10 := by
    intro k hk
    rw [dnF_f a r hk, dnF_g a r hk, dnF_c a r]
    have h5 := hT.2.2.2.2.2.1 k
    have h6 := hT.2.2.2.2.2.2.1 k
    have h7 := hT.2.2.2.2.2.2.2.1 k
    split <;> omega
  refine ⟨⟨hT, ⟨hT.2.2.2.2.2.1, hT.2.2.2.2.2.2.1, hL, hT.1, hT.2.1, hT.2.2.1, g1⟩, ?_, ?_, ?_, ?_, ?_⟩, ⟨?_, ?_, ?_, ?_, ?_⟩, ?_, ?_, ?_⟩
  · rw [g4]; exact Gw.z _ _ _ _
  · intro k hk; rw [g4] at hk; exact (zb hk).elim
  · intro v hv; rw [g3] at hv; exact (zb hv).elim
  · intro i j hi; rw [g6] at hi; exact absurd hi (Nat.not_lt_zero _)
  · intro i hi; rw [g6] at hi; exact absurd hi (Nat.not_lt_zero _)
  · rw [ei 0 (by omega), ei 1 (by omega), ei 2 (by omega), ei 3 (by omega), ei 4 (by omega), ei 5 (by omega), ei 6 (by omega), ei 7 (by omega), hm.1, hm.2.1, hm.2.2.1, hm.2.2.2]
    exact ⟨hT.1, hT.2.1, hT.2.2.1, hT.2.2.2.1, hT.2.2.2.2.1, by decide, by decide, by decide, by decide⟩
  · intro j hj
    rcases Nat.lt_or_ge j 52 with h9 | h9
    · rw [ei j h9]
      rcases Nat.lt_or_ge j 16 with h1 | h1
      · rw [dnF_z a r (by omega) h1]; omega
      · rcases Nat.lt_or_ge j 28 with h2 | h2
        · have := (hf (j - 16) (by omega)).1
          rw [show 16 + (j - 16) = j by omega] at this
          omega
        · rcases Nat.lt_or_ge j 40 with h3 | h3
          · have := (hf (j - 28) (by omega)).2.1
            rw [show 28 + (j - 28) = j by omega] at this
            omega
          · have := (hf (j - 40) (by omega)).2.2
            rw [show 40 + (j - 40) = j by omega] at this
            exact this
    · rw [eo j h9]; exact hB.2.1 j hj
  · intro j hj; rw [ei _ (by omega)]; exact (hf j hj).1
  · intro j hj; rw [ei _ (by omega)]; exact (hf j hj).2.1
  · intro j hj; rw [ei _ (by omega), dnF_z a r (by omega) (by omega)]; omega
  · rw [ei 0 (by omega), ei 1 (by omega), ei 2 (by omega), ei 3 (by omega), ei 4 (by omega), ei 5 (by omega), ei 6 (by omega), ei 7 (by omega), hm.1, hm.2.1, hm.2.2.1, hm.2.2.2]
    exact ⟨rfl, rfl, rfl, rfl, g3.symm, g4.symm, g5.symm, g6.symm⟩
  · intro k hk
    have hk12 : k < 12 := by omega
    refine ⟨?_, ?_, ?_⟩
    · show cdP s (dnF a r) 52 (16 + k) = _
      rw [ei _ (by omega), dnF_f a r hk12, if_pos hk]
    · show cdP s (dnF a r) 52 (28 + k) = _
      rw [ei _ (by omega), dnF_g a r hk12, if_pos hk]
    · show cdP s (dnF a r) 52 (40 + k) = _
      rw [ei _ (by omega), dnF_c a r, if_pos hk]
  · intro k hk; rw [g6] at hk; exact absurd hk (Nat.not_lt_zero _)
set_option maxHeartbeats 4000000 in
set_option maxRecDepth 100000 in
theorem j_link (l : Launch) (G : GG) (v1 v2 : Int32) : JS l G RTT yX7_link cX7_link 3 yX8_link cX8_link 3 [.int v1, .int v2] := by
  intro ca ads ad x y hR
  obtain ⟨kp, ⟨z, tl⟩, ⟨a, r⟩, ⟨ta, tr⟩, ⟨sz, nx, as, rs⟩, ⟨wb, ub⟩, ⟨w, us⟩, ⟨wh, nu, ss⟩, ⟨a0, r0⟩, a1, r1⟩ := x
  obtain ⟨zm, fo, s, d, pa, ke, ik, fa, te, aw⟩ := y
  obtain ⟨hR, hA⟩ := hR
  have hA : ∀ j, aw j ≤ 1000000 := hA
  have hR : RLx kp z tl a r tr sz nx as rs wh nu ss a0 r0 a1 r1 zm s pa ke ik fa te := hR
  obtain ⟨hX, hT, hD, hP, hS, hI⟩ := id hR
  obtain ⟨hx1, hx2, hx3⟩ := id hX
  obtain ⟨e0, e1, e2, e3, e4, e5, e6, e7⟩ := hT.2.2.1
  have hW := hT.1
  have hTB := hT.1.1
  have hB := hT.2.1
  by_cases hv : 0 ≤ v1.toInt ∧ v1.toInt < a 3
  · obtain ⟨k, rfl, hk31, hki⟩ := asN hv.1
    have hk : k < a 3 := by have := hv.2; omega
    have hk2 : k < s 1 := by rw [e1]; exact hk
    have hag := hT.2.2.2.1 k hk
    by_cases hw : 0 ≤ v2.toInt ∧ v2.toInt ≤ 5
    · obtain ⟨y, rfl, hy31, hyi⟩ := asN hw.1
      have hy : y = 0 ∨ y = 1 ∨ y = 2 ∨ y = 3 ∨ y = 4 ∨ y = 5 := by have := hw.2; omega
      rcases hy with rfl | rfl | rfl | rfl | rfl | rfl
      · skip
        refine ⟨nI (r 0 k), pcs kp z tl a r ta tr sz nx as rs wh nu ss a0 r0 a1 r1, pms zm fo s d pa ke ik fa te, ⟨_, _, _, _, _, _, _, mX7_link_0 l G (ca 0) (ca 1) (ca 2) (ca 3) (ca 4) (ca 5 0) (ca 7) (ca 8) (ca 9) (ca 10) kp a r k hTB hk, rfl, (pq_2 _ _ _ _ _ _ _ _ _ _ _), ⟨by decide, by decide, rfl, rfl⟩, fun r9 u hp => ⟨(kp, (z, tl), (a, r), (ta, tr), (sz, nx, as, rs), (wb, ub), (w, us), (wh, nu, ss), (a0, r0), (a1, r1)), ⟨hp, _, _, _, _, rfl⟩, (pq_2 _ _ _ _ _ _ _ _ _ _ _).symm⟩⟩, ?_, ?_⟩
        · exact ⟨_, _, [], _, _, _, _, mX8_link_0 l G ad zm fo s d pa ke ik fa te aw k hB hk2, rfl, pm_nil _, ⟨by decide, by decide, rfl, rfl⟩, fun r9 u hp => ⟨(zm, fo, s, d, pa, ke, ik, fa, te, aw), ⟨hp.trans (by rw [hag.1]), _, hA, rfl⟩, (pm_nil _).symm⟩⟩
        · exact rel_of (hR)
      · skip
        refine ⟨nI (r 1 k), pcs kp z tl a r ta tr sz nx as rs wh nu ss a0 r0 a1 r1, pms zm fo s d pa ke ik fa te, ⟨_, _, _, _, _, _, _, mX7_link_1 l G (ca 0) (ca 1) (ca 2) (ca 3) (ca 4) (ca 5 0) (ca 7) (ca 8) (ca 9) (ca 10) kp a r k hTB hk, rfl, (pq_2 _ _ _ _ _ _ _ _ _ _ _), ⟨by decide, by decide, rfl, rfl⟩, fun r9 u hp => ⟨(kp, (z, tl), (a, r), (ta, tr), (sz, nx, as, rs), (wb, ub), (w, us), (wh, nu, ss), (a0, r0), (a1, r1)), ⟨hp, _, _, _, _, rfl⟩, (pq_2 _ _ _ _ _ _ _ _ _ _ _).symm⟩⟩, ?_, ?_⟩
        · exact ⟨_, _, [], _, _, _, _, mX8_link_1 l G ad zm fo s d pa ke ik fa te aw k hB hk2, rfl, pm_nil _, ⟨by decide, by decide, rfl, rfl⟩, fun r9 u hp => ⟨(zm, fo, s, d, pa, ke, ik, fa, te, aw), ⟨hp.trans (by rw [hag.2.1]), _, hA, rfl⟩, (pm_nil _).symm⟩⟩
        · exact rel_of (hR)
      · skip
        refine ⟨nI (r 2 k), pcs kp z tl a r ta tr sz nx as rs wh nu ss a0 r0 a1 r1, pms zm fo s d pa ke ik fa te, ⟨_, _, _, _, _, _, _, mX7_link_2 l G (ca 0) (ca 1) (ca 2) (ca 3) (ca 4) (ca 5 0) (ca 7) (ca 8) (ca 9) (ca 10) kp a r k hTB hk, rfl, (pq_2 _ _ _ _ _ _ _ _ _ _ _), ⟨by decide, by decide, rfl, rfl⟩, fun r9 u hp => ⟨(kp, (z, tl), (a, r), (ta, tr), (sz, nx, as, rs), (wb, ub), (w, us), (wh, nu, ss), (a0, r0), (a1, r1)), ⟨hp, _, _, _, _, rfl⟩, (pq_2 _ _ _ _ _ _ _ _ _ _ _).symm⟩⟩, ?_, ?_⟩
        · exact ⟨_, _, [], _, _, _, _, mX8_link_2 l G ad zm fo s d pa ke ik fa te aw k hB hk2, rfl, pm_nil _, ⟨by decide, by decide, rfl, rfl⟩, fun r9 u hp => ⟨(zm, fo, s, d, pa, ke, ik, fa, te, aw), ⟨hp.trans (by rw [hag.2.2]), _, hA, rfl⟩, (pm_nil _).symm⟩⟩
        · exact rel_of (hR)
      · skip
        refine ⟨bI ((a 8).testBit k), pcs kp z tl a r ta tr sz nx as rs wh nu ss a0 r0 a1 r1, pms zm fo s d pa ke ik fa te, ⟨_, _, _, _, _, _, _, mX7_link_3 l G (ca 0) (ca 1) (ca 2) (ca 3) (ca 4) (ca 5 0) (ca 7) (ca 8) (ca 9) (ca 10) kp a r k hTB hk, rfl, (pq_2 _ _ _ _ _ _ _ _ _ _ _), ⟨by decide, by decide, rfl, rfl⟩, fun r9 u hp => ⟨(kp, (z, tl), (a, r), (ta, tr), (sz, nx, as, rs), (wb, ub), (w, us), (wh, nu, ss), (a0, r0), (a1, r1)), ⟨hp, _, _, _, _, rfl⟩, (pq_2 _ _ _ _ _ _ _ _ _ _ _).symm⟩⟩, ?_, ?_⟩
        · exact ⟨_, _, [], _, _, _, _, mX8_link_3 l G ad zm fo s d pa ke ik fa te aw k hB hk2, rfl, pm_nil _, ⟨by decide, by decide, rfl, rfl⟩, fun r9 u hp => ⟨(zm, fo, s, d, pa, ke, ik, fa, te, aw), ⟨hp.trans (by rw [e5]; exact bI_nI _), _, hA, rfl⟩, (pm_nil _).symm⟩⟩
        · exact rel_of (hR)
      · skip
        refine ⟨bI ((a 9).testBit k), pcs kp z tl a r ta tr sz nx as rs wh nu ss a0 r0 a1 r1, pms zm fo s d pa ke ik fa te, ⟨_, _, _, _, _, _, _, mX7_link_4 l G (ca 0) (ca 1) (ca 2) (ca 3) (ca 4) (ca 5 0) (ca 7) (ca 8) (ca 9) (ca 10) kp a r k hTB hk, rfl, (pq_2 _ _ _ _ _ _ _ _ _ _ _), ⟨by decide, by decide, rfl, rfl⟩, fun r9 u hp => ⟨(kp, (z, tl), (a, r), (ta, tr), (sz, nx, as, rs), (wb, ub), (w, us), (wh, nu, ss), (a0, r0), (a1, r1)), ⟨hp, _, _, _, _, rfl⟩, (pq_2 _ _ _ _ _ _ _ _ _ _ _).symm⟩⟩, ?_, ?_⟩
        · exact ⟨_, _, [], _, _, _, _, mX8_link_4 l G ad zm fo s d pa ke ik fa te aw k hB hk2, rfl, pm_nil _, ⟨by decide, by decide, rfl, rfl⟩, fun r9 u hp => ⟨(zm, fo, s, d, pa, ke, ik, fa, te, aw), ⟨hp.trans (by rw [e6]; exact bI_nI _), _, hA, rfl⟩, (pm_nil _).symm⟩⟩
        · exact rel_of (hR)
      · skip
        refine ⟨nI (ldN (r 0) (r 1) (a 0) (a 1) (a 3) (a 7) (a 8) k), pcs kp z tl a r ta tr sz nx as rs wh nu ss a0 r0 a1 r1, pms zm fo s d pa ke ik fa te, ⟨_, _, _, _, _, _, _, mX7_link_5 l G (ca 0) (ca 1) (ca 2) (ca 3) (ca 4) (ca 5 0) (ca 7) (ca 8) (ca 9) (ca 10) kp a r k hTB hk, rfl, (pq_2 _ _ _ _ _ _ _ _ _ _ _), ⟨by decide, by decide, rfl, rfl⟩, fun r9 u hp => ⟨(kp, (z, tl), (a, r), (ta, tr), (sz, nx, as, rs), (wb, ub), (w, us), (wh, nu, ss), (a0, r0), (a1, r1)), ⟨hp, _, _, _, _, rfl⟩, (pq_2 _ _ _ _ _ _ _ _ _ _ _).symm⟩⟩, ?_, ?_⟩
        · exact ⟨_, _, [], _, _, _, _, mX8_link_5 l G ad zm fo s d pa ke ik fa te aw k hB hk2, rfl, pm_nil _, ⟨by decide, by decide, rfl, rfl⟩, fun r9 u hp => ⟨(zm, fo, s, d, pa, ke, ik, fa, te, aw), ⟨hp.trans (by rw [← hT.ld]), _, hA, rfl⟩, (pm_nil _).symm⟩⟩
        · exact rel_of (hR)
    · skip
      refine ⟨-1, pcs kp z tl a r ta tr sz nx as rs wh nu ss a0 r0 a1 r1, pms zm fo s d pa ke ik fa te, ⟨_, _, _, _, _, _, _, mX7_link_badw l G (ca 0) (ca 1) (ca 2) (ca 3) (ca 4) (ca 5 0) (ca 7) (ca 8) (ca 9) (ca 10) kp a r k v2 hTB hk hw, rfl, (pq_2 _ _ _ _ _ _ _ _ _ _ _), ⟨by decide, by decide, rfl, rfl⟩, fun r9 u hp => ⟨(kp, (z, tl), (a, r), (ta, tr), (sz, nx, as, rs), (wb, ub), (w, us), (wh, nu, ss), (a0, r0), (a1, r1)), ⟨hp, _, _, _, _, rfl⟩, (pq_2 _ _ _ _ _ _ _ _ _ _ _).symm⟩⟩, ?_, ?_⟩
      · exact ⟨_, _, [], _, _, _, _, mX8_link_badw l G ad zm fo s d pa ke ik fa te aw k v2 hB hk2 hw, rfl, pm_nil _, ⟨by decide, by decide, rfl, rfl⟩, fun r9 u hp => ⟨(zm, fo, s, d, pa, ke, ik, fa, te, aw), ⟨hp, _, hA, rfl⟩, (pm_nil _).symm⟩⟩
      · exact rel_of (hR)
  · skip
    refine ⟨-1, pcs kp z tl a r ta tr sz nx as rs wh nu ss a0 r0 a1 r1, pms zm fo s d pa ke ik fa te, ⟨_, _, _, _, _, _, _, mX7_link_bad l G (ca 0) (ca 1) (ca 2) (ca 3) (ca 4) (ca 5 0) (ca 7) (ca 8) (ca 9) (ca 10) kp a r v1 v2 hTB hv, rfl, (pq_2 _ _ _ _ _ _ _ _ _ _ _), ⟨by decide, by decide, rfl, rfl⟩, fun r9 u hp => ⟨(kp, (z, tl), (a, r), (ta, tr), (sz, nx, as, rs), (wb, ub), (w, us), (wh, nu, ss), (a0, r0), (a1, r1)), ⟨hp, _, _, _, _, rfl⟩, (pq_2 _ _ _ _ _ _ _ _ _ _ _).symm⟩⟩, ?_, ?_⟩
    · exact ⟨_, _, [], _, _, _, _, mX8_link_bad l G ad zm fo s d pa ke ik fa te aw v1 v2 hB (by rw [e1]; exact hv), rfl, pm_nil _, ⟨by decide, by decide, rfl, rfl⟩, fun r9 u hp => ⟨(zm, fo, s, d, pa, ke, ik, fa, te, aw), ⟨hp, _, hA, rfl⟩, (pm_nil _).symm⟩⟩
    · exact rel_of (hR)
set_option maxHeartbeats 4000000 in
set_option maxRecDepth 100000 in
theorem j_node (l : Launch) (G : GG) (v1 v2 : Int32) : JS l G RTT yX7_node cX7_node 3 yX8_node cX8_node 3 [.int v1, .int v2] := by
  intro ca ads ad x y hR
  obtain ⟨kp, ⟨z, tl⟩, ⟨a, r⟩, ⟨ta, tr⟩, ⟨sz, nx, as, rs⟩, ⟨wb, ub⟩, ⟨w, us⟩, ⟨wh, nu, ss⟩, ⟨a0, r0⟩, a1, r1⟩ := x
  obtain ⟨zm, fo, s, d, pa, ke, ik, fa, te, aw⟩ := y
  obtain ⟨hR, hA⟩ := hR
  have hA : ∀ j, aw j ≤ 1000000 := hA
  have hR : RLx kp z tl a r tr sz nx as rs wh nu ss a0 r0 a1 r1 zm s pa ke ik fa te := hR
  obtain ⟨hX, hT, hD, hP, hS, hI⟩ := id hR
  obtain ⟨hx1, hx2, hx3⟩ := id hX
  obtain ⟨e0, e1, e2, e3, e4, e5, e6, e7⟩ := hT.2.2.1
  have hW := hT.1
  have hTB := hT.1.1
  have hB := hT.2.1
  by_cases hv9 : 0 ≤ v1.toInt ∧ v1.toInt < a 0
  · obtain ⟨v, rfl, hv31, hvi⟩ := asN hv9.1
    have hv : v < a 0 := by have := hv9.2; omega
    have hv2 : v < s 0 := by rw [e0]; exact hv
    have hM : ∀ j, ME s aw j ≤ 1000000 := mesN_le hA
    by_cases hw : 0 ≤ v2.toInt ∧ v2.toInt ≤ 6
    · obtain ⟨y, rfl, hy31, hyi⟩ := asN hw.1
      have hy : y = 0 ∨ y = 1 ∨ y = 2 ∨ y = 3 ∨ y = 4 ∨ y = 5 ∨ y = 6 := by have := hw.2; omega
      rcases hy with rfl | rfl | rfl | rfl | rfl | rfl | rfl
      · skip
        refine ⟨nI (roN a v), pcs kp z tl a r ta tr sz nx as rs wh nu ss a0 r0 a1 r1, pms zm fo s d pa ke ik fa te, ⟨_, _, _, _, _, _, _, mX7_node_0 l G (ca 0) (ca 1) (ca 2) (ca 3) (ca 4) (ca 5 0) (ca 7) (ca 8) (ca 9) (ca 10) kp a r v hTB hv, rfl, (pq_2 _ _ _ _ _ _ _ _ _ _ _), ⟨by decide, by decide, rfl, rfl⟩, fun r9 u hp => ⟨(kp, (z, tl), (a, r), (ta, tr), (sz, nx, as, rs), (wb, ub), (w, us), (wh, nu, ss), (a0, r0), (a1, r1)), ⟨hp, _, _, _, _, rfl⟩, (pq_2 _ _ _ _ _ _ _ _ _ _ _).symm⟩⟩, ?_, ?_⟩
        · exact ⟨_, _, [], _, _, _, _, mX8_node_0 l G ad zm fo s d pa ke ik fa te aw v hB hA hv2, rfl, pm_nil _, ⟨by decide, by decide, rfl, rfl⟩, fun r9 u hp => ⟨(zm, fo, s, d, pa, ke, ik, fa, te, ME s aw), ⟨hp.trans (by rw [e2, e4]; rfl), _, hM, rfl⟩, (pm_nil _).symm⟩⟩
        · exact rel_of (hR)
      · skip
        refine ⟨bI ((noA a r (a 8)).testBit v), pcs kp z tl a r ta tr sz nx as rs wh nu ss a0 r0 a1 r1, pms zm fo s d pa ke ik fa te, ⟨_, _, _, _, _, _, _, mX7_node_1 l G (ca 0) (ca 1) (ca 2) (ca 3) (ca 4) (ca 5 0) (ca 7) (ca 8) (ca 9) (ca 10) kp a r v hTB hv, rfl, (pq_2 _ _ _ _ _ _ _ _ _ _ _), ⟨by decide, by decide, rfl, rfl⟩, fun r9 u hp => ⟨(kp, (z, tl), (a, r), (ta, tr), (sz, nx, as, rs), (wb, ub), (w, us), (wh, nu, ss), (a0, r0), (a1, r1)), ⟨hp, _, _, _, _, rfl⟩, (pq_2 _ _ _ _ _ _ _ _ _ _ _).symm⟩⟩, ?_, ?_⟩
        · exact ⟨_, _, [], _, _, _, _, mX8_node_1 l G ad zm fo s d pa ke ik fa te aw v hB hA hv2, rfl, pm_nil _, ⟨by decide, by decide, rfl, rfl⟩, fun r9 u hp => ⟨(zm, fo, s, d, pa, ke, ik, fa, te, ME s aw), ⟨hp.trans (by rw [hT.kc, e5, no_eq hW.2.1 hW.2.2.1]; exact bI_nI _), _, hM, rfl⟩, (pm_nil _).symm⟩⟩
        · exact rel_of (hR)
      · skip
        refine ⟨oN (farO a r v), pcs kp z tl a r ta tr sz nx as rs wh nu ss a0 r0 a1 r1, pms zm fo s d pa ke ik fa te, ⟨_, _, _, _, _, _, _, mX7_node_2 l G (ca 0) (ca 1) (ca 2) (ca 3) (ca 4) (ca 5 0) (ca 7) (ca 8) (ca 9) (ca 10) kp a r w us v hTB hv, rfl, (pq_2_7 _ _ _ _ _ _ _ _ _ _ _), ⟨by decide, by decide, rfl, rfl⟩, fun r9 u hp => ⟨(kp, (z, tl), (a, r), (ta, tr), (sz, nx, as, rs), (wb, ub), (u.1, u.2), (wh, nu, ss), (a0, r0), (a1, r1)), ⟨hp, _, _, _, _, rfl⟩, (pq_2_7 _ _ _ _ _ _ _ _ _ _ _).symm⟩⟩, ?_, ?_⟩
        · exact ⟨_, _, [], _, _, _, _, mX8_node_2 l G ad zm fo s d pa ke ik fa te aw v hB hA hv2, rfl, pm_nil _, ⟨by decide, by decide, rfl, rfl⟩, fun r9 u hp => ⟨(zm, fo, s, d, pa, ke, ik, fa, te, ME s aw), ⟨hp.trans (by rw [hT.far hv]), _, hM, rfl⟩, (pm_nil _).symm⟩⟩
        · exact rel_of (hR)
      · skip
        refine ⟨oN (cfr (wtA a r (a 8)) v), pcs kp z tl a r ta tr sz nx as rs wh nu ss a0 r0 a1 r1, pms zm fo s d pa ke ik fa te, ⟨_, _, _, _, _, _, _, mX7_node_3 l G (ca 0) (ca 1) (ca 2) (ca 3) (ca 4) (ca 5 0) (ca 7) (ca 8) (ca 9) (ca 10) kp a r w us v hTB hv, rfl, (pq_2_7 _ _ _ _ _ _ _ _ _ _ _), ⟨by decide, by decide, rfl, rfl⟩, fun r9 u hp => ⟨(kp, (z, tl), (a, r), (ta, tr), (sz, nx, as, rs), (wb, ub), (u.1, u.2), (wh, nu, ss), (a0, r0), (a1, r1)), ⟨hp, _, _, _, _, rfl⟩, (pq_2_7 _ _ _ _ _ _ _ _ _ _ _).symm⟩⟩, ?_, ?_⟩
        · exact ⟨_, _, [], _, _, _, _, mX8_node_3 l G ad zm fo s d pa ke ik fa te aw v hB hA hv2, rfl, pm_nil _, ⟨by decide, by decide, rfl, rfl⟩, fun r9 u hp => ⟨(zm, fo, s, d, pa, ke, ik, fa, te, ME s aw), ⟨hp.trans (by rw [hT.cf aw hv nI_00]), _, hM, rfl⟩, (pm_nil _).symm⟩⟩
        · exact rel_of (hR)
      · skip
        refine ⟨oN (sfr (wtA a r (a 8)) v), pcs kp z tl a r ta tr sz nx as rs wh nu ss a0 r0 a1 r1, pms zm fo s d pa ke ik fa te, ⟨_, _, _, _, _, _, _, mX7_node_4 l G (ca 0) (ca 1) (ca 2) (ca 3) (ca 4) (ca 5 0) (ca 7) (ca 8) (ca 9) (ca 10) kp a r w us v hTB hv, rfl, (pq_2_7 _ _ _ _ _ _ _ _ _ _ _), ⟨by decide, by decide, rfl, rfl⟩, fun r9 u hp => ⟨(kp, (z, tl), (a, r), (ta, tr), (sz, nx, as, rs), (wb, ub), (u.1, u.2), (wh, nu, ss), (a0, r0), (a1, r1)), ⟨hp, _, _, _, _, rfl⟩, (pq_2_7 _ _ _ _ _ _ _ _ _ _ _).symm⟩⟩, ?_, ?_⟩
        · exact ⟨_, _, [], _, _, _, _, mX8_node_4 l G ad zm fo s d pa ke ik fa te aw v hB hA hv2, rfl, pm_nil _, ⟨by decide, by decide, rfl, rfl⟩, fun r9 u hp => ⟨(zm, fo, s, d, pa, ke, ik, fa, te, ME s aw), ⟨hp.trans (by rw [hT.sfs aw hv nI_10]), _, hM, rfl⟩, (pm_nil _).symm⟩⟩
        · exact rel_of (hR)
      · skip
        refine ⟨oN (mkF (r 3) v (a 10)), pcs kp z tl a r ta tr sz nx as rs wh nu ss a0 r0 a1 r1, pms zm fo s d pa ke ik fa te, ⟨_, _, _, _, _, _, _, mX7_node_5 l G (ca 0) (ca 1) (ca 2) (ca 3) (ca 4) (ca 5 0) (ca 7) (ca 8) (ca 9) (ca 10) kp a r v hTB hv, rfl, (pq_2 _ _ _ _ _ _ _ _ _ _ _), ⟨by decide, by decide, rfl, rfl⟩, fun r9 u hp => ⟨(kp, (z, tl), (a, r), (ta, tr), (sz, nx, as, rs), (wb, ub), (w, us), (wh, nu, ss), (a0, r0), (a1, r1)), ⟨hp, _, _, _, _, rfl⟩, (pq_2 _ _ _ _ _ _ _ _ _ _ _).symm⟩⟩, ?_, ?_⟩
        · exact ⟨_, _, [], _, _, _, _, mX8_node_5 l G ad zm fo s d pa ke ik fa te aw v hB hA hv2, rfl, pm_nil _, ⟨by decide, by decide, rfl, rfl⟩, fun r9 u hp => ⟨(zm, fo, s, d, pa, ke, ik, fa, te, ME s aw), ⟨hp.trans (by rw [hT.mkm]), _, hM, rfl⟩, (pm_nil _).symm⟩⟩
        · exact rel_of (hR)
      · skip
        refine ⟨nI (bts (lkA (r 0) (r 1) v (a 3) &&& a 8) 12), pcs kp z tl a r ta tr sz nx as rs wh nu ss a0 r0 a1 r1, pms zm fo s d pa ke ik fa te, ⟨_, _, _, _, _, _, _, mX7_node_6 l G (ca 0) (ca 1) (ca 2) (ca 3) (ca 4) (ca 5 0) (ca 7) (ca 8) (ca 9) (ca 10) kp a r v hTB hv, rfl, (pq_2 _ _ _ _ _ _ _ _ _ _ _), ⟨by decide, by decide, rfl, rfl⟩, fun r9 u hp => ⟨(kp, (z, tl), (a, r), (ta, tr), (sz, nx, as, rs), (wb, ub), (w, us), (wh, nu, ss), (a0, r0), (a1, r1)), ⟨hp, _, _, _, _, rfl⟩, (pq_2 _ _ _ _ _ _ _ _ _ _ _).symm⟩⟩, ?_, ?_⟩
        · exact ⟨_, _, [], _, _, _, _, mX8_node_6 l G ad zm fo s d pa ke ik fa te aw v hB hA hv2, rfl, pm_nil _, ⟨by decide, by decide, rfl, rfl⟩, fun r9 u hp => ⟨(zm, fo, s, d, pa, ke, ik, fa, te, ME s aw), ⟨hp.trans (by rw [hT.la]), _, hM, rfl⟩, (pm_nil _).symm⟩⟩
        · exact rel_of (hR)
    · skip
      refine ⟨-1, pcs kp z tl a r ta tr sz nx as rs wh nu ss a0 r0 a1 r1, pms zm fo s d pa ke ik fa te, ⟨_, _, _, _, _, _, _, mX7_node_badw l G (ca 0) (ca 1) (ca 2) (ca 3) (ca 4) (ca 5 0) (ca 7) (ca 8) (ca 9) (ca 10) kp a r v v2 hTB hv hw, rfl, (pq_2 _ _ _ _ _ _ _ _ _ _ _), ⟨by decide, by decide, rfl, rfl⟩, fun r9 u hp => ⟨(kp, (z, tl), (a, r), (ta, tr), (sz, nx, as, rs), (wb, ub), (w, us), (wh, nu, ss), (a0, r0), (a1, r1)), ⟨hp, _, _, _, _, rfl⟩, (pq_2 _ _ _ _ _ _ _ _ _ _ _).symm⟩⟩, ?_, ?_⟩
      · exact ⟨_, _, [], _, _, _, _, mX8_node_badw l G ad zm fo s d pa ke ik fa te aw v v2 hB hv2 hw, rfl, pm_nil _, ⟨by decide, by decide, rfl, rfl⟩, fun r9 u hp => ⟨(zm, fo, s, d, pa, ke, ik, fa, te, aw), ⟨hp, _, hA, rfl⟩, (pm_nil _).symm⟩⟩
      · exact rel_of (hR)
  · skip
    refine ⟨-1, pcs kp z tl a r ta tr sz nx as rs wh nu ss a0 r0 a1 r1, pms zm fo s d pa ke ik fa te, ⟨_, _, _, _, _, _, _, mX7_node_bad l G (ca 0) (ca 1) (ca 2) (ca 3) (ca 4) (ca 5 0) (ca 7) (ca 8) (ca 9) (ca 10) kp a r v1 v2 hTB hv9, rfl, (pq_2 _ _ _ _ _ _ _ _ _ _ _), ⟨by decide, by decide, rfl, rfl⟩, fun r9 u hp => ⟨(kp, (z, tl), (a, r), (ta, tr), (sz, nx, as, rs), (wb, ub), (w, us), (wh, nu, ss), (a0, r0), (a1, r1)), ⟨hp, _, _, _, _, rfl⟩, (pq_2 _ _ _ _ _ _ _ _ _ _ _).symm⟩⟩, ?_, ?_⟩
    · exact ⟨_, _, [], _, _, _, _, mX8_node_bad l G ad zm fo s d pa ke ik fa te aw v1 v2 hB (by rw [e0]; exact hv9), rfl, pm_nil _, ⟨by decide, by decide, rfl, rfl⟩, fun r9 u hp => ⟨(zm, fo, s, d, pa, ke, ik, fa, te, aw), ⟨hp, _, hA, rfl⟩, (pm_nil _).symm⟩⟩
    · exact rel_of (hR)
set_option maxHeartbeats 4000000 in
set_option maxRecDepth 100000 in
theorem j_way (l : Launch) (G : GG) (v1 v2 : Int32) : JS l G RTT yX7_way cX7_way 3 yX8_way cX8_way 5 [.int v1, .int v2] := by
  intro ca ads ad x y hR
  obtain ⟨kp, ⟨z, tl⟩, ⟨a, r⟩, ⟨ta, tr⟩, ⟨sz, nx, as, rs⟩, ⟨wb, ub⟩, ⟨w, us⟩, ⟨wh, nu, ss⟩, ⟨a0, r0⟩, a1, r1⟩ := x
  obtain ⟨zm, fo, s, d, pa, ke, ik, fa, te, aw⟩ := y
  obtain ⟨hR, hA⟩ := hR
  have hA : ∀ j, aw j ≤ 1000000 := hA
  have hR : RLx kp z tl a r tr sz nx as rs wh nu ss a0 r0 a1 r1 zm s pa ke ik fa te := hR
  obtain ⟨hX, hT, hD, hP, hS, hI⟩ := id hR
  obtain ⟨hx1, hx2, hx3⟩ := id hX
  obtain ⟨e0, e1, e2, e3, e4, e5, e6, e7⟩ := hT.2.2.1
  have hW := hT.1
  have hTB := hT.1.1
  have hB := hT.2.1
  by_cases hv9 : 0 ≤ v1.toInt ∧ v1.toInt < a 0
  · obtain ⟨v, rfl, hv31, hvi⟩ := asN hv9.1
    have hv : v < a 0 := by have := hv9.2; omega
    have hv2 : v < s 0 := by rw [e0]; exact hv
    have hM : ∀ j, ME s aw j ≤ 1000000 := mesN_le hA
    by_cases hw : v2 < 0
    · skip
      refine ⟨-1, pcs kp z tl a r ta tr sz nx as rs wh nu ss a0 r0 a1 r1, pms zm fo s d pa ke ik fa te, ⟨_, _, _, _, _, _, _, mX7_way_badi l G (ca 0) (ca 1) (ca 2) (ca 3) (ca 4) (ca 5 0) (ca 7) (ca 8) (ca 9) (ca 10) kp a r v v2 hTB hv hw, rfl, (pq_2 _ _ _ _ _ _ _ _ _ _ _), ⟨by decide, by decide, rfl, rfl⟩, fun r9 u hp => ⟨(kp, (z, tl), (a, r), (ta, tr), (sz, nx, as, rs), (wb, ub), (w, us), (wh, nu, ss), (a0, r0), (a1, r1)), ⟨hp, _, _, _, _, rfl⟩, (pq_2 _ _ _ _ _ _ _ _ _ _ _).symm⟩⟩, ?_, ?_⟩
      · exact ⟨_, _, [], _, _, _, _, mX8_way_badw l G ad zm fo s d pa ke ik fa te aw v v2 hB hv2 hw, rfl, pm_nil _, ⟨by decide, by decide, rfl, rfl⟩, fun r9 u hp => ⟨(zm, fo, s, d, pa, ke, ik, fa, te, aw), ⟨hp, _, hA, rfl⟩, (pm_nil _).symm⟩⟩
      · exact rel_of (hR)
    · have hw0 : 0 ≤ v2.toInt := by have := Int32.not_lt.mp hw; simpa using Int32.le_iff_toInt_le.mp this
      obtain ⟨i, rfl, hi31, hii⟩ := asN hw0
      by_cases hno : 1000000 ≤ ME s aw v ∨ ME s aw v % 16 ≤ i
      · skip
        refine ⟨oN (if i < 7 then saN (r 0) (r 1) (r 2) (wtA a r (a 8)) (upA a) (a 3) i v (fsO (r 0) (r 1) (r 2) (wtA a r (a 8)) (upA a) (a 3) v) else none), pcs kp z tl a r ta tr sz nx as rs wh nu ss a0 r0 a1 r1, pms zm fo s d pa ke ik fa te, ⟨_, _, _, _, _, _, _, mX7_way_ok l G (ca 0) (ca 1) (ca 2) (ca 3) (ca 4) (ca 5 0) (ca 7) (ca 8) (ca 9) (ca 10) kp a r w us v i hTB hv hi31, rfl, (pq_2_7 _ _ _ _ _ _ _ _ _ _ _), ⟨by decide, by decide, rfl, rfl⟩, fun r9 u hp => ⟨(kp, (z, tl), (a, r), (ta, tr), (sz, nx, as, rs), (wb, ub), (u.1, u.2), (wh, nu, ss), (a0, r0), (a1, r1)), ⟨hp, _, _, _, _, rfl⟩, (pq_2_7 _ _ _ _ _ _ _ _ _ _ _).symm⟩⟩, ?_, ?_⟩
        · exact ⟨_, _, [], _, _, _, _, mX8_way_none l G ad zm fo s d pa ke ik fa te aw v i hB hA hv2 hi31 hno, rfl, pm_nil _, ⟨by decide, by decide, rfl, rfl⟩, fun r9 u hp => ⟨(zm, fo, s, d, pa, ke, ik, fa, te, ME s aw), ⟨hp.trans (by rw [hT.sto aw hv hno]; rfl), _, hM, rfl⟩, (pm_nil _).symm⟩⟩
        · exact rel_of (hR)
      · skip
        refine ⟨oN (if i < 7 then saN (r 0) (r 1) (r 2) (wtA a r (a 8)) (upA a) (a 3) i v (fsO (r 0) (r 1) (r 2) (wtA a r (a 8)) (upA a) (a 3) v) else none), pcs kp z tl a r ta tr sz nx as rs wh nu ss a0 r0 a1 r1, pms zm fo s d pa ke ik fa te, ⟨_, _, _, _, _, _, _, mX7_way_ok l G (ca 0) (ca 1) (ca 2) (ca 3) (ca 4) (ca 5 0) (ca 7) (ca 8) (ca 9) (ca 10) kp a r w us v i hTB hv hi31, rfl, (pq_2_7 _ _ _ _ _ _ _ _ _ _ _), ⟨by decide, by decide, rfl, rfl⟩, fun r9 u hp => ⟨(kp, (z, tl), (a, r), (ta, tr), (sz, nx, as, rs), (wb, ub), (u.1, u.2), (wh, nu, ss), (a0, r0), (a1, r1)), ⟨hp, _, _, _, _, rfl⟩, (pq_2_7 _ _ _ _ _ _ _ _ _ _ _).symm⟩⟩, ?_, ?_⟩
        · exact ⟨_, _, [], _, _, _, _, mX8_way_ok l G ad zm fo s d pa ke ik fa te aw v i hB hA hv2 hi31 (Nat.not_le.mp (fun h => hno (Or.inl h))) (Nat.not_le.mp (fun h => hno (Or.inr h))) (hT.wok aw) (hT.m6 aw), rfl, pm_nil _, ⟨by decide, by decide, rfl, rfl⟩, fun r9 u hp => ⟨(zm, fo, s, d, pa, ke, ik, fa, te, ME s aw), ⟨hp.trans (by rw [hT.stp aw hv (Nat.not_le.mp (fun h => hno (Or.inl h))) (Nat.not_le.mp (fun h => hno (Or.inr h)))]), _, hM, rfl⟩, (pm_nil _).symm⟩⟩
        · exact rel_of (hR)
  · skip
    refine ⟨-1, pcs kp z tl a r ta tr sz nx as rs wh nu ss a0 r0 a1 r1, pms zm fo s d pa ke ik fa te, ⟨_, _, _, _, _, _, _, mX7_way_bad l G (ca 0) (ca 1) (ca 2) (ca 3) (ca 4) (ca 5 0) (ca 7) (ca 8) (ca 9) (ca 10) kp a r v1 v2 hTB hv9, rfl, (pq_2 _ _ _ _ _ _ _ _ _ _ _), ⟨by decide, by decide, rfl, rfl⟩, fun r9 u hp => ⟨(kp, (z, tl), (a, r), (ta, tr), (sz, nx, as, rs), (wb, ub), (w, us), (wh, nu, ss), (a0, r0), (a1, r1)), ⟨hp, _, _, _, _, rfl⟩, (pq_2 _ _ _ _ _ _ _ _ _ _ _).symm⟩⟩, ?_, ?_⟩
    · exact ⟨_, _, [], _, _, _, _, mX8_way_bad l G ad zm fo s d pa ke ik fa te aw v1 v2 hB (by rw [e0]; exact hv9), rfl, pm_nil _, ⟨by decide, by decide, rfl, rfl⟩, fun r9 u hp => ⟨(zm, fo, s, d, pa, ke, ik, fa, te, aw), ⟨hp, _, hA, rfl⟩, (pm_nil _).symm⟩⟩
    · exact rel_of (hR)
set_option maxHeartbeats 4000000 in
set_option maxRecDepth 100000 in
theorem j_tree (l : Launch) (G : GG) (v1 : Int32) : JS l G RTT yX7_tree cX7_tree 2 yX8_tree cX8_tree 2 [.int v1] := by
  intro ca ads ad x y hR
  obtain ⟨kp, ⟨z, tl⟩, ⟨a, r⟩, ⟨ta, tr⟩, ⟨sz, nx, as, rs⟩, ⟨wb, ub⟩, ⟨w, us⟩, ⟨wh, nu, ss⟩, ⟨a0, r0⟩, a1, r1⟩ := x
  obtain ⟨zm, fo, s, d, pa, ke, ik, fa, te, aw⟩ := y
  obtain ⟨hR, hA⟩ := hR
  have hA : ∀ j, aw j ≤ 1000000 := hA
  have hR : RLx kp z tl a r tr sz nx as rs wh nu ss a0 r0 a1 r1 zm s pa ke ik fa te := hR
  obtain ⟨hX, hT, hD, hP, hS, hI⟩ := id hR
  obtain ⟨hx1, hx2, hx3⟩ := id hX
  obtain ⟨e0, e1, e2, e3, e4, e5, e6, e7⟩ := hT.2.2.1
  have hW := hT.1
  have hTB := hT.1.1
  have hB := hT.2.1
  by_cases hw : 0 ≤ v1.toInt ∧ v1.toInt ≤ 6
  · obtain ⟨y, rfl, hy31, hyi⟩ := asN hw.1
    have hy : y = 0 ∨ y = 1 ∨ y = 2 ∨ y = 3 ∨ y = 4 ∨ y = 5 ∨ y = 6 := by have := hw.2; omega
    rcases hy with rfl | rfl | rfl | rfl | rfl | rfl | rfl
    · skip
      refine ⟨nI (coA a r (a 8)), pcs kp z tl a r ta tr sz nx as rs wh nu ss a0 r0 a1 r1, pms zm fo s d pa ke ik fa te, ⟨_, _, _, _, _, _, _, mX7_tree_0 l G (ca 0) (ca 1) (ca 2) (ca 3) (ca 4) (ca 5 0) (ca 7) (ca 8) (ca 9) (ca 10) kp a r hTB, rfl, (pq_2 _ _ _ _ _ _ _ _ _ _ _), ⟨by decide, by decide, rfl, rfl⟩, fun r9 u hp => ⟨(kp, (z, tl), (a, r), (ta, tr), (sz, nx, as, rs), (wb, ub), (w, us), (wh, nu, ss), (a0, r0), (a1, r1)), ⟨hp, _, _, _, _, rfl⟩, (pq_2 _ _ _ _ _ _ _ _ _ _ _).symm⟩⟩, ?_, ?_⟩
      · exact ⟨_, _, [], _, _, _, _, mX8_tree_0 l G ad zm fo s d pa ke ik fa te aw hB, rfl, pm_nil _, ⟨by decide, by decide, rfl, rfl⟩, fun r9 u hp => ⟨(zm, fo, s, d, pa, ke, ik, fa, te, aw), ⟨hp.trans (by rw [hT.co, e5]), _, hA, rfl⟩, (pm_nil _).symm⟩⟩
      · exact rel_of (hR)
    · skip
      refine ⟨nI (coA a r (anA a r)), pcs kp z tl a r ta tr sz nx as rs wh nu ss a0 r0 a1 r1, pms zm fo s d pa ke ik fa te, ⟨_, _, _, _, _, _, _, mX7_tree_1 l G (ca 0) (ca 1) (ca 2) (ca 3) (ca 4) (ca 5 0) (ca 7) (ca 8) (ca 9) (ca 10) kp a r (ca 6) wb ub hTB, rfl, (pq_2_5_6 _ _ _ _ _ _ _ _ _ _ _), ⟨by decide, by decide, rfl, rfl⟩, fun r9 u hp => ⟨(kp, (z, tl), (a, r), (ta, tr), (sz, nx, as, rs), (u.1, u.2), (w, us), (wh, nu, ss), (a0, r0), (a1, r1)), ⟨hp, _, _, _, _, rfl⟩, (pq_2_5_6 _ _ _ _ _ _ _ _ _ _ _).symm⟩⟩, ?_, ?_⟩
      · exact ⟨_, _, [], _, _, _, _, mX8_tree_1 l G ad zm fo s d pa ke ik fa te aw hB hA hT.ans, rfl, pm_nil _, ⟨by decide, by decide, rfl, rfl⟩, fun r9 u hp => ⟨(zm, fo, s, d, pa, ke, ik, fa, te, u), ⟨hp.1.trans (by rw [hT.co, hT.an]), _, hp.2, rfl⟩, (pm_nil _).symm⟩⟩
      · exact rel_of (hR)
    · skip
      refine ⟨nI (coA a r (ofA a r)), pcs kp z tl a r ta tr sz nx as rs wh nu ss a0 r0 a1 r1, pms (va_up zm 16 (mleN (sf s) (sg s) (sc s) (s 1) (s 2) (s 4) (s 6) (2 ^ s 1)).2) fo s d pa ke ik fa te, ⟨_, _, _, _, _, _, _, mX7_tree_2 l G (ca 0) (ca 1) (ca 2) (ca 3) (ca 4) (ca 5 0) (ca 7) (ca 8) (ca 9) (ca 10) kp a r hTB, rfl, (pq_2 _ _ _ _ _ _ _ _ _ _ _), ⟨by decide, by decide, rfl, rfl⟩, fun r9 u hp => ⟨(kp, (z, tl), (a, r), (ta, tr), (sz, nx, as, rs), (wb, ub), (w, us), (wh, nu, ss), (a0, r0), (a1, r1)), ⟨hp, _, _, _, _, rfl⟩, (pq_2 _ _ _ _ _ _ _ _ _ _ _).symm⟩⟩, ?_, ?_⟩
      · exact ⟨_, _, [], _, _, _, _, mX8_tree_2 l G ad zm fo s d pa ke ik fa te aw hB, rfl, pm_nil _, ⟨by decide, by decide, rfl, rfl⟩, fun r9 u hp => ⟨(va_up zm 16 (mleN (sf s) (sg s) (sc s) (s 1) (s 2) (s 4) (s 6) (2 ^ s 1)).2, fo, s, d, pa, ke, ik, fa, te, aw), ⟨hp.trans (by rw [hT.lst.2]), _, hA, rfl⟩, (pm_nil _).symm⟩⟩
      · exact rel_of (⟨hX, hT, hD, hP, hS, hI⟩)
    · skip
      refine ⟨nI (ofA a r), pcs kp z tl a r ta tr sz nx as rs wh nu ss a0 r0 a1 r1, pms (va_up zm 16 (mleN (sf s) (sg s) (sc s) (s 1) (s 2) (s 4) (s 6) (2 ^ s 1)).2) fo s d pa ke ik fa te, ⟨_, _, _, _, _, _, _, mX7_tree_3 l G (ca 0) (ca 1) (ca 2) (ca 3) (ca 4) (ca 5 0) (ca 7) (ca 8) (ca 9) (ca 10) kp a r hTB, rfl, (pq_2 _ _ _ _ _ _ _ _ _ _ _), ⟨by decide, by decide, rfl, rfl⟩, fun r9 u hp => ⟨(kp, (z, tl), (a, r), (ta, tr), (sz, nx, as, rs), (wb, ub), (w, us), (wh, nu, ss), (a0, r0), (a1, r1)), ⟨hp, _, _, _, _, rfl⟩, (pq_2 _ _ _ _ _ _ _ _ _ _ _).symm⟩⟩, ?_, ?_⟩
      · exact ⟨_, _, [], _, _, _, _, mX8_tree_3 l G ad zm fo s d pa ke ik fa te aw hB, rfl, pm_nil _, ⟨by decide, by decide, rfl, rfl⟩, fun r9 u hp => ⟨(va_up zm 16 (mleN (sf s) (sg s) (sc s) (s 1) (s 2) (s 4) (s 6) (2 ^ s 1)).2, fo, s, d, pa, ke, ik, fa, te, aw), ⟨hp.trans (by rw [hT.lst.1]), _, hA, rfl⟩, (pm_nil _).symm⟩⟩
      · exact rel_of (⟨hX, hT, hD, hP, hS, hI⟩)
    · skip
      refine ⟨nI (a 8), pcs kp z tl a r ta tr sz nx as rs wh nu ss a0 r0 a1 r1, pms zm fo s d pa ke ik fa te, ⟨_, _, _, _, _, _, _, mX7_tree_4 l G (ca 0) (ca 1) (ca 2) (ca 3) (ca 4) (ca 5 0) (ca 7) (ca 8) (ca 9) (ca 10) kp a r hTB, rfl, (pq_2 _ _ _ _ _ _ _ _ _ _ _), ⟨by decide, by decide, rfl, rfl⟩, fun r9 u hp => ⟨(kp, (z, tl), (a, r), (ta, tr), (sz, nx, as, rs), (wb, ub), (w, us), (wh, nu, ss), (a0, r0), (a1, r1)), ⟨hp, _, _, _, _, rfl⟩, (pq_2 _ _ _ _ _ _ _ _ _ _ _).symm⟩⟩, ?_, ?_⟩
      · exact ⟨_, _, [], _, _, _, _, mX8_tree_4 l G ad zm fo s d pa ke ik fa te aw hB, rfl, pm_nil _, ⟨by decide, by decide, rfl, rfl⟩, fun r9 u hp => ⟨(zm, fo, s, d, pa, ke, ik, fa, te, aw), ⟨hp.trans (by rw [e5]), _, hA, rfl⟩, (pm_nil _).symm⟩⟩
      · exact rel_of (hR)
    · skip
      refine ⟨oN (bsN (ldN (r 0) (r 1) (a 0) (a 1) (a 3) (a 7) (a 8)) (a 8) (a 3)).1, pcs kp z tl a r ta tr sz nx as rs wh nu ss a0 r0 a1 r1, pms zm fo s d pa ke ik fa te, ⟨_, _, _, _, _, _, _, mX7_tree_5 l G (ca 0) (ca 1) (ca 2) (ca 3) (ca 4) (ca 5 0) (ca 7) (ca 8) (ca 9) (ca 10) kp a r hTB, rfl, (pq_2 _ _ _ _ _ _ _ _ _ _ _), ⟨by decide, by decide, rfl, rfl⟩, fun r9 u hp => ⟨(kp, (z, tl), (a, r), (ta, tr), (sz, nx, as, rs), (wb, ub), (w, us), (wh, nu, ss), (a0, r0), (a1, r1)), ⟨hp, _, _, _, _, rfl⟩, (pq_2 _ _ _ _ _ _ _ _ _ _ _).symm⟩⟩, ?_, ?_⟩
      · exact ⟨_, _, [], _, _, _, _, mX8_tree_5 l G ad zm fo s d pa ke ik fa te aw hB, rfl, pm_nil _, ⟨by decide, by decide, rfl, rfl⟩, fun r9 u hp => ⟨(zm, fo, s, d, pa, ke, ik, fa, te, aw), ⟨hp.trans (by rw [hT.bs]), _, hA, rfl⟩, (pm_nil _).symm⟩⟩
      · exact rel_of (hR)
    · skip
      refine ⟨nI (neN (r 0) (r 1) (a 0) (a 1) (a 3) (a 7) (a 8) (nd (2 ^ (a 3) - 1) (a 9)) (a 3)), pcs kp z tl a r ta tr sz nx as rs wh nu ss a0 r0 a1 r1, pms zm fo s d pa ke ik fa te, ⟨_, _, _, _, _, _, _, mX7_tree_6 l G (ca 0) (ca 1) (ca 2) (ca 3) (ca 4) (ca 5 0) (ca 7) (ca 8) (ca 9) (ca 10) kp a r hTB, rfl, (pq_2 _ _ _ _ _ _ _ _ _ _ _), ⟨by decide, by decide, rfl, rfl⟩, fun r9 u hp => ⟨(kp, (z, tl), (a, r), (ta, tr), (sz, nx, as, rs), (wb, ub), (w, us), (wh, nu, ss), (a0, r0), (a1, r1)), ⟨hp, _, _, _, _, rfl⟩, (pq_2 _ _ _ _ _ _ _ _ _ _ _).symm⟩⟩, ?_, ?_⟩
      · exact ⟨_, _, [], _, _, _, _, mX8_tree_6 l G ad zm fo s d pa ke ik fa te aw hB, rfl, pm_nil _, ⟨by decide, by decide, rfl, rfl⟩, fun r9 u hp => ⟨(zm, fo, s, d, pa, ke, ik, fa, te, aw), ⟨hp.trans (by rw [hT.ne]), _, hA, rfl⟩, (pm_nil _).symm⟩⟩
      · exact rel_of (hR)
  · skip
    refine ⟨-1, pcs kp z tl a r ta tr sz nx as rs wh nu ss a0 r0 a1 r1, pms zm fo s d pa ke ik fa te, ⟨_, _, _, _, _, _, _, mX7_tree_bad l G (ca 0) (ca 1) (ca 2) (ca 3) (ca 4) (ca 5 0) (ca 7) (ca 8) (ca 9) (ca 10) kp a r v1 hw, rfl, (pq_2 _ _ _ _ _ _ _ _ _ _ _), ⟨by decide, by decide, rfl, rfl⟩, fun r9 u hp => ⟨(kp, (z, tl), (a, r), (ta, tr), (sz, nx, as, rs), (wb, ub), (w, us), (wh, nu, ss), (a0, r0), (a1, r1)), ⟨hp, _, _, _, _, rfl⟩, (pq_2 _ _ _ _ _ _ _ _ _ _ _).symm⟩⟩, ?_, ?_⟩
    · exact ⟨_, _, [], _, _, _, _, mX8_tree_bad l G ad zm fo s d pa ke ik fa te aw v1 hw, rfl, pm_nil _, ⟨by decide, by decide, rfl, rfl⟩, fun r9 u hp => ⟨(zm, fo, s, d, pa, ke, ik, fa, te, aw), ⟨hp, _, hA, rfl⟩, (pm_nil _).symm⟩⟩
    · exact rel_of (hR)
set_option maxHeartbeats 4000000 in
set_option maxRecDepth 100000 in
theorem j_which (l : Launch) (G : GG) (v1 : Int32) : JS l G RTT yX7_which cX7_which 3 yX8_which cX8_which 7 [.int v1] := by
  intro ca ads ad x y hR
  obtain ⟨kp, ⟨z, tl⟩, ⟨a, r⟩, ⟨ta, tr⟩, ⟨sz, nx, as, rs⟩, ⟨wb, ub⟩, ⟨w, us⟩, ⟨wh, nu, ss⟩, ⟨a0, r0⟩, a1, r1⟩ := x
  obtain ⟨zm, fo, s, d, pa, ke, ik, fa, te, aw⟩ := y
  obtain ⟨hR, hA⟩ := hR
  have hA : ∀ j, aw j ≤ 1000000 := hA
  have hR : RLx kp z tl a r tr sz nx as rs wh nu ss a0 r0 a1 r1 zm s pa ke ik fa te := hR
  obtain ⟨hX, hT, hD, hP, hS, hI⟩ := id hR
  obtain ⟨hx1, hx2, hx3⟩ := id hX
  obtain ⟨e0, e1, e2, e3, e4, e5, e6, e7⟩ := hT.2.2.1
  have hW := hT.1
  have hTB := hT.1.1
  have hB := hT.2.1
  by_cases hw : 0 ≤ v1.toInt ∧ v1.toInt ≤ 1
  · obtain ⟨y, rfl, hy31, hyi⟩ := asN hw.1
    have hy : y = 0 ∨ y = 1 := by have := hw.2; omega
    have hM : ∀ j, ME s aw j ≤ 1000000 := mesN_le hA
    rcases hy with rfl | rfl
    · skip
      refine ⟨nI (bts (fiN a (wtA a r (a 8)) wh nu ss (a 0)) 12), pcs kp z tl a r ta tr sz nx as rs wh nu ss a0 r0 a1 r1, pms zm fo s d pa ke ik fa te, ⟨_, _, _, _, _, _, _, mX7_which_0 l G (ca 0) (ca 1) (ca 2) (ca 3) (ca 4) (ca 5 0) (ca 7) (ca 8) (ca 9) (ca 10) kp a r w us wh nu ss hTB hS.2.1 hS.2.2.1, rfl, (pq_2_7_8 _ _ _ _ _ _ _ _ _ _ _), ⟨by decide, by decide, rfl, rfl⟩, fun r9 u hp => ⟨(kp, (z, tl), (a, r), (ta, tr), (sz, nx, as, rs), (wb, ub), (u.1, u.2), (wh, nu, ss), (a0, r0), (a1, r1)), ⟨hp, _, _, _, _, rfl⟩, (pq_2_7_8 _ _ _ _ _ _ _ _ _ _ _).symm⟩⟩, ?_, ?_⟩
      · exact ⟨_, _, [], _, _, _, _, mX8_which_0 l G ad zm fo s d pa ke ik fa te aw hB hA (by rw [← hS.1]; exact hS.2.1), rfl, pm_nil _, ⟨by decide, by decide, rfl, rfl⟩, fun r9 u hp => ⟨(zm, fo, s, d, pa, ke, ik, fa, te, ME s aw), ⟨hp.trans (by rw [hT.wh0 aw hS.2, hS.1]), _, hM, rfl⟩, (pm_nil _).symm⟩⟩
      · exact rel_of (hR)
    · skip
      refine ⟨oN (if fiN a (wtA a r (a 8)) wh nu ss (a 0) = 0 then none else some (lowB (fiN a (wtA a r (a 8)) wh nu ss (a 0)) 7)), pcs kp z tl a r ta tr sz nx as rs wh nu ss a0 r0 a1 r1, pms zm fo s d pa ke ik fa te, ⟨_, _, _, _, _, _, _, mX7_which_1 l G (ca 0) (ca 1) (ca 2) (ca 3) (ca 4) (ca 5 0) (ca 7) (ca 8) (ca 9) (ca 10) kp a r w us wh nu ss hTB hS.2.1 hS.2.2.1, rfl, (pq_2_7_8 _ _ _ _ _ _ _ _ _ _ _), ⟨by decide, by decide, rfl, rfl⟩, fun r9 u hp => ⟨(kp, (z, tl), (a, r), (ta, tr), (sz, nx, as, rs), (wb, ub), (u.1, u.2), (wh, nu, ss), (a0, r0), (a1, r1)), ⟨hp, _, _, _, _, rfl⟩, (pq_2_7_8 _ _ _ _ _ _ _ _ _ _ _).symm⟩⟩, ?_, ?_⟩
      · exact ⟨_, _, [], _, _, _, _, mX8_which_1 l G ad zm fo s d pa ke ik fa te aw hB hA (by rw [← hS.1]; exact hS.2.1), rfl, pm_nil _, ⟨by decide, by decide, rfl, rfl⟩, fun r9 u hp => ⟨(zm, fo, s, d, pa, ke, ik, fa, te, ME s aw), ⟨hp.trans (by rw [hT.wh1 aw hS.2, hS.1]), _, hM, rfl⟩, (pm_nil _).symm⟩⟩
      · exact rel_of (hR)
  · skip
    refine ⟨-1, pcs kp z tl a r ta tr sz nx as rs wh nu ss a0 r0 a1 r1, pms zm fo s d pa ke ik fa te, ⟨_, _, _, _, _, _, _, mX7_which_bad l G (ca 0) (ca 1) (ca 2) (ca 3) (ca 4) (ca 5 0) (ca 7) (ca 8) (ca 9) (ca 10) kp v1 hw, rfl, (pq_n _ _ _ _ _ _ _ _ _ _ _), ⟨by decide, by decide, rfl, rfl⟩, fun r9 u hp => ⟨(kp, (z, tl), (a, r), (ta, tr), (sz, nx, as, rs), (wb, ub), (w, us), (wh, nu, ss), (a0, r0), (a1, r1)), ⟨hp, _, _, _, _, rfl⟩, (pq_n _ _ _ _ _ _ _ _ _ _ _).symm⟩⟩, ?_, ?_⟩
    · exact ⟨_, _, [], _, _, _, _, mX8_which_bad l G ad zm fo s d pa ke ik fa te aw v1 hw, rfl, pm_nil _, ⟨by decide, by decide, rfl, rfl⟩, fun r9 u hp => ⟨(zm, fo, s, d, pa, ke, ik, fa, te, aw), ⟨hp, _, hA, rfl⟩, (pm_nil _).symm⟩⟩
    · exact rel_of (hR)
