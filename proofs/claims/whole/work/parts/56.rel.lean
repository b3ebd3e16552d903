/-! the chunks of an object, in another order -/
theorem pq_n {α : Type} (c0 c1 c2 c3 c4 c5 c6 c7 c8 c9 c10 : List α) : (c0 ++ (c1 ++ (c2 ++ (c3 ++ (c4 ++ (c5 ++ (c6 ++ (c7 ++ (c8 ++ (c9 ++ (c10))))))))))).Perm ((c0) ++ (c1 ++ (c2 ++ (c3 ++ (c4 ++ (c5 ++ (c6 ++ (c7 ++ (c8 ++ (c9 ++ (c10))))))))))) := List.Perm.of_eq (by simp only [List.append_assoc])
theorem pq_1 {α : Type} (c0 c1 c2 c3 c4 c5 c6 c7 c8 c9 c10 : List α) : (c0 ++ (c1 ++ (c2 ++ (c3 ++ (c4 ++ (c5 ++ (c6 ++ (c7 ++ (c8 ++ (c9 ++ (c10))))))))))).Perm ((c0 ++ (c1)) ++ (c2 ++ (c3 ++ (c4 ++ (c5 ++ (c6 ++ (c7 ++ (c8 ++ (c9 ++ (c10)))))))))) := ((pm_sw _ _ _).trans (pm_sw _ _ _)).trans (List.Perm.of_eq (by simp only [List.append_assoc]))
theorem pq_1_3 {α : Type} (c0 c1 c2 c3 c4 c5 c6 c7 c8 c9 c10 : List α) : (c0 ++ (c1 ++ (c2 ++ (c3 ++ (c4 ++ (c5 ++ (c6 ++ (c7 ++ (c8 ++ (c9 ++ (c10))))))))))).Perm ((c0 ++ (c1 ++ (c3))) ++ (c2 ++ (c4 ++ (c5 ++ (c6 ++ (c7 ++ (c8 ++ (c9 ++ (c10))))))))) := ((((List.Perm.append_left _ ((List.Perm.append_left _ (pm_sw _ _ _)).trans (pm_sw _ _ _))).trans (pm_sw _ _ _)).trans ((List.Perm.append_left _ (pm_sw _ _ _)).trans (pm_sw _ _ _))).trans ((List.Perm.append_left _ (pm_sw _ _ _)).trans (pm_sw _ _ _))).trans (List.Perm.of_eq (by simp only [List.append_assoc]))
theorem pq_1_3_2_4 {α : Type} (c0 c1 c2 c3 c4 c5 c6 c7 c8 c9 c10 : List α) : (c0 ++ (c1 ++ (c2 ++ (c3 ++ (c4 ++ (c5 ++ (c6 ++ (c7 ++ (c8 ++ (c9 ++ (c10))))))))))).Perm ((c0 ++ (c1 ++ (c3 ++ (c2 ++ (c4))))) ++ (c5 ++ (c6 ++ (c7 ++ (c8 ++ (c9 ++ (c10))))))) := ((((((List.Perm.append_left _ ((List.Perm.append_left _ ((List.Perm.append_left _ (pm_sw _ _ _)).trans (pm_sw _ _ _))).trans (pm_sw _ _ _))).trans (pm_sw _ _ _)).trans ((List.Perm.append_left _ ((List.Perm.append_left _ (pm_sw _ _ _)).trans (pm_sw _ _ _))).trans (pm_sw _ _ _))).trans ((List.Perm.append_left _ ((List.Perm.append_left _ ((List.Perm.append_left _ (pm_sw _ _ _)).trans (pm_sw _ _ _))).trans (pm_sw _ _ _))).trans (pm_sw _ _ _))).trans ((List.Perm.append_left _ ((List.Perm.append_left _ ((List.Perm.append_left _ (pm_sw _ _ _)).trans (pm_sw _ _ _))).trans (pm_sw _ _ _))).trans (pm_sw _ _ _))).trans ((List.Perm.append_left _ ((List.Perm.append_left _ ((List.Perm.append_left _ (pm_sw _ _ _)).trans (pm_sw _ _ _))).trans (pm_sw _ _ _))).trans (pm_sw _ _ _))).trans (List.Perm.of_eq (by simp only [List.append_assoc]))
theorem pq_2 {α : Type} (c0 c1 c2 c3 c4 c5 c6 c7 c8 c9 c10 : List α) : (c0 ++ (c1 ++ (c2 ++ (c3 ++ (c4 ++ (c5 ++ (c6 ++ (c7 ++ (c8 ++ (c9 ++ (c10))))))))))).Perm ((c0 ++ (c2)) ++ (c1 ++ (c3 ++ (c4 ++ (c5 ++ (c6 ++ (c7 ++ (c8 ++ (c9 ++ (c10)))))))))) := (((List.Perm.append_left _ (pm_sw _ _ _)).trans (pm_sw _ _ _)).trans (pm_sw _ _ _)).trans (List.Perm.of_eq (by simp only [List.append_assoc]))
theorem pq_2_7 {α : Type} (c0 c1 c2 c3 c4 c5 c6 c7 c8 c9 c10 : List α) : (c0 ++ (c1 ++ (c2 ++ (c3 ++ (c4 ++ (c5 ++ (c6 ++ (c7 ++ (c8 ++ (c9 ++ (c10))))))))))).Perm ((c0 ++ (c2 ++ (c7))) ++ (c1 ++ (c3 ++ (c4 ++ (c5 ++ (c6 ++ (c8 ++ (c9 ++ (c10))))))))) := ((((List.Perm.append_left _ ((List.Perm.append_left _ ((List.Perm.append_left _ ((List.Perm.append_left _ ((List.Perm.append_left _ ((List.Perm.append_left _ (pm_sw _ _ _)).trans (pm_sw _ _ _))).trans (pm_sw _ _ _))).trans (pm_sw _ _ _))).trans (pm_sw _ _ _))).trans (pm_sw _ _ _))).trans (pm_sw _ _ _)).trans ((List.Perm.append_left _ ((List.Perm.append_left _ (pm_sw _ _ _)).trans (pm_sw _ _ _))).trans (pm_sw _ _ _))).trans ((List.Perm.append_left _ (pm_sw _ _ _)).trans (pm_sw _ _ _))).trans (List.Perm.of_eq (by simp only [List.append_assoc]))
theorem pq_2_4_5_6_7 {α : Type} (c0 c1 c2 c3 c4 c5 c6 c7 c8 c9 c10 : List α) : (c0 ++ (c1 ++ (c2 ++ (c3 ++ (c4 ++ (c5 ++ (c6 ++ (c7 ++ (c8 ++ (c9 ++ (c10))))))))))).Perm ((c0 ++ (c2 ++ (c4 ++ (c5 ++ (c6 ++ (c7)))))) ++ (c1 ++ (c3 ++ (c8 ++ (c9 ++ (c10)))))) := (((((((List.Perm.append_left _ ((List.Perm.append_left _ ((List.Perm.append_left _ ((List.Perm.append_left _ ((List.Perm.append_left _ ((List.Perm.append_left _ (pm_sw _ _ _)).trans (pm_sw _ _ _))).trans (pm_sw _ _ _))).trans (pm_sw _ _ _))).trans (pm_sw _ _ _))).trans (pm_sw _ _ _))).trans (pm_sw _ _ _)).trans ((List.Perm.append_left _ ((List.Perm.append_left _ ((List.Perm.append_left _ ((List.Perm.append_left _ ((List.Perm.append_left _ ((List.Perm.append_left _ (pm_sw _ _ _)).trans (pm_sw _ _ _))).trans (pm_sw _ _ _))).trans (pm_sw _ _ _))).trans (pm_sw _ _ _))).trans (pm_sw _ _ _))).trans (pm_sw _ _ _))).trans ((List.Perm.append_left _ ((List.Perm.append_left _ ((List.Perm.append_left _ ((List.Perm.append_left _ ((List.Perm.append_left _ ((List.Perm.append_left _ (pm_sw _ _ _)).trans (pm_sw _ _ _))).trans (pm_sw _ _ _))).trans (pm_sw _ _ _))).trans (pm_sw _ _ _))).trans (pm_sw _ _ _))).trans (pm_sw _ _ _))).trans ((List.Perm.append_left _ ((List.Perm.append_left _ ((List.Perm.append_left _ ((List.Perm.append_left _ ((List.Perm.append_left _ ((List.Perm.append_left _ (pm_sw _ _ _)).trans (pm_sw _ _ _))).trans (pm_sw _ _ _))).trans (pm_sw _ _ _))).trans (pm_sw _ _ _))).trans (pm_sw _ _ _))).trans (pm_sw _ _ _))).trans ((List.Perm.append_left _ ((List.Perm.append_left _ ((List.Perm.append_left _ ((List.Perm.append_left _ ((List.Perm.append_left _ (pm_sw _ _ _)).trans (pm_sw _ _ _))).trans (pm_sw _ _ _))).trans (pm_sw _ _ _))).trans (pm_sw _ _ _))).trans (pm_sw _ _ _))).trans ((List.Perm.append_left _ ((List.Perm.append_left _ ((List.Perm.append_left _ ((List.Perm.append_left _ (pm_sw _ _ _)).trans (pm_sw _ _ _))).trans (pm_sw _ _ _))).trans (pm_sw _ _ _))).trans (pm_sw _ _ _))).trans (List.Perm.of_eq (by simp only [List.append_assoc]))
theorem pq_2_4_5_6 {α : Type} (c0 c1 c2 c3 c4 c5 c6 c7 c8 c9 c10 : List α) : (c0 ++ (c1 ++ (c2 ++ (c3 ++ (c4 ++ (c5 ++ (c6 ++ (c7 ++ (c8 ++ (c9 ++ (c10))))))))))).Perm ((c0 ++ (c2 ++ (c4 ++ (c5 ++ (c6))))) ++ (c1 ++ (c3 ++ (c7 ++ (c8 ++ (c9 ++ (c10))))))) := ((((((List.Perm.append_left _ ((List.Perm.append_left _ ((List.Perm.append_left _ ((List.Perm.append_left _ ((List.Perm.append_left _ (pm_sw _ _ _)).trans (pm_sw _ _ _))).trans (pm_sw _ _ _))).trans (pm_sw _ _ _))).trans (pm_sw _ _ _))).trans (pm_sw _ _ _)).trans ((List.Perm.append_left _ ((List.Perm.append_left _ ((List.Perm.append_left _ ((List.Perm.append_left _ ((List.Perm.append_left _ (pm_sw _ _ _)).trans (pm_sw _ _ _))).trans (pm_sw _ _ _))).trans (pm_sw _ _ _))).trans (pm_sw _ _ _))).trans (pm_sw _ _ _))).trans ((List.Perm.append_left _ ((List.Perm.append_left _ ((List.Perm.append_left _ ((List.Perm.append_left _ ((List.Perm.append_left _ (pm_sw _ _ _)).trans (pm_sw _ _ _))).trans (pm_sw _ _ _))).trans (pm_sw _ _ _))).trans (pm_sw _ _ _))).trans (pm_sw _ _ _))).trans ((List.Perm.append_left _ ((List.Perm.append_left _ ((List.Perm.append_left _ ((List.Perm.append_left _ (pm_sw _ _ _)).trans (pm_sw _ _ _))).trans (pm_sw _ _ _))).trans (pm_sw _ _ _))).trans (pm_sw _ _ _))).trans ((List.Perm.append_left _ ((List.Perm.append_left _ ((List.Perm.append_left _ (pm_sw _ _ _)).trans (pm_sw _ _ _))).trans (pm_sw _ _ _))).trans (pm_sw _ _ _))).trans (List.Perm.of_eq (by simp only [List.append_assoc]))
theorem pq_2_5_6 {α : Type} (c0 c1 c2 c3 c4 c5 c6 c7 c8 c9 c10 : List α) : (c0 ++ (c1 ++ (c2 ++ (c3 ++ (c4 ++ (c5 ++ (c6 ++ (c7 ++ (c8 ++ (c9 ++ (c10))))))))))).Perm ((c0 ++ (c2 ++ (c5 ++ (c6)))) ++ (c1 ++ (c3 ++ (c4 ++ (c7 ++ (c8 ++ (c9 ++ (c10)))))))) := (((((List.Perm.append_left _ ((List.Perm.append_left _ ((List.Perm.append_left _ ((List.Perm.append_left _ ((List.Perm.append_left _ (pm_sw _ _ _)).trans (pm_sw _ _ _))).trans (pm_sw _ _ _))).trans (pm_sw _ _ _))).trans (pm_sw _ _ _))).trans (pm_sw _ _ _)).trans ((List.Perm.append_left _ ((List.Perm.append_left _ ((List.Perm.append_left _ ((List.Perm.append_left _ ((List.Perm.append_left _ (pm_sw _ _ _)).trans (pm_sw _ _ _))).trans (pm_sw _ _ _))).trans (pm_sw _ _ _))).trans (pm_sw _ _ _))).trans (pm_sw _ _ _))).trans ((List.Perm.append_left _ ((List.Perm.append_left _ ((List.Perm.append_left _ (pm_sw _ _ _)).trans (pm_sw _ _ _))).trans (pm_sw _ _ _))).trans (pm_sw _ _ _))).trans ((List.Perm.append_left _ ((List.Perm.append_left _ (pm_sw _ _ _)).trans (pm_sw _ _ _))).trans (pm_sw _ _ _))).trans (List.Perm.of_eq (by simp only [List.append_assoc]))
theorem pq_2_4 {α : Type} (c0 c1 c2 c3 c4 c5 c6 c7 c8 c9 c10 : List α) : (c0 ++ (c1 ++ (c2 ++ (c3 ++ (c4 ++ (c5 ++ (c6 ++ (c7 ++ (c8 ++ (c9 ++ (c10))))))))))).Perm ((c0 ++ (c2 ++ (c4))) ++ (c1 ++ (c3 ++ (c5 ++ (c6 ++ (c7 ++ (c8 ++ (c9 ++ (c10))))))))) := ((((List.Perm.append_left _ ((List.Perm.append_left _ ((List.Perm.append_left _ (pm_sw _ _ _)).trans (pm_sw _ _ _))).trans (pm_sw _ _ _))).trans (pm_sw _ _ _)).trans ((List.Perm.append_left _ ((List.Perm.append_left _ (pm_sw _ _ _)).trans (pm_sw _ _ _))).trans (pm_sw _ _ _))).trans ((List.Perm.append_left _ (pm_sw _ _ _)).trans (pm_sw _ _ _))).trans (List.Perm.of_eq (by simp only [List.append_assoc]))
theorem pq_8 {α : Type} (c0 c1 c2 c3 c4 c5 c6 c7 c8 c9 c10 : List α) : (c0 ++ (c1 ++ (c2 ++ (c3 ++ (c4 ++ (c5 ++ (c6 ++ (c7 ++ (c8 ++ (c9 ++ (c10))))))))))).Perm ((c0 ++ (c8)) ++ (c1 ++ (c2 ++ (c3 ++ (c4 ++ (c5 ++ (c6 ++ (c7 ++ (c9 ++ (c10)))))))))) := (((List.Perm.append_left _ ((List.Perm.append_left _ ((List.Perm.append_left _ ((List.Perm.append_left _ ((List.Perm.append_left _ ((List.Perm.append_left _ ((List.Perm.append_left _ (pm_sw _ _ _)).trans (pm_sw _ _ _))).trans (pm_sw _ _ _))).trans (pm_sw _ _ _))).trans (pm_sw _ _ _))).trans (pm_sw _ _ _))).trans (pm_sw _ _ _))).trans (pm_sw _ _ _)).trans (pm_sw _ _ _)).trans (List.Perm.of_eq (by simp only [List.append_assoc]))
theorem pq_2_7_8 {α : Type} (c0 c1 c2 c3 c4 c5 c6 c7 c8 c9 c10 : List α) : (c0 ++ (c1 ++ (c2 ++ (c3 ++ (c4 ++ (c5 ++ (c6 ++ (c7 ++ (c8 ++ (c9 ++ (c10))))))))))).Perm ((c0 ++ (c2 ++ (c7 ++ (c8)))) ++ (c1 ++ (c3 ++ (c4 ++ (c5 ++ (c6 ++ (c9 ++ (c10)))))))) := (((((List.Perm.append_left _ ((List.Perm.append_left _ ((List.Perm.append_left _ ((List.Perm.append_left _ ((List.Perm.append_left _ ((List.Perm.append_left _ ((List.Perm.append_left _ (pm_sw _ _ _)).trans (pm_sw _ _ _))).trans (pm_sw _ _ _))).trans (pm_sw _ _ _))).trans (pm_sw _ _ _))).trans (pm_sw _ _ _))).trans (pm_sw _ _ _))).trans (pm_sw _ _ _)).trans ((List.Perm.append_left _ ((List.Perm.append_left _ ((List.Perm.append_left _ ((List.Perm.append_left _ ((List.Perm.append_left _ ((List.Perm.append_left _ ((List.Perm.append_left _ (pm_sw _ _ _)).trans (pm_sw _ _ _))).trans (pm_sw _ _ _))).trans (pm_sw _ _ _))).trans (pm_sw _ _ _))).trans (pm_sw _ _ _))).trans (pm_sw _ _ _))).trans (pm_sw _ _ _))).trans ((List.Perm.append_left _ ((List.Perm.append_left _ ((List.Perm.append_left _ (pm_sw _ _ _)).trans (pm_sw _ _ _))).trans (pm_sw _ _ _))).trans (pm_sw _ _ _))).trans ((List.Perm.append_left _ ((List.Perm.append_left _ (pm_sw _ _ _)).trans (pm_sw _ _ _))).trans (pm_sw _ _ _))).trans (List.Perm.of_eq (by simp only [List.append_assoc]))
theorem pq_2_9 {α : Type} (c0 c1 c2 c3 c4 c5 c6 c7 c8 c9 c10 : List α) : (c0 ++ (c1 ++ (c2 ++ (c3 ++ (c4 ++ (c5 ++ (c6 ++ (c7 ++ (c8 ++ (c9 ++ (c10))))))))))).Perm ((c0 ++ (c2 ++ (c9))) ++ (c1 ++ (c3 ++ (c4 ++ (c5 ++ (c6 ++ (c7 ++ (c8 ++ (c10))))))))) := ((((List.Perm.append_left _ ((List.Perm.append_left _ ((List.Perm.append_left _ ((List.Perm.append_left _ ((List.Perm.append_left _ ((List.Perm.append_left _ ((List.Perm.append_left _ ((List.Perm.append_left _ (pm_sw _ _ _)).trans (pm_sw _ _ _))).trans (pm_sw _ _ _))).trans (pm_sw _ _ _))).trans (pm_sw _ _ _))).trans (pm_sw _ _ _))).trans (pm_sw _ _ _))).trans (pm_sw _ _ _))).trans (pm_sw _ _ _)).trans ((List.Perm.append_left _ ((List.Perm.append_left _ (pm_sw _ _ _)).trans (pm_sw _ _ _))).trans (pm_sw _ _ _))).trans ((List.Perm.append_left _ (pm_sw _ _ _)).trans (pm_sw _ _ _))).trans (List.Perm.of_eq (by simp only [List.append_assoc]))
theorem pq_2_10 {α : Type} (c0 c1 c2 c3 c4 c5 c6 c7 c8 c9 c10 : List α) : (c0 ++ (c1 ++ (c2 ++ (c3 ++ (c4 ++ (c5 ++ (c6 ++ (c7 ++ (c8 ++ (c9 ++ (c10))))))))))).Perm ((c0 ++ (c2 ++ (c10))) ++ (c1 ++ (c3 ++ (c4 ++ (c5 ++ (c6 ++ (c7 ++ (c8 ++ (c9))))))))) := ((((List.Perm.append_left _ ((List.Perm.append_left _ ((List.Perm.append_left _ ((List.Perm.append_left _ ((List.Perm.append_left _ ((List.Perm.append_left _ ((List.Perm.append_left _ ((List.Perm.append_left _ ((List.Perm.append_left _ (List.perm_append_comm)).trans (pm_sw _ _ _))).trans (pm_sw _ _ _))).trans (pm_sw _ _ _))).trans (pm_sw _ _ _))).trans (pm_sw _ _ _))).trans (pm_sw _ _ _))).trans (pm_sw _ _ _))).trans (pm_sw _ _ _))).trans (pm_sw _ _ _)).trans ((List.Perm.append_left _ ((List.Perm.append_left _ (pm_sw _ _ _)).trans (pm_sw _ _ _))).trans (pm_sw _ _ _))).trans ((List.Perm.append_left _ (pm_sw _ _ _)).trans (pm_sw _ _ _))).trans (List.Perm.of_eq (by simp only [List.append_assoc]))
theorem pq_2_9_4 {α : Type} (c0 c1 c2 c3 c4 c5 c6 c7 c8 c9 c10 : List α) : (c0 ++ (c1 ++ (c2 ++ (c3 ++ (c4 ++ (c5 ++ (c6 ++ (c7 ++ (c8 ++ (c9 ++ (c10))))))))))).Perm ((c0 ++ (c2 ++ (c9 ++ (c4)))) ++ (c1 ++ (c3 ++ (c5 ++ (c6 ++ (c7 ++ (c8 ++ (c10)))))))) := (((((List.Perm.append_left _ ((List.Perm.append_left _ ((List.Perm.append_left _ (pm_sw _ _ _)).trans (pm_sw _ _ _))).trans (pm_sw _ _ _))).trans (pm_sw _ _ _)).trans ((List.Perm.append_left _ ((List.Perm.append_left _ ((List.Perm.append_left _ ((List.Perm.append_left _ ((List.Perm.append_left _ ((List.Perm.append_left _ ((List.Perm.append_left _ ((List.Perm.append_left _ (pm_sw _ _ _)).trans (pm_sw _ _ _))).trans (pm_sw _ _ _))).trans (pm_sw _ _ _))).trans (pm_sw _ _ _))).trans (pm_sw _ _ _))).trans (pm_sw _ _ _))).trans (pm_sw _ _ _))).trans (pm_sw _ _ _))).trans ((List.Perm.append_left _ ((List.Perm.append_left _ ((List.Perm.append_left _ (pm_sw _ _ _)).trans (pm_sw _ _ _))).trans (pm_sw _ _ _))).trans (pm_sw _ _ _))).trans ((List.Perm.append_left _ ((List.Perm.append_left _ (pm_sw _ _ _)).trans (pm_sw _ _ _))).trans (pm_sw _ _ _))).trans (List.Perm.of_eq (by simp only [List.append_assoc]))
theorem pq_2_10_4 {α : Type} (c0 c1 c2 c3 c4 c5 c6 c7 c8 c9 c10 : List α) : (c0 ++ (c1 ++ (c2 ++ (c3 ++ (c4 ++ (c5 ++ (c6 ++ (c7 ++ (c8 ++ (c9 ++ (c10))))))))))).Perm ((c0 ++ (c2 ++ (c10 ++ (c4)))) ++ (c1 ++ (c3 ++ (c5 ++ (c6 ++ (c7 ++ (c8 ++ (c9)))))))) := (((((List.Perm.append_left _ ((List.Perm.append_left _ ((List.Perm.append_left _ (pm_sw _ _ _)).trans (pm_sw _ _ _))).trans (pm_sw _ _ _))).trans (pm_sw _ _ _)).trans ((List.Perm.append_left _ ((List.Perm.append_left _ ((List.Perm.append_left _ ((List.Perm.append_left _ ((List.Perm.append_left _ ((List.Perm.append_left _ ((List.Perm.append_left _ ((List.Perm.append_left _ ((List.Perm.append_left _ (List.perm_append_comm)).trans (pm_sw _ _ _))).trans (pm_sw _ _ _))).trans (pm_sw _ _ _))).trans (pm_sw _ _ _))).trans (pm_sw _ _ _))).trans (pm_sw _ _ _))).trans (pm_sw _ _ _))).trans (pm_sw _ _ _))).trans (pm_sw _ _ _))).trans ((List.Perm.append_left _ ((List.Perm.append_left _ ((List.Perm.append_left _ (pm_sw _ _ _)).trans (pm_sw _ _ _))).trans (pm_sw _ _ _))).trans (pm_sw _ _ _))).trans ((List.Perm.append_left _ ((List.Perm.append_left _ (pm_sw _ _ _)).trans (pm_sw _ _ _))).trans (pm_sw _ _ _))).trans (List.Perm.of_eq (by simp only [List.append_assoc]))
theorem pq_4 {α : Type} (c0 c1 c2 c3 c4 c5 c6 c7 c8 c9 c10 : List α) : (c0 ++ (c1 ++ (c2 ++ (c3 ++ (c4 ++ (c5 ++ (c6 ++ (c7 ++ (c8 ++ (c9 ++ (c10))))))))))).Perm ((c0 ++ (c4)) ++ (c1 ++ (c2 ++ (c3 ++ (c5 ++ (c6 ++ (c7 ++ (c8 ++ (c9 ++ (c10)))))))))) := (((List.Perm.append_left _ ((List.Perm.append_left _ ((List.Perm.append_left _ (pm_sw _ _ _)).trans (pm_sw _ _ _))).trans (pm_sw _ _ _))).trans (pm_sw _ _ _)).trans (pm_sw _ _ _)).trans (List.Perm.of_eq (by simp only [List.append_assoc]))
theorem asN {x : Int32} (h : 0 ≤ x.toInt) : ∃ n, x = nI n ∧ n < 2 ^ 31 ∧ x.toInt = (n : Int) := by
  have h1 := Int32.toInt_lt x
  refine ⟨x.toInt.toNat, ?_, by omega, by omega⟩
  rw [← Int32.toInt_inj, nI_toInt (by omega)]
  omega
/-! the relation between the two objects -/
def TP (a : Nat → Nat) (r : Nat → Nat → Nat) (p : Nat → Nat) (b : Nat) : Prop := TR a r (fun j => if j < 52 then p (b + j) else 0)
theorem TP.cg {a : Nat → Nat} {r : Nat → Nat → Nat} {p p' : Nat → Nat} {b b' : Nat} (h : TP a r p b) (he : ∀ j, j < 52 → p' (b' + j) = p (b + j)) : TP a r p' b' := by
  unfold TP at h ⊢
  have e : (fun j => if j < 52 then p' (b' + j) else 0) = (fun j => if j < 52 then p (b + j) else 0) := by
    funext j
    by_cases hj : j < 52
    · rw [if_pos hj, if_pos hj, he j hj]
    · rw [if_neg hj, if_neg hj]
  rw [e]; exact h
theorem TP.of {a : Nat → Nat} {r : Nat → Nat → Nat} {s p : Nat → Nat} {b : Nat} (h : TR a r s) (he : ∀ j, j < 52 → p (b + j) = s j) : TP a r p b := by
  refine h.ext (fun j hj => ?_) (fun j hj => ?_)
  · show (if j < 52 then p (b + j) else 0) = s j
    rw [if_pos hj, he j hj]
  · show (if j < 52 then p (b + j) else 0) < 10
    rw [if_neg (by omega)]; omega
theorem TP.to {a : Nat → Nat} {r : Nat → Nat → Nat} {s p : Nat → Nat} {b : Nat} (h : TP a r p b) (hB : SB s) : TR a r (geP s p b 52) := by
  refine TR.ext h (fun j hj => ?_) (fun j hj => ?_)
  · show (if j < 52 then p (b + j) else s j) = (if j < 52 then p (b + j) else 0)
    rw [if_pos hj, if_pos hj]
  · show (if j < 52 then p (b + j) else s j) < 10
    rw [if_neg (by omega)]
    exact hB.2.1 j (by omega)
theorem coP_in (pa s : Nat → Nat) (b : Nat) {j : Nat} (hj : j < 52) : coP pa s b 52 (b + j) = s j := by
  unfold coP
  rw [if_pos (by omega)]
  congr 1; omega
theorem coP_out (pa s : Nat → Nat) (b : Nat) {i : Nat} (hi : i < b ∨ b + 52 ≤ i) : coP pa s b 52 i = pa i := by
  unfold coP
  rw [if_neg (by omega)]
def PR (sz nx : Nat) (as : Nat → Nat → Nat) (rs : Nat → Nat → Nat → Nat) (u : Nat) (pa : Nat → Nat) : Prop := sz = u ∧ sz ≤ 6 ∧ nx < 6 ∧ ∀ t, t < sz → TP (as ((nx + 5 - t) % 6)) (rs ((nx + 5 - t) % 6)) pa (52 * (sz - 1 - t))
theorem PR.push {sz nx : Nat} {as : Nat → Nat → Nat} {rs : Nat → Nat → Nat → Nat} {u : Nat} {pa a s : Nat → Nat} {r : Nat → Nat → Nat} (h : PR sz nx as rs u pa) (hT : TR a r s) : PR (min (sz + 1) 6) ((nx + 1) % 6) (va_up as nx a) (va_up rs nx r) (ntU u + 1) (ntP pa s u) := by
  obtain ⟨h1, h2, h3, h4⟩ := h
  subst h1
  have hU : ntU sz + 1 = min (sz + 1) 6 := by
    unfold ntU
    split <;> omega
  refine ⟨hU.symm, by omega, by omega, ?_⟩
  intro t ht
  by_cases e : t = 0
  · subst e
    have ei : ((nx + 1) % 6 + 5 - 0) % 6 = nx := by omega
    rw [ei, va_up_self, va_up_self]
    have eb : 52 * (min (sz + 1) 6 - 1 - 0) = 52 * ntU sz := by omega
    rw [eb]
    exact TP.of hT (fun j hj => coP_in _ s _ hj)
  · have ei : ((nx + 1) % 6 + 5 - t) % 6 = (nx + 5 - (t - 1)) % 6 := by omega
    have en : (nx + 5 - (t - 1)) % 6 ≠ nx := by omega
    rw [ei, va_up_ne _ _ en, va_up_ne _ _ en]
    refine (h4 (t - 1) (by omega)).cg ?_
    intro j hj
    unfold ntP
    rw [coP_out _ _ _ (by omega)]
    by_cases e6 : sz = 6
    · rw [if_pos e6]
      unfold shP
      rw [if_pos (by omega)]
      congr 1; omega
    · rw [if_neg e6]
      congr 1; omega
theorem PR.pop {sz nx : Nat} {as : Nat → Nat → Nat} {rs : Nat → Nat → Nat → Nat} {u : Nat} {pa : Nat → Nat} (h : PR sz nx as rs u pa) (h0 : 0 < sz) : PR (sz - 1) ((nx + 6 - 1) % 6) as rs (u - 1) pa ∧ TP (as ((nx + 6 - 1) % 6)) (rs ((nx + 6 - 1) % 6)) pa (52 * (sz - 1)) := by
  obtain ⟨h1, h2, h3, h4⟩ := h
  refine ⟨⟨by omega, by omega, by omega, ?_⟩, ?_⟩
  · intro t ht
    have := h4 (t + 1) (by omega)
    rw [show ((nx + 6 - 1) % 6 + 5 - t) % 6 = (nx + 5 - (t + 1)) % 6 by omega, show sz - 1 - 1 - t = sz - 1 - (t + 1) by omega]
    exact this
  · have := h4 0 h0
    rw [show (nx + 6 - 1) % 6 = (nx + 5 - 0) % 6 by omega]
    exact this
theorem PR.z {sz nx : Nat} {as : Nat → Nat → Nat} {rs : Nat → Nat → Nat → Nat} {u : Nat} {pa : Nat → Nat} (h : PR sz nx as rs u pa) : PR 0 nx as rs 0 pa := ⟨rfl, by omega, h.2.2.1, fun t ht => absurd ht (Nat.not_lt_zero _)⟩
def IM (kp ik : Nat → Int32) (a0 : Nat → Nat) (r0 : Nat → Nat → Nat) (a1 : Nat → Nat) (r1 : Nat → Nat → Nat) (ke : Nat → Nat) : Prop := kp 0 = ik 0 ∧ kp 1 = ik 1 ∧ (kp 0 = nI 0 ∨ (kp 0 = nI 1 ∧ TP a0 r0 ke (52 * 0))) ∧ (kp 1 = nI 0 ∨ (kp 1 = nI 1 ∧ TP a1 r1 ke (52 * 1)))
theorem IM.k0 {kp ik : Nat → Int32} {a0 : Nat → Nat} {r0 : Nat → Nat → Nat} {a1 : Nat → Nat} {r1 : Nat → Nat → Nat} {ke a s : Nat → Nat} {r : Nat → Nat → Nat} (h : IM kp ik a0 r0 a1 r1 ke) (hT : TR a r s) : IM (upd kp 0 (nI 1)) (upd ik 0 (nI 1)) a r a1 r1 (coP ke s (52 * 0) 52) := by
  obtain ⟨h1, h2, h3, h4⟩ := h
  refine ⟨by rw [upd_s, upd_s], by rw [upd_n (by decide), upd_n (by decide)]; exact h2, Or.inr ⟨upd_s, TP.of hT (fun j hj => coP_in _ s _ hj)⟩, ?_⟩
  rw [upd_n (by decide)]
  rcases h4 with h4 | h4
  · exact Or.inl h4
  · exact Or.inr ⟨h4.1, h4.2.cg (fun j hj => coP_out _ _ _ (by omega))⟩
theorem IM.k1 {kp ik : Nat → Int32} {a0 : Nat → Nat} {r0 : Nat → Nat → Nat} {a1 : Nat → Nat} {r1 : Nat → Nat → Nat} {ke a s : Nat → Nat} {r : Nat → Nat → Nat} (h : IM kp ik a0 r0 a1 r1 ke) (hT : TR a r s) : IM (upd kp 1 (nI 1)) (upd ik 1 (nI 1)) a0 r0 a r (coP ke s (52 * 1) 52) := by
  obtain ⟨h1, h2, h3, h4⟩ := h
  refine ⟨by rw [upd_n (by decide), upd_n (by decide)]; exact h1, by rw [upd_s, upd_s], ?_, Or.inr ⟨upd_s, TP.of hT (fun j hj => coP_in _ s _ hj)⟩⟩
  rw [upd_n (by decide)]
  rcases h3 with h3 | h3
  · exact Or.inl h3
  · exact Or.inr ⟨h3.1, h3.2.cg (fun j hj => coP_out _ _ _ (by omega))⟩
def TX (z tl zm te : Nat → Nat) : Prop := z 1 = zm 10 ∧ tl = te ∧ XB (va_up (va_up z 3 0) 6 0) tl
def TD (tr : Nat → Nat → Nat) : Prop := (∀ j, tr 0 j < 7) ∧ (∀ j, tr 1 j < 7) ∧ (∀ j, tr 2 j ≤ 9) ∧ ∀ j, tr 3 j < 7
theorem TB.td {a : Nat → Nat} {r : Nat → Nat → Nat} (h : TB a r) : TD r := ⟨h.2.2.2.2.2.1, h.2.2.2.2.2.2.1, h.2.2.2.2.2.2.2.1, h.2.2.2.2.2.2.2.2.2.2.2.2⟩
def RLx (kp : Nat → Int32) (z tl a : Nat → Nat) (r : Nat → Nat → Nat) (tr : Nat → Nat → Nat) (sz nx : Nat) (as : Nat → Nat → Nat) (rs : Nat → Nat → Nat → Nat) (wh : Nat → Nat) (nu : Nat → Int32) (ss : Nat) (a0 : Nat → Nat) (r0 : Nat → Nat → Nat) (a1 : Nat → Nat) (r1 : Nat → Nat → Nat) (zm s pa ke : Nat → Nat) (ik fa : Nat → Int32) (te : Nat → Nat) : Prop :=
  TX z tl zm te ∧ TR a r s ∧ TD tr ∧ PR sz nx as rs (zm 4) pa ∧ (ss = zm 8 ∧ SG wh nu fa ss) ∧ IM kp ik a0 r0 a1 r1 ke
def RTT (x : CS) (y : MS) : Prop := RLx x.1 x.2.1.1 x.2.1.2 x.2.2.1.1 x.2.2.1.2 x.2.2.2.1.2 x.2.2.2.2.1.1 x.2.2.2.2.1.2.1 x.2.2.2.2.1.2.2.1 x.2.2.2.2.1.2.2.2 x.2.2.2.2.2.2.2.1.1 x.2.2.2.2.2.2.2.1.2.1 x.2.2.2.2.2.2.2.1.2.2 x.2.2.2.2.2.2.2.2.1.1 x.2.2.2.2.2.2.2.2.1.2 x.2.2.2.2.2.2.2.2.2.1 x.2.2.2.2.2.2.2.2.2.2 y.1 y.2.2.1 y.2.2.2.2.1 y.2.2.2.2.2.1 y.2.2.2.2.2.2.1 y.2.2.2.2.2.2.2.1 y.2.2.2.2.2.2.2.2.1 ∧ ∀ j, y.2.2.2.2.2.2.2.2.2 j ≤ 1000000
def pcs (kp : Nat → Int32) (z tl a : Nat → Nat) (r : Nat → Nat → Nat) (ta : Nat → Nat) (tr : Nat → Nat → Nat) (sz nx : Nat) (as : Nat → Nat → Nat) (rs : Nat → Nat → Nat → Nat) (wh : Nat → Nat) (nu : Nat → Int32) (ss : Nat) (a0 : Nat → Nat) (r0 : Nat → Nat → Nat) (a1 : Nat → Nat) (r1 : Nat → Nat → Nat) (x : CS) : Prop := ∃ (wb : Nat → Nat) (ub : Nat) (w : Nat → Nat) (us : Nat), x = (kp, (z, tl), (a, r), (ta, tr), (sz, nx, as, rs), (wb, ub), (w, us), (wh, nu, ss), (a0, r0), (a1, r1))
def pms (zm : Nat → Nat) (fo : Option Nat) (s : Nat → Nat) (d : Nat → Int32) (pa ke : Nat → Nat) (ik fa : Nat → Int32) (te : Nat → Nat) (y : MS) : Prop := ∃ aw : Nat → Nat, (∀ j, aw j ≤ 1000000) ∧ y = (zm, fo, s, d, pa, ke, ik, fa, te, aw)
theorem rel_of {kp : Nat → Int32} {z tl a : Nat → Nat} {r : Nat → Nat → Nat} {ta : Nat → Nat} {tr : Nat → Nat → Nat} {sz nx : Nat} {as : Nat → Nat → Nat} {rs : Nat → Nat → Nat → Nat} {wh : Nat → Nat} {nu : Nat → Int32} {ss : Nat} {a0 : Nat → Nat} {r0 : Nat → Nat → Nat} {a1 : Nat → Nat} {r1 : Nat → Nat → Nat} {zm : Nat → Nat} {fo : Option Nat} {s : Nat → Nat} {d : Nat → Int32} {pa ke : Nat → Nat} {ik fa : Nat → Int32} {te : Nat → Nat} (h : RLx kp z tl a r tr sz nx as rs wh nu ss a0 r0 a1 r1 zm s pa ke ik fa te) : ∀ x' y', pcs kp z tl a r ta tr sz nx as rs wh nu ss a0 r0 a1 r1 x' → pms zm fo s d pa ke ik fa te y' → RTT x' y' := by
  rintro x' y' ⟨wb, ub, w, us, rfl⟩ ⟨aw, ha, rfl⟩
  exact ⟨h, ha⟩

