/-! set, in the model -/
theorem rf_114_0 : s_rf 114 0 = 115 := by decide +kernel
theorem ln_115 : s_len 115 = 7 := by decide +kernel
theorem st_set : s_sv 3 0 = 0 ∧ s_sv 3 1 = 1 ∧ s_sv 3 2 = 1 ∧ s_sv 3 3 = 2 ∧ s_sv 3 4 = 1 ∧ s_sv 3 5 = 0 ∧ s_sv 3 6 = 0 ∧ s_sv 4 0 = 1 ∧ s_sv 4 1 = 9 ∧ s_sv 4 2 = 3 ∧ s_sv 4 3 = 40 ∧ s_sv 4 4 = 9 ∧ s_sv 4 5 = 9 ∧ s_sv 4 6 = 10 := by decide +kernel
theorem q_X7_isSet {w v : Int} {M : jMm} {Q : Int → jMm → Prop} : f_X7_isSet [w, v] M Q = Q (if bt 0 w 6 = 0 then 0 else bt (s_sv 3 w) v (s_sv 4 w)) M := by
  unfold f_X7_isSet
  apply propext
  obtain ⟨e0, e1, e2, e3, e4, e5, e6, g0, g1, g2, g3, g4, g5, g6⟩ := st_set
  by_cases h : 0 ≤ w ∧ w ≤ 6
  · have hb : bt 0 w 6 = 1 := by unfold bt; rw [if_pos h]
    have hw : w = 0 ∨ w = 1 ∨ w = 2 ∨ w = 3 ∨ w = 4 ∨ w = 5 ∨ w = 6 := by omega
    rw [hb]
    rcases hw with rfl | rfl | rfl | rfl | rfl | rfl | rfl <;> simp [jMeth, jIn, tSw, tSwS, tRetZ, xTern, kAnd, kR, kZ, xV, xC, xUn, xCall, xsC, xsN, q_X7_in, bt_01, e0, e1, e2, e3, e4, e5, e6, g0, g1, g2, g3, g4, g5, g6]
    by_cases z : bt 0 v 10 = 0
    · simp [z]
    · have z1 : bt 0 v 10 = 1 := (bt_01 _ _ _).resolve_left z
      simp [z1]
  · have hb : bt 0 w 6 = 0 := by unfold bt; rw [if_neg h]
    rw [hb]
    have n0 : ¬ w = 0 := by omega
    have n1 : ¬ w = 1 := by omega
    have n2 : ¬ w = 2 := by omega
    have n3 : ¬ w = 3 := by omega
    have n4 : ¬ w = 4 := by omega
    have n5 : ¬ w = 5 := by omega
    have n6 : ¬ w = 6 := by omega
    simp [jMeth, jIn, tSw, tSwS, tRetZ, xTern, kAnd, kR, kZ, xV, xC, xUn, xCall, xsC, xsN, q_X7_in, n0, n1, n2, n3, n4, n5, n6]
