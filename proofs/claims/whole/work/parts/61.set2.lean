/-! set, in the program -/
theorem rf_1_2 : s_rf 1 2 = 10 := by decide +kernel
theorem ln_10 : s_len 10 = 7 := by decide +kernel
theorem st_34 : s_slen 3 = 7 ∧ s_slen 4 = 7 := by decide +kernel
theorem q_X6_set {w v : Int} {M : jMm} {Q : Int → jMm → Prop} (hq : if bt 0 w 6 = 0 ∨ bt (s_sv 3 w) v (s_sv 4 w) = 0 then Q (-1) M else Q (M 10 w) (jwr (jwr (jwr M 10 w v) 0 8 0) 0 9 0)) : f_X6_set [0, w, v] M Q := by
  unfold f_X6_set
  obtain ⟨s1, s2⟩ := st_34
  by_cases h1 : bt 0 w 6 = 0
  · simp [h1] at hq
    simp [jMeth, jIn, jup, tSeq, tIf, tSkip, tRet, kOr, kNot, kZ, xV, xC, xCall, xsC, xsN, q_X6_isBetween, h1]
    exact hq
  · obtain ⟨a1, a2⟩ := bt_0 h1
    have e : 0 ≤ w ∧ w < 7 := ⟨a1, by omega⟩
    by_cases h2 : bt (s_sv 3 w) v (s_sv 4 w) = 0 <;> simp [h1, h2] at hq <;> simp [jMeth, jIn, jup, tSeq, tIf, tSkip, tSet, tAst, tDo, tRet, kOr, kNot, kZ, xV, xC, xCall, xsC, xsN, xSt, xAl, xGr, rf_0_0, rf_1_2, ln_10, s1, s2, q_X6_isBetween, q_X6_tellAnew, h1, h2, e] <;> first | exact hq | (simp_all; done)
