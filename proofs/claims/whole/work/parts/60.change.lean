/-! change -/
theorem st_7_3 : s_sv 7 3 = 27 ∧ s_slen 7 = 4 := by decide +kernel
theorem q_X6_change {t w : Int} {M : jMm} {Q : Int → jMm → Prop} (hq : if bt 0 t 99 = 0 ∨ bt 0 w 26 = 0 then Q (-1) M else Q (M 1 5) (jwr (jwr (jwr (jwr M 1 5 t) 1 6 w) 0 8 0) 0 9 0)) : f_X6_change [0, t, w] M Q := by
  unfold f_X6_change
  obtain ⟨s1, s2⟩ := st_7_3
  by_cases h1 : bt 0 t 99 = 0 <;> by_cases h2 : bt 0 w 26 = 0 <;> simp [h1, h2] at hq <;> simp [jMeth, jIn, jup, tSeq, tIf, tSkip, tSet, tPut, tDo, tRet, kOr, kNot, kZ, xV, xC, xCall, xsC, xsN, xSt, xBin, boSub, xGf, xGr, rf_0_0, s1, s2, q_X6_isBetween, q_X6_tellAnew, h1, h2, ir] <;> exact hq
theorem q_X7_change {t w : Int} {M : jMm} {Q : Int → jMm → Prop} (hq : if bt 0 t 99 = 0 ∨ bt 0 w 26 = 0 then Q (-1) M else Q (M 114 3) (jwr (jwr M 114 3 t) 114 4 w)) : f_X7_change [114, t, w] M Q := by
  unfold f_X7_change
  by_cases h1 : bt 0 t 99 = 0 <;> by_cases h2 : bt 0 w 26 = 0 <;> simp [h1, h2] at hq <;> simp [jMeth, jIn, jup, tSeq, tIf, tSkip, tSet, tPut, tDo, tRet, kOr, kNot, kZ, xV, xC, xUn, xCall, xsC, xsN, xGf, q_X7_in, h1, h2] <;> exact hq
