/-! set, of: questions -/
theorem q_X7_isOne {v : Int} {M : jMm} {Q : Int → jMm → Prop} : f_X7_isOne [114, v] M Q = (ir (M 114 5 - 1) ∧ Q (bt 0 v (M 114 5 - 1)) M) := by
  unfold f_X7_isOne
  apply propext
  simp [jMeth, jIn, tRetZ, xV, xC, xCall, xsC, xsN, xBin, xUn, boSub, xGf, xGr, q_X7_in, bt_01]
theorem q_X6_weightOf {v : Int} {M : jMm} {Q : Int → jMm → Prop} : f_X6_weightOf [v] M Q = Q (if 0 ≤ v ∧ v ≤ 4 then s_sv 6 v else 0) M := by
  unfold f_X6_weightOf
  apply propext
  have e : s_slen 6 = 5 := by decide +kernel
  by_cases h1 : 0 ≤ v <;> by_cases h2 : v ≤ 4 <;> simp [jMeth, jIn, tRet, xTern, kZ, xV, xC, xCall, xsC, xsN, xSt, q_X6_isBetween, bt, h1, h2, e]
  intro _; omega
