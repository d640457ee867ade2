/-! the program's and the model's small questions -/
theorem rf_0_0 : s_rf 0 0 = 1 := by decide +kernel
theorem q_X6_isStair {v : Int} {M : jMm} {Q : Int → jMm → Prop} : f_X6_isStair [0, v] M Q = (ir (M 1 3 - 1) ∧ Q (bt 0 v (M 1 3 - 1)) M) := by
  unfold f_X6_isStair
  apply propext
  simp [jMeth, jIn, tRetZ, xV, xC, xCall, xsC, xsN, xBin, boSub, xGf, xGr, rf_0_0, q_X6_isBetween, bt_01]
theorem q_X6_isPerson {v : Int} {M : jMm} {Q : Int → jMm → Prop} : f_X6_isPerson [0, v] M Q = (ir (M 1 4 - 1) ∧ Q (bt 0 v (M 1 4 - 1)) M) := by
  unfold f_X6_isPerson
  apply propext
  simp [jMeth, jIn, tRetZ, xV, xC, xCall, xsC, xsN, xBin, boSub, xGf, xGr, rf_0_0, q_X6_isBetween, bt_01]
theorem q_X6_tellAnew {M : jMm} {Q : Int → jMm → Prop} : f_X6_tellAnew [0] M Q = Q 0 (jwr (jwr M 0 8 0) 0 9 0) := by
  unfold f_X6_tellAnew
  apply propext
  simp [jMeth, jIn, tSeq, tPutZ, tPut, tRet0, xV, xC]
theorem q_X7_isStair {v : Int} {M : jMm} {Q : Int → jMm → Prop} : f_X7_isStair [114, v] M Q = (ir (M 114 1 - 1) ∧ Q (bt 0 v (M 114 1 - 1)) M) := by
  unfold f_X7_isStair
  apply propext
  simp [jMeth, jIn, tRetZ, xV, xC, xCall, xsC, xsN, xBin, xUn, boSub, xGf, xGr, q_X7_in, bt_01]
