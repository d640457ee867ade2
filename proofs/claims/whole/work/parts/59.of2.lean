theorem q_X7_of {i w v n : Int} {M : jMm} {Q : Int → jMm → Prop} (hn : M 114 1 = n) (h0 : 0 ≤ n) (h3 : n ≤ 3) (hq : if bt 0 i (n - 1) = 0 ∨ bt 0 w 2 = 0 ∨ ofOk w v = 0 then Q (-1) M else Q (M 116 (3 * i + w)) (jwr M 116 (3 * i + w) v)) : f_X7_of [114, i, w, v] M Q := by
  unfold f_X7_of
  have g1 : ir (M 114 1 - 1) := by rw [hn]; exact ⟨by omega, by omega⟩
  by_cases h1 : bt 0 i (n - 1) = 0
  · simp [h1] at hq
    simp [jMeth, jIn, jup, tSeq, tIf, tSkip, tRet, kOr, kNot, kZ, xV, xC, xCall, xsC, xsN, q_X7_isStair, hn, h1, ir]
    exact ⟨by omega, hq⟩
  · by_cases h2 : bt 0 w 2 = 0
    · simp [h1, h2] at hq
      simp [jMeth, jIn, jup, tSeq, tIf, tSkip, tRet, kOr, kNot, kZ, xV, xC, xUn, xCall, xsC, xsN, q_X7_isStair, q_X7_in, hn, h1, h2, ir]
      exact ⟨by omega, hq⟩
    · obtain ⟨a1, a2⟩ := bt_0 h1
      obtain ⟨b1, b2⟩ := bt_0 h2
      by_cases h4 : ofOk w v = 0 <;> simp [h1, h2, h4] at hq <;> simp [ofOk] at h4 <;> simp [jMeth, jIn, jup, tSeq, tIf, tSkip, tSet, tAst, tDo, tRet, kOr, kNot, kZ, xV, xC, xUn, xBin, boAdd, boMul, xCall, xsC, xsN, xSt, xAl, xAr, xGr, rf_114_2, ln_116, q_X7_isStair, q_X7_in, q_X7_isOf, hn, h1, h2, h4, ir] <;> first | exact hq | (simp_all; done) | (simp_all; omega) | (refine ⟨?_, ?_⟩ <;> simp_all <;> omega)
