theorem q_X7_set {w v : Int} {M : jMm} {Q : Int → jMm → Prop} (hq : if bt 0 w 6 = 0 ∨ bt (s_sv 3 w) v (s_sv 4 w) = 0 then Q (-1) M else Q (M 115 w) (jwr M 115 w v)) : f_X7_set [114, w, v] M Q := by
  unfold f_X7_set
  by_cases h1 : bt 0 w 6 = 0
  · simp [h1] at hq
    simp [jMeth, jIn, jup, tSeq, tIf, tSkip, tRet, kNot, kZ, xV, xC, xCall, xsC, xsN, q_X7_isSet, h1]
    exact hq
  · obtain ⟨a1, a2⟩ := bt_0 h1
    have e : 0 ≤ w ∧ w < 7 := ⟨a1, by omega⟩
    by_cases h2 : bt (s_sv 3 w) v (s_sv 4 w) = 0 <;> simp [h1, h2] at hq <;> simp [jMeth, jIn, jup, tSeq, tIf, tSkip, tSet, tAst, tDo, tRet, kOr, kNot, kZ, xV, xC, xCall, xsC, xsN, xAl, xGr, rf_114_0, ln_115, q_X7_isSet, h1, h2, e] <;> first | exact hq | (simp_all; done)
