/-! stair -/
theorem rf_1_0 : s_rf 1 0 = 2 := by decide +kernel
theorem rf_2_0 : s_rf 2 0 = 3 := by decide +kernel
theorem rf_2_1 : s_rf 2 1 = 4 := by decide +kernel
theorem rf_2_2 : s_rf 2 2 = 5 := by decide +kernel
theorem rf_114_2 : s_rf 114 2 = 116 := by decide +kernel
theorem ln_2 : s_len 2 = 3 := by decide +kernel
theorem ln_3 : s_len 3 = 3 := by decide +kernel
theorem ln_4 : s_len 4 = 3 := by decide +kernel
theorem ln_5 : s_len 5 = 3 := by decide +kernel
theorem ln_116 : s_len 116 = 9 := by decide +kernel
theorem st_0_0 : s_sv 0 0 = 3 ∧ s_sv 1 0 = 10 ∧ s_sv 0 2 = 1 ∧ s_sv 1 2 = 2 ∧ s_slen 0 = 3 ∧ s_slen 1 = 3 := by decide +kernel
theorem q_X6_stair {a p n : Int} {M : jMm} {Q : Int → jMm → Prop} (hn : M 1 3 = n) (h0 : 0 ≤ n) (h3 : n ≤ 3) (hq : if bt 3 a 10 = 0 ∨ bt 1 p 2 = 0 then Q (-1) M else if n = 3 then Q (-3) M else Q n (jwr (jwr (jwr (jwr (jwr (jwr M 3 n a) 4 n 0) 5 n p) 1 3 (n + 1)) 0 8 0) 0 9 0)) : f_X6_stair [0, a, p] M Q := by
  unfold f_X6_stair
  obtain ⟨s1, s2, s3, s4, s5, s6⟩ := st_0_0
  by_cases h1 : bt 3 a 10 = 0 <;> by_cases h2 : bt 1 p 2 = 0 <;> by_cases h5 : n = 3 <;> simp [h1, h2, h5] at hq <;> simp [jMeth, jIn, jup, tSeq, tIf, tSkip, tSet, tAst, tPut, tDo, tRet, kOr, kNot, kZ, kR, xV, xC, xCall, xsC, xsN, xSt, xBin, boAdd, xGf, xGr, xAr, rf_0_0, rf_1_0, rf_2_0, rf_2_1, rf_2_2, ln_2, ln_3, ln_4, ln_5, s1, s2, s3, s4, s5, s6, q_X6_isBetween, q_X6_tellAnew, hn, h1, h2, h5, jwr, ir] <;> first | exact hq | (simp_all; done) | (simp_all; omega)
theorem q_X7_stair {a p n : Int} {M : jMm} {Q : Int → jMm → Prop} (hn : M 114 1 = n) (h0 : 0 ≤ n) (h3 : n ≤ 3) (hq : if bt 3 a 10 = 0 ∨ bt 1 p 2 = 0 then Q (-1) M else if n = 3 then Q (-3) M else Q n (jwr (jwr (jwr (jwr M 116 (3 * n) a) 116 (3 * n + 1) 0) 116 (3 * n + 2) p) 114 1 (n + 1))) : f_X7_stair [114, a, p] M Q := by
  unfold f_X7_stair
  by_cases h1 : bt 3 a 10 = 0 <;> by_cases h2 : bt 1 p 2 = 0 <;> by_cases h5 : n = 3 <;> simp [h1, h2, h5] at hq <;> simp [jMeth, jIn, jup, tSeq, tIf, tSkip, tSet, tAst, tPut, tPutO, tDo, tRet, kOr, kNot, kZ, kR, xV, xC, xCall, xsC, xsN, xSt, xBin, boAdd, boSub, boMul, xGf, xGr, xAr, rf_114_2, ln_116, q_X7_isOf, hn, h1, h2, h5, jwr, ir] <;> first | exact hq | (simp_all; done) | (simp_all; omega) | (refine ⟨?_, ?_⟩ <;> simp_all <;> omega)
