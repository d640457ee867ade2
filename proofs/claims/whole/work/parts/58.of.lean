/-! of -/
theorem st_0_1 : s_sv 0 1 = 0 ∧ s_sv 1 1 = 2 := by decide +kernel
theorem bt_0 {a v b : Int} (h : ¬ bt a v b = 0) : a ≤ v ∧ v ≤ b := by
  unfold bt at h
  by_cases g : a ≤ v ∧ v ≤ b
  · exact g
  · rw [if_neg g] at h; exact absurd rfl h
def ofOk (w v : Int) : Int := if w = 0 then bt 3 v 10 else if w = 1 then bt 0 v 2 else bt 1 v 2
theorem q_X6_of {i w v n : Int} {M : jMm} {Q : Int → jMm → Prop} (hn : M 1 3 = n) (h0 : 0 ≤ n) (h3 : n ≤ 3) (hq : if bt 0 i (n - 1) = 0 ∨ bt 0 w 2 = 0 ∨ ofOk w v = 0 then Q (-1) M else Q (M (3 + w) i) (jwr (jwr (jwr M (3 + w) i v) 0 8 0) 0 9 0)) : f_X6_of [0, i, w, v] M Q := by
  unfold f_X6_of
  obtain ⟨s1, s2, s3, s4, s5, s6⟩ := st_0_0
  obtain ⟨s7, s8⟩ := st_0_1
  by_cases h1 : bt 0 i (n - 1) = 0
  · simp [h1] at hq
    simp [jMeth, jIn, jup, tSeq, tIf, tSkip, tRet, kOr, kNot, kZ, xV, xC, xCall, xsC, xsN, q_X6_isStair, hn, h1, ir]
    exact ⟨by omega, hq⟩
  · by_cases h2 : bt 0 w 2 = 0
    · simp [h1, h2] at hq
      simp [jMeth, jIn, jup, tSeq, tIf, tSkip, tRet, kOr, kNot, kZ, xV, xC, xCall, xsC, xsN, q_X6_isStair, q_X6_isBetween, hn, h1, h2, ir]
      exact ⟨by omega, hq⟩
    · obtain ⟨a1, a2⟩ := bt_0 h1
      obtain ⟨b1, b2⟩ := bt_0 h2
      have hw : w = 0 ∨ w = 1 ∨ w = 2 := by omega
      rcases hw with rfl | rfl | rfl
      · by_cases h4 : ofOk 0 v = 0 <;> simp [h1, h2, h4] at hq <;> simp [ofOk] at h4 <;> simp [jMeth, jIn, jup, tSeq, tIf, tSkip, tSet, tAst, tDo, tRet, kOr, kNot, kZ, xV, xC, xCall, xsC, xsN, xSt, xAl, xAr, xGr, rf_0_0, rf_1_0, rf_2_0, rf_2_1, rf_2_2, ln_2, ln_3, ln_4, ln_5, s1, s2, s3, s4, s5, s6, s7, s8, q_X6_isStair, q_X6_isBetween, q_X6_tellAnew, hn, h1, h2, h4, ir] <;> first | exact hq | (simp_all; done) | (simp_all; omega) | (refine ⟨?_, ?_⟩ <;> simp_all <;> omega)
      · by_cases h4 : ofOk 1 v = 0 <;> simp [h1, h2, h4] at hq <;> simp [ofOk] at h4 <;> simp [jMeth, jIn, jup, tSeq, tIf, tSkip, tSet, tAst, tDo, tRet, kOr, kNot, kZ, xV, xC, xCall, xsC, xsN, xSt, xAl, xAr, xGr, rf_0_0, rf_1_0, rf_2_0, rf_2_1, rf_2_2, ln_2, ln_3, ln_4, ln_5, s1, s2, s3, s4, s5, s6, s7, s8, q_X6_isStair, q_X6_isBetween, q_X6_tellAnew, hn, h1, h2, h4, ir] <;> first | exact hq | (simp_all; done) | (simp_all; omega) | (refine ⟨?_, ?_⟩ <;> simp_all <;> omega)
      · by_cases h4 : ofOk 2 v = 0 <;> simp [h1, h2, h4] at hq <;> simp [ofOk] at h4 <;> simp [jMeth, jIn, jup, tSeq, tIf, tSkip, tSet, tAst, tDo, tRet, kOr, kNot, kZ, xV, xC, xCall, xsC, xsN, xSt, xAl, xAr, xGr, rf_0_0, rf_1_0, rf_2_0, rf_2_1, rf_2_2, ln_2, ln_3, ln_4, ln_5, s1, s2, s3, s4, s5, s6, s7, s8, q_X6_isStair, q_X6_isBetween, q_X6_tellAnew, hn, h1, h2, h4, ir] <;> first | exact hq | (simp_all; done) | (simp_all; omega) | (refine ⟨?_, ?_⟩ <;> simp_all <;> omega)
