/-! what small methods answer, as equations -/
def bt (a v b : Int) : Int := if a ≤ v ∧ v ≤ b then 1 else 0
theorem bt_01 (a v b : Int) : bt a v b = 0 ∨ bt a v b = 1 := by unfold bt; split <;> simp
theorem q_X6_isBetween {v a b : Int} {M : jMm} {Q : Int → jMm → Prop} : f_X6_isBetween [v, a, b] M Q = Q (bt a v b) M := by
  unfold f_X6_isBetween bt
  apply propext
  by_cases h1 : a ≤ v <;> by_cases h2 : v ≤ b <;> simp [jMeth, jIn, tRetZ, xTern, kAnd, kR, xV, xC, h1, h2]
theorem q_X7_in {v a b : Int} {M : jMm} {Q : Int → jMm → Prop} : f_X7_in [v, a, b] M Q = Q (bt a v b) M := by
  unfold f_X7_in bt
  apply propext
  by_cases h1 : a ≤ v <;> by_cases h2 : v ≤ b <;> simp [jMeth, jIn, tRetZ, xTern, kAnd, kR, xV, xC, h1, h2]
theorem q_X7_isOf {k v : Int} {M : jMm} {Q : Int → jMm → Prop} : f_X7_isOf [k, v] M Q = Q (if k = 0 then bt 3 v 10 else if k = 1 then bt 0 v 2 else bt 1 v 2) M := by
  unfold f_X7_isOf
  apply propext
  by_cases h1 : k = 0 <;> by_cases h2 : k = 1 <;> simp [jMeth, jIn, tRetZ, xTern, kAnd, kR, kZ, xV, xC, xCall, xsC, xsN, xUn, q_X7_in, bt_01, h1, h2]
