/-! the program: a stair goes on by a step -/
theorem jw1 {M : jMm} {k j v a b : Int} (h : a = k ∧ b = j) : jwr M k j v a b = v := by unfold jwr; rw [if_pos h]
theorem jw0 {M : jMm} {k j v a b : Int} (h : a ≠ k ∨ b ≠ j) : jwr M k j v a b = M a b := by unfold jwr; rw [if_neg (by omega)]
def gLd (t f q : Int) (g : jMm) : jMm := fun a b => if b = q then (if a = 123 then 3 else if a = 128 then f else if a = 129 then t else g a b) else g a b
theorem only_ld {t f q : Int} {g : jMm} : gOnly q g (gLd t f q g) := by
  refine ⟨⟨fun b _ => by simp [gLd], fun b => by simp [gLd]⟩, fun b => by simp [gLd], fun a b h ha => ?_⟩
  unfold gLd
  by_cases e : b = q
  · rw [if_pos e, if_neg (by omega), if_neg (by omega), if_neg (by omega)]
  · rw [if_neg e]
def mLd (d s t f q : Int) (M : jMm) : jMm := jwr (jwr (jwr (jwr (jwr M (d + 6 + q) 4 1) (d + 6 + q) 8 t) (d + 6 + q) 7 f) (d + 5) f (M (d + 5) f + 1)) (d + 20 + 2 * s) 5 (M (d + 20 + 2 * s) 5 - M (d + 6 + q) 3)
theorem pdC_land {d s t f q : Int} {M g : jMm} (S : pdC d M g) (s0 : 0 ≤ s) (s1 : s < g 114 1) (hk : g 114 1 ≤ 3) (q0 : 0 ≤ q) (q1 : q < g 114 5) (hn : g 114 5 ≤ 14) (on : gOn g q s) (hf : f = 0 ∨ f = 1) : pdC d (mLd d s t f q M) (gLd t f q g) := by
  have S' := S
  obtain ⟨⟨d1, d2, d3, d4, d5, d6, d7, d8, d9, d10⟩, sf, sp⟩ := S
  obtain ⟨on1, on2⟩ := on
  have o := only_ld (t := t) (f := f) (q := q) (g := g)
  have e1 : gLd t f q g 123 q = 3 := by simp [gLd]
  have e2 : gLd t f q g 128 q = f := by simp [gLd]
  have e3 : gLd t f q g 129 q = t := by simp [gLd]
  have e4 : ∀ a, a ≠ 123 → a ≠ 128 → a ≠ 129 → gLd t f q g a q = g a q := fun a h1 h2 h3 => by simp [gLd, h1, h2, h3]
  have P := sp q q0 q1
  obtain ⟨p1, p2, p3, p4, p5, p6, p7, p8, p9, p10⟩ := P
  refine pdC_step S' o (fun b b8 b9 => ?_) ?_ (fun b => ?_) ?_ ?_ (fun s' b s0' s1' hb => ?_) (fun s' s0' s1' => ?_) (fun p b p0 p1 hp => ?_) (fun _ _ => ?_) <;> unfold mLd
  · rw [jw0 (by omega), jw0 (by omega), jw0 (by omega), jw0 (by omega), jw0 (by omega)]
  · rw [jw0 (by omega), jw0 (by omega), jw0 (by omega), jw0 (by omega), jw0 (by omega), d3, cnt_only o q0 q1, on1, e1, if_neg (by decide), if_neg (by decide)]; omega
  · rw [jw0 (by omega), jw0 (by omega), jw0 (by omega), jw0 (by omega), jw0 (by omega)]
  · rw [there_only o q0 q1, on1, e1, e2, if_neg (by omega), jw0 (by omega)]
    by_cases c : f = 0
    · rw [jw1 (by omega), if_pos ⟨rfl, c⟩, c, d9]; omega
    · rw [jw0 (by omega), jw0 (by omega), jw0 (by omega), jw0 (by omega), if_neg (by omega), d9]; omega
  · rw [there_only o q0 q1, on1, e1, e2, if_neg (by omega), jw0 (by omega)]
    by_cases c : f = 1
    · rw [jw1 (by omega), if_pos ⟨rfl, c⟩, c, d10]; omega
    · rw [jw0 (by omega), jw0 (by omega), jw0 (by omega), jw0 (by omega), if_neg (by omega), d10]; omega
  · rw [jw0 (by omega), jw0 (by omega), jw0 (by omega), jw0 (by omega), jw0 (by omega)]
  · rw [weight_only o q0 q1]
    obtain ⟨-, -, -, -, f5⟩ := sf s' s0' s1'
    have z : ¬ gOn (gLd t f q g) q s' := fun z => by rw [gOn, e1] at z; exact absurd z.1 (by decide)
    rw [if_neg z]
    by_cases c : s' = s
    · subst c
      rw [jw1 ⟨rfl, rfl⟩, if_pos ⟨on1, on2⟩, f5, p4]; omega
    · have z2 : ¬ gOn g q s' := fun z => c (by rw [← z.2, on2])
      rw [jw0 (by omega), jw0 (by omega), jw0 (by omega), jw0 (by omega), jw0 (by omega), if_neg z2, f5]; omega
  · rw [jw0 (by omega), jw0 (by omega), jw0 (by omega), jw0 (by omega), jw0 (by omega)]
  · unfold pdP
    rw [e1, e2, e3, e4 124 (by decide) (by decide) (by decide), e4 131 (by decide) (by decide) (by decide), e4 130 (by decide) (by decide) (by decide), e4 132 (by decide) (by decide) (by decide), e4 200 (by decide) (by decide) (by decide), (o.1.2 _).2.2.1, (o.1.2 _).2.2.1]
    refine ⟨?_, ?_, ?_, ?_, ?_, ?_, ?_, fun _ => ⟨?_, ?_⟩, ?_, ?_⟩
    · rw [jw0 (by omega), jw0 (by omega), jw0 (by omega), jw0 (by omega), jw0 (by omega)]; exact p1
    · rw [jw0 (by omega), jw0 (by omega), jw0 (by omega), jw0 (by omega), jw0 (by omega)]; exact p2
    · rw [jw0 (by omega), jw0 (by omega), jw0 (by omega), jw0 (by omega), jw0 (by omega)]; exact p3
    · rw [jw0 (by omega), jw0 (by omega), jw0 (by omega), jw0 (by omega), jw0 (by omega)]; exact p4
    · rw [jw0 (by omega), jw0 (by omega), jw0 (by omega), jw0 (by omega), jw1 ⟨rfl, rfl⟩]; rfl
    · rw [jw0 (by omega), jw0 (by omega), jw0 (by omega), jw0 (by omega), jw0 (by omega)]; exact p6
    · rw [jw0 (by omega), jw0 (by omega), jw0 (by omega), jw0 (by omega), jw0 (by omega)]; exact p7
    · rw [jw0 (by omega), jw0 (by omega), jw1 ⟨rfl, rfl⟩]
    · rw [jw0 (by omega), jw0 (by omega), jw0 (by omega), jw1 ⟨rfl, rfl⟩]
    · rw [jw0 (by omega), jw0 (by omega), jw0 (by omega), jw0 (by omega), jw0 (by omega)]; exact p9
    · rw [jw0 (by omega), jw0 (by omega), jw0 (by omega), jw0 (by omega), jw0 (by omega)]; exact p10
theorem pd_land {d s y t r f : Int} {M : jMm} {Q : Int → jMm → Prop} (hd : isDay d) (s0 : 0 ≤ s) (s1 : s < 3) (l1 : 1 ≤ M (d + 20 + 2 * s) 1) (l2 : M (d + 20 + 2 * s) 1 ≤ 10) (y0 : 0 ≤ y) (y1 : y ≤ 1) (hr : M (d + 21 + 2 * s) (2 * (M (d + 20 + 2 * s) 1 - 1) + y) = r) (r1 : r < 14) (hf : f = if M (d + 20 + 2 * s) 2 = 2 then 0 else 1) (i1 : 0 ≤ M (d + 5) f ∧ M (d + 5) f ≤ 1000) (i2 : 0 ≤ r → -1000 ≤ M (d + 20 + 2 * s) 5 - M (d + 6 + r) 3 ∧ M (d + 20 + 2 * s) 5 - M (d + 6 + r) 3 ≤ 1000)
    (h0 : r < 0 ∨ M (d + 6 + r) 4 ≠ 2 → Q 0 M) (h1 : 0 ≤ r → M (d + 6 + r) 4 = 2 → Q 0 (mLd d s t f r M)) : f_X0_land [d, d + 20 + 2 * s, y, t] M Q := by
  unfold f_X0_land
  refine mt_ (sq_ (st_v (v := r) (fun Q => ?_) ?_))
  · have il : ir (M (d + 20 + 2 * s) 1 - 1) := ⟨by omega, by omega⟩
    simp only [xCall, xsC, xsN, xV, xC, xBin, boSub, xGf, jIn, reduceIte, Nat.reduceEqDiff, il, true_and]
    rw [pd_who hd s0 s1 l2, if_pos (by omega), hr]
  generalize hL : jup (jIn [0, 1, 2, 3] [d, d + 20 + 2 * s, y, t]) 4 r = L
  have L0 : L 0 = d := by rw [← hL]; rfl
  have L1 : L 1 = d + 20 + 2 * s := by rw [← hL]; rfl
  have L3 : L 3 = t := by rw [← hL]; rfl
  have L4 : L 4 = r := by rw [← hL]; rfl
  refine sq_ (if_pc (r ≥ 0 ∧ M (d + 6 + r) 4 = 2) (fun T F => propext ?_) (fun c => ?_) (fun c => ?_))
  · by_cases c : r ≥ 0
    · have r0 : 0 ≤ r := c
      simp only [kAnd, kZ, kR, xV, xC, xGf, xAr, xGr, L0, L4, drf0 hd, dln1 hd, drr hd r0 r1, c, r0, r1]
      simp
    · simp only [kAnd, kZ, xV, L4, c]
      simp
  · obtain ⟨c1, c2⟩ := c
    have r0 : 0 ≤ r := c1
    refine sq_ (st_v (v := d + 6 + r) (fun Q => ?_) ?_)
    · simp only [xAr, xGr, xV, L0, L4, drf0 hd, dln1 hd, drr hd r0 r1, r0, r1]
      simp
    generalize hL' : jup L 5 (d + 6 + r) = L'
    have L0' : L' 0 = d := by rw [← hL']; exact L0
    have L1' : L' 1 = d + 20 + 2 * s := by rw [← hL']; exact L1
    have L3' : L' 3 = t := by rw [← hL']; exact L3
    have L5' : L' 5 = d + 6 + r := by rw [← hL']; rfl
    have a1 : (jwr (jwr M (d + 6 + r) 4 1) (d + 6 + r) 8 t) (d + 20 + 2 * s) 2 = M (d + 20 + 2 * s) 2 := by rw [jw0 (by omega), jw0 (by omega)]
    have a2 : (jwr (jwr (jwr M (d + 6 + r) 4 1) (d + 6 + r) 8 t) (d + 6 + r) 7 f) (d + 6 + r) 7 = f := jw1 ⟨rfl, rfl⟩
    have a3 : (jwr (jwr (jwr M (d + 6 + r) 4 1) (d + 6 + r) 8 t) (d + 6 + r) 7 f) (d + 5) f = M (d + 5) f := by rw [jw0 (by omega), jw0 (by omega), jw0 (by omega)]
    have a4 : (jwr (jwr (jwr (jwr M (d + 6 + r) 4 1) (d + 6 + r) 8 t) (d + 6 + r) 7 f) (d + 5) f (M (d + 5) f + 1)) (d + 6 + r) 3 = M (d + 6 + r) 3 := by rw [jw0 (by omega), jw0 (by omega), jw0 (by omega), jw0 (by omega)]
    have a5 : (jwr (jwr (jwr (jwr M (d + 6 + r) 4 1) (d + 6 + r) 8 t) (d + 6 + r) 7 f) (d + 5) f (M (d + 5) f + 1)) (d + 20 + 2 * s) 5 = M (d + 20 + 2 * s) 5 := by rw [jw0 (by omega), jw0 (by omega), jw0 (by omega), jw0 (by omega)]
    have f2 : 0 ≤ f ∧ f < 2 := by rw [hf]; split <;> omega
    have j1 : ir (M (d + 5) f + 1) := ⟨by omega, by omega⟩
    have j2 : ir (M (d + 20 + 2 * s) 5 - M (d + 6 + r) 3) := ⟨by have := i2 r0; omega, by have := i2 r0; omega⟩
    have hq := h1 r0 c2
    unfold mLd at hq
    simp only [tSeq, tPut, tPutO, tAstO, tRet0, xV, xC, xGf, xGr, xCall, xsC, xsN, boAdd, boSub, L0', L1', L3', L5', pd_endFloor, a1, ← hf, a2, a3, a4, a5, drf4 hd, dln5 hd, f2, j1, j2, true_and]
    exact hq
  · exact h0 (by omega)
theorem pd_count {d s r l : Int} {M : jMm} {Q : Int → jMm → Prop} (hd : isDay d) (s0 : 0 ≤ s) (s1 : s < 3) (l1 : 1 ≤ M (d + 20 + 2 * s) 1) (l2 : M (d + 20 + 2 * s) 1 ≤ 10) (hr : M (d + 21 + 2 * s) (2 * (M (d + 20 + 2 * s) 1 - 1) + 0) = r) (hl : M (d + 21 + 2 * s) (2 * (M (d + 20 + 2 * s) 1 - 1) + 1) = l) : f_X1_countOnLastStep [d + 20 + 2 * s] M Q = Q ((if r < 0 then 0 else 1) + (if l < 0 ∨ l = r then 0 else 1)) M := by
  unfold f_X1_countOnLastStep
  have il : ir (M (d + 20 + 2 * s) 1 - 1) := ⟨by omega, by omega⟩
  have c1 : 0 ≤ M (d + 20 + 2 * s) 1 - 1 ∧ M (d + 20 + 2 * s) 1 - 1 < M (d + 20 + 2 * s) 1 ∧ (0 : Int) ≤ 0 ∧ (0 : Int) ≤ 1 := by omega
  have c2 : 0 ≤ M (d + 20 + 2 * s) 1 - 1 ∧ M (d + 20 + 2 * s) 1 - 1 < M (d + 20 + 2 * s) 1 ∧ (0 : Int) ≤ 1 ∧ (1 : Int) ≤ 1 := by omega
  apply propext
  have j1 : ir (0 + 1) := ⟨by decide, by decide⟩
  have j2 : ir (1 + 1) := ⟨by decide, by decide⟩
  simp only [jMeth, jIn, jup, tSeq, tIf, tSkip, tSet, tInc, tPut, tPutZ, tPutO, tAst, tAstO, tDo, tRet, tRetZ, tRet0, kAnd, kOr, kNot, kZ, kR, xV, xC, xGf, xGr, xAl, xAr, xSt, xLen, xBin, xUn, xNeg, xTern, xCall, xsC, xsN, boAdd, boSub, boMul, boDiv, boRem, boMax, boMin, boOr, boAnd, boShl, boShr, reduceIte, Nat.reduceEqDiff, il, true_and, pd_who hd s0 s1 l2, if_pos c1, if_pos c2, hr, hl]
  by_cases r0 : r < 0 <;> by_cases l0 : l < 0 <;> by_cases e : l = r <;> simp [-Int.not_lt, r0, l0, e] <;> (try (exact fun _ => j1)) <;> (try (exact fun _ => j2)) <;> (try omega) <;> (try (intro q; exact absurd q (by omega)))
theorem pd_goOneStep {d s : Int} {M : jMm} {Q : Int → jMm → Prop} (hd : isDay d) (s0 : 0 ≤ s) (s1 : s < 3) (l1 : 1 ≤ M (d + 20 + 2 * s) 1) (l2 : M (d + 20 + 2 * s) 1 ≤ 10) (hq : ∀ M' : jMm, (∀ a b, a ≠ d + 21 + 2 * s → M' a b = M a b) → M' (d + 21 + 2 * s) 0 = -1 → M' (d + 21 + 2 * s) 1 = -1 → (∀ b, 2 ≤ b → b < 2 * M (d + 20 + 2 * s) 1 → M' (d + 21 + 2 * s) b = M (d + 21 + 2 * s) (b - 2)) → Q 0 M') : f_X1_goOneStep [d + 20 + 2 * s] M Q := by
  unfold f_X1_goOneStep
  have il : ir (M (d + 20 + 2 * s) 1 - 1) := ⟨by omega, by omega⟩
  have i2 : ir (2 * (M (d + 20 + 2 * s) 1 - 1)) := ⟨by omega, by omega⟩
  have i3 : (0 : Int) ≤ 0 ∧ (0 : Int) ≤ 2 ∧ 0 ≤ 2 * (M (d + 20 + 2 * s) 1 - 1) ∧ 0 + 2 * (M (d + 20 + 2 * s) 1 - 1) ≤ 20 ∧ 2 + 2 * (M (d + 20 + 2 * s) 1 - 1) ≤ 20 := by omega
  simp only [jMeth, jIn, jup, tSeq, tIf, tSkip, tSet, tInc, tPut, tPutZ, tPutO, tAst, tAstO, tDo, tRet, tRetZ, tRet0, kAnd, kOr, kNot, kZ, kR, xV, xC, xGf, xGr, xAl, xAr, xSt, xLen, xBin, xUn, xNeg, xTern, xCall, xsC, xsN, boAdd, boSub, boMul, boDiv, boRem, boMax, boMin, boOr, boAnd, boShl, boShr, tCopy, reduceIte, Nat.reduceEqDiff, dfp hd s0 s1, dfl hd s0 s1]
  refine ⟨il, i2, i3, by decide, by decide, hq _ (fun a b ha => ?_) ?_ ?_ (fun b b2 bl => ?_)⟩
  · rw [jw0 (by omega), jw0 (by omega)]
    unfold jwR
    rw [if_neg (fun q => ha q.1)]
  · rw [jw0 (by omega), jw1 ⟨rfl, rfl⟩]
  · rw [jw1 ⟨rfl, rfl⟩]
  · rw [jw0 (by omega), jw0 (by omega)]
    unfold jwR
    rw [if_pos (by omega)]
    have : b - 2 + 0 = b - 2 := by omega
    show M _ (b - 2 + 0) = _
    rw [this]
