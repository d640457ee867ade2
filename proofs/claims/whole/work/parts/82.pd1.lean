/-! the program's day holds a ghost -/
def ph (x : Int) : Int := if x = 0 then 4 else if x = 1 then 0 else if x = 2 then 2 else if x = 3 then 1 else 3
def pdP (d : Int) (M g : jMm) (p : Int) : Prop := M (d + 6 + p) 0 = g 117 (3 * p) ∧ M (d + 6 + p) 1 = g 117 (3 * p + 1) ∧ M (d + 6 + p) 2 = g 124 p ∧ M (d + 6 + p) 3 = wt (g 124 p) ∧ M (d + 6 + p) 4 = ph (g 123 p) ∧ M (d + 6 + p) 5 = g 131 p ∧ M (d + 6 + p) 6 = g 130 p ∧ (g 123 p = 3 → M (d + 6 + p) 7 = g 128 p ∧ M (d + 6 + p) 8 = g 129 p) ∧ M (d + 6 + p) 9 = g 132 p ∧ M (d + 6 + p) 10 = g 200 p
def pdF (d : Int) (M g : jMm) (s : Int) : Prop := M (d + 20 + 2 * s) 1 = g 116 (3 * s) ∧ M (d + 20 + 2 * s) 2 = g 134 s ∧ M (d + 20 + 2 * s) 3 = g 122 s ∧ M (d + 20 + 2 * s) 4 = g 135 s ∧ M (d + 20 + 2 * s) 5 = gWeight g s
def pdX (d : Int) (M g : jMm) (s : Int) : Prop := ∀ x y, 0 ≤ x → x < g 116 (3 * s) → 0 ≤ y → y ≤ 1 → -1 ≤ M (d + 21 + 2 * s) (2 * x + y) ∧ ∀ p, 0 ≤ p → (M (d + 21 + 2 * s) (2 * x + y) = p ↔ (p < g 114 5 ∧ gAt g p s x y))
def pdD (d : Int) (M g : jMm) : Prop := M d 5 = g 114 1 ∧ M d 6 = g 114 5 ∧ M d 9 = gCnt g ∧ M d 13 = g 114 34 ∧ M d 14 = g 114 32 ∧ M d 15 = g 114 33 ∧ M (d + 3) 0 = g 114 16 ∧ (∀ j, 1 ≤ j → j ≤ 6 → M (d + 3) j = g 115 j) ∧ M (d + 5) 0 = gThere g 0 ∧ M (d + 5) 1 = gThere g 1
def pdC (d : Int) (M g : jMm) : Prop := pdD d M g ∧ (∀ s, 0 ≤ s → s < g 114 1 → pdF d M g s) ∧ (∀ p, 0 ≤ p → p < g 114 5 → pdP d M g p)
def pdS (d : Int) (M g : jMm) : Prop := pdC d M g ∧ ∀ s, 0 ≤ s → s < g 114 1 → pdX d M g s
def pdFr (d : Int) (M M' : jMm) : Prop := (∀ a b, (a < d ∨ d + 26 ≤ a) → M' a b = M a b) ∧ (∀ b, (b = 7 ∨ b = 8 ∨ b = 10 ∨ b = 11 ∨ b = 12) → M' d b = M d b) ∧ ∀ b, M' (d + 4) b = M (d + 4) b
theorem pdFr_rfl {d : Int} {M : jMm} : pdFr d M M := ⟨fun _ _ _ => rfl, fun _ _ => rfl, fun _ => rfl⟩
theorem pdFr_tr {d : Int} {M M' M'' : jMm} (h : pdFr d M M') (h' : pdFr d M' M'') : pdFr d M M'' := ⟨fun a b n => (h'.1 a b n).trans (h.1 a b n), fun b n => (h'.2.1 b n).trans (h.2.1 b n), fun b => (h'.2.2 b).trans (h.2.2 b)⟩
def pdCell (d k j : Int) : Prop := d ≤ k ∧ k < d + 26 ∧ k ≠ d + 4 ∧ (k = d → ¬ (j = 7 ∨ j = 8 ∨ j = 10 ∨ j = 11 ∨ j = 12))
theorem pdFr_wr {d k j v : Int} {M M' : jMm} (h : pdFr d M M') (c : pdCell d k j) : pdFr d M (jwr M' k j v) := by
  obtain ⟨c1, c2, c3, c4⟩ := c
  refine ⟨fun a b n => ?_, fun b n => ?_, fun b => ?_⟩ <;> unfold jwr
  · rw [if_neg (by omega)]; exact h.1 a b n
  · rw [if_neg (fun q => c4 q.1.symm (by rw [← q.2]; exact n))]; exact h.2.1 b n
  · rw [if_neg (by omega)]; exact h.2.2 b
/-- a ghost that differs at one of the people -/
def gOnly (q : Int) (g g' : jMm) : Prop := gSame g g' ∧ (∀ b, g' 114 b = g 114 b) ∧ ∀ a b, (b ≠ q ∨ a = 134 ∨ a = 135) → 123 ≤ a → g' a b = g a b
theorem only_N {q : Int} {g g' : jMm} (o : gOnly q g g') : gN g' = gN g := by
  show (g' 114 5).toNat = _
  rw [o.2.1]
theorem weight_only {q s : Int} {g g' : jMm} (o : gOnly q g g') (q0 : 0 ≤ q) (q1 : q < g 114 5) : gWeight g' s = gWeight g s - (if gOn g q s then wt (g 124 q) else 0) + (if gOn g' q s then wt (g' 124 q) else 0) := by
  unfold gWeight
  rw [only_N o]
  have en : ((gN g : Nat) : Int) = g 114 5 := gN_eq (by omega)
  exact sm_upd (f := fun p => if gOn g p s then wt (g 124 p) else 0) (h := fun p => if gOn g' p s then wt (g' 124 p) else 0) (gN g) q0 (by omega) (fun p _ _ hp => by
    show (if g' 123 p = 2 ∧ g' 125 p = s then wt (g' 124 p) else 0) = _
    rw [o.2.2 123 p (.inl hp) (by decide), o.2.2 125 p (.inl hp) (by decide), o.2.2 124 p (.inl hp) (by decide)])
theorem there_only {q f : Int} {g g' : jMm} (o : gOnly q g g') (q0 : 0 ≤ q) (q1 : q < g 114 5) : gThere g' f = gThere g f - (if g 123 q = 3 ∧ g 128 q = f then 1 else 0) + (if g' 123 q = 3 ∧ g' 128 q = f then 1 else 0) := by
  unfold gThere
  rw [only_N o]
  have en : ((gN g : Nat) : Int) = g 114 5 := gN_eq (by omega)
  exact sm_upd (f := fun p => if g 123 p = 3 ∧ g 128 p = f then 1 else 0) (h := fun p => if g' 123 p = 3 ∧ g' 128 p = f then 1 else 0) (gN g) q0 (by omega) (fun p _ _ hp => by
    show (if g' 123 p = 3 ∧ g' 128 p = f then (1 : Int) else 0) = _
    rw [o.2.2 123 p (.inl hp) (by decide), o.2.2 128 p (.inl hp) (by decide)])
theorem cnt_only {q : Int} {g g' : jMm} (o : gOnly q g g') (q0 : 0 ≤ q) (q1 : q < g 114 5) : gCnt g' = gCnt g - (if g 123 q = 1 then 1 else 0) + (if g' 123 q = 1 then 1 else 0) := by
  unfold gCnt
  rw [only_N o]
  have en : ((gN g : Nat) : Int) = g 114 5 := gN_eq (by omega)
  exact sm_upd (f := fun p => if g 123 p = 1 then 1 else 0) (h := fun p => if g' 123 p = 1 then 1 else 0) (gN g) q0 (by omega) (fun p _ _ hp => by
    show (if g' 123 p = 1 then (1 : Int) else 0) = _
    rw [o.2.2 123 p (.inl hp) (by decide)])
theorem pdP_fr {d p : Int} {M g M' g' : jMm} (h : pdP d M g p) (e : ∀ b, M' (d + 6 + p) b = M (d + 6 + p) b) (sm : gSame g g') (eg : ∀ a, 123 ≤ a → a ≠ 126 → a ≠ 134 → a ≠ 135 → g' a p = g a p) : pdP d M' g' p := by
  unfold pdP at h ⊢
  simp only [e, (sm.2 _).2.2.1, eg 123 (by decide) (by decide) (by decide) (by decide), eg 124 (by decide) (by decide) (by decide) (by decide), eg 128 (by decide) (by decide) (by decide) (by decide), eg 129 (by decide) (by decide) (by decide) (by decide), eg 130 (by decide) (by decide) (by decide) (by decide), eg 131 (by decide) (by decide) (by decide) (by decide), eg 132 (by decide) (by decide) (by decide) (by decide), eg 200 (by decide) (by decide) (by decide) (by decide)]
  exact h
theorem pdC_step {d q : Int} {M g M' g' : jMm} (S : pdC d M g) (o : gOnly q g g')
    (hD : ∀ b, b ≠ 8 → b ≠ 9 → M' d b = M d b) (h9 : M' d 9 = gCnt g') (h3 : ∀ b, M' (d + 3) b = M (d + 3) b) (hc0 : M' (d + 5) 0 = gThere g' 0) (hc1 : M' (d + 5) 1 = gThere g' 1)
    (hf : ∀ s b, 0 ≤ s → s < g 114 1 → b ≠ 5 → M' (d + 20 + 2 * s) b = M (d + 20 + 2 * s) b) (hw : ∀ s, 0 ≤ s → s < g 114 1 → M' (d + 20 + 2 * s) 5 = gWeight g' s)
    (hp : ∀ p b, 0 ≤ p → p < g 114 5 → p ≠ q → M' (d + 6 + p) b = M (d + 6 + p) b) (hq : 0 ≤ q → q < g 114 5 → pdP d M' g' q) : pdC d M' g' := by
  obtain ⟨⟨d1, d2, d3, d4, d5, d6, d7, d8, d9, d10⟩, sf, sp⟩ := S
  obtain ⟨sm, o1, o2⟩ := o
  refine ⟨⟨?_, ?_, h9, ?_, ?_, ?_, ?_, fun j j1 j2 => ?_, hc0, hc1⟩, fun s s0 s1 => ?_, fun p p0 p1 => ?_⟩
  · rw [hD _ (by decide) (by decide), o1]; exact d1
  · rw [hD _ (by decide) (by decide), o1]; exact d2
  · rw [hD _ (by decide) (by decide), o1]; exact d4
  · rw [hD _ (by decide) (by decide), o1]; exact d5
  · rw [hD _ (by decide) (by decide), o1]; exact d6
  · rw [h3, o1]; exact d7
  · rw [h3, (sm.2 j).1]; exact d8 j j1 j2
  · have s1 : s < g 114 1 := by rw [o1] at s1; exact s1
    obtain ⟨f1, f2, f3, f4, f5⟩ := sf s s0 s1
    refine ⟨?_, ?_, ?_, ?_, hw s s0 s1⟩
    · rw [hf s _ s0 s1 (by decide), (sm.2 _).2.1]; exact f1
    · rw [hf s _ s0 s1 (by decide), o2 _ _ (.inr (.inl rfl)) (by decide)]; exact f2
    · rw [hf s _ s0 s1 (by decide), (sm.2 _).2.2.2]; exact f3
    · rw [hf s _ s0 s1 (by decide), o2 _ _ (.inr (.inr rfl)) (by decide)]; exact f4
  · have p1 : p < g 114 5 := by rw [o1] at p1; exact p1
    by_cases e : p = q
    · subst e; exact hq p0 p1
    · exact pdP_fr (sp p p0 p1) (fun b => hp p b p0 p1 e) sm (fun a h _ _ _ => o2 a p (.inl e) h)
theorem pdX_fr {d s : Int} {M g M' g' : jMm} (h : pdX d M g s) (e : ∀ b, M' (d + 21 + 2 * s) b = M (d + 21 + 2 * s) b) (sm : gSame g g') (eg : ∀ p x y, 0 ≤ p → p < g 114 5 → (gAt g' p s x y ↔ gAt g p s x y)) : pdX d M' g' s := by
  intro x y x0 x1 y0 y1
  rw [(sm.2 _).2.1] at x1
  obtain ⟨h1, h2⟩ := h x y x0 x1 y0 y1
  rw [e]
  refine ⟨h1, fun p p0 => ?_⟩
  rw [h2 p p0, sm.1 5 (by decide)]
  exact ⟨fun q => ⟨q.1, (eg p x y p0 q.1).mpr q.2⟩, fun q => ⟨q.1, (eg p x y p0 q.1).mp q.2⟩⟩
/-! a stair's questions, in the program -/
theorem pd_who {d s x y : Int} {M : jMm} {Q : Int → jMm → Prop} (hd : isDay d) (s0 : 0 ≤ s) (s1 : s < 3) (hl : M (d + 20 + 2 * s) 1 ≤ 10) : f_X1_who [d + 20 + 2 * s, x, y] M Q = Q (if 0 ≤ x ∧ x < M (d + 20 + 2 * s) 1 ∧ 0 ≤ y ∧ y ≤ 1 then M (d + 21 + 2 * s) (2 * x + y) else -1) M := by
  unfold f_X1_who
  by_cases c : 0 ≤ x ∧ x < M (d + 20 + 2 * s) 1 ∧ 0 ≤ y ∧ y ≤ 1
  · rw [if_pos c]
    obtain ⟨c1, c2, c3, c4⟩ := c
    have i1 : ir (2 * x) := ⟨by omega, by omega⟩
    have i2 : ir (2 * x + y) := ⟨by omega, by omega⟩
    have i3 : 0 ≤ 2 * x + y ∧ 2 * x + y < 20 := by omega
    apply propext
    simp only [jMeth, jIn, jup, tSeq, tIf, tSkip, tSet, tInc, tPut, tPutZ, tPutO, tAst, tAstO, tDo, tRet, tRetZ, tRet0, kAnd, kOr, kNot, kZ, kR, xV, xC, xGf, xGr, xAl, xAr, xSt, xLen, xBin, xUn, xNeg, xTern, xCall, xsC, xsN, boAdd, boSub, boMul, boDiv, boRem, boMax, boMin, boOr, boAnd, boShl, boShr, reduceIte, Nat.reduceEqDiff, dfp hd s0 s1, dfl hd s0 s1]
    simp only [i1, i2, i3, c1, c2, c3, c4]
    simp
  · rw [if_neg c]
    apply propext
    by_cases c1 : 0 ≤ x <;> by_cases c2 : x < M (d + 20 + 2 * s) 1 <;> by_cases c3 : 0 ≤ y <;> by_cases c4 : y ≤ 1 <;> first | omega | (simp only [jMeth, jIn, jup, tSeq, tIf, tSkip, tSet, tInc, tPut, tPutZ, tPutO, tAst, tAstO, tDo, tRet, tRetZ, tRet0, kAnd, kOr, kNot, kZ, kR, xV, xC, xGf, xGr, xAl, xAr, xSt, xLen, xBin, xUn, xNeg, xTern, xCall, xsC, xsN, boAdd, boSub, boMul, boDiv, boRem, boMax, boMin, boOr, boAnd, boShl, boShr, reduceIte, Nat.reduceEqDiff]; simp only [c1, c2, c3, c4]; simp)
theorem pd_put {d s x y p : Int} {M : jMm} {Q : Int → jMm → Prop} (hd : isDay d) (s0 : 0 ≤ s) (s1 : s < 3) (hl : M (d + 20 + 2 * s) 1 ≤ 10) (x0 : 0 ≤ x) (x1 : x < M (d + 20 + 2 * s) 1) (y0 : 0 ≤ y) (y1 : y ≤ 1) : f_X1_put [d + 20 + 2 * s, x, y, p] M Q = Q 0 (jwr M (d + 21 + 2 * s) (2 * x + y) p) := by
  unfold f_X1_put
  have i1 : ir (2 * x) := ⟨by omega, by omega⟩
  have i2 : ir (2 * x + y) := ⟨by omega, by omega⟩
  have i3 : 0 ≤ 2 * x + y ∧ 2 * x + y < 20 := by omega
  apply propext
  simp only [jMeth, jIn, jup, tSeq, tIf, tSkip, tSet, tInc, tPut, tPutZ, tPutO, tAst, tAstO, tDo, tRet, tRetZ, tRet0, kAnd, kOr, kNot, kZ, kR, xV, xC, xGf, xGr, xAl, xAr, xSt, xLen, xBin, xUn, xNeg, xTern, xCall, xsC, xsN, boAdd, boSub, boMul, boDiv, boRem, boMax, boMin, boOr, boAnd, boShl, boShr, reduceIte, Nat.reduceEqDiff, dfp hd s0 s1, dfl hd s0 s1]
  simp only [i1, i2, i3, x0, x1, y0, y1]
  simp
theorem pd_moves {k : Int} {M : jMm} {Q : Int → jMm → Prop} : f_X1_moves [k] M Q = Q (if M k 2 ≠ 0 ∧ M k 4 = 0 then 1 else 0) M := by
  unfold f_X1_moves
  apply propext
  by_cases c : M k 2 = 0 <;> by_cases c2 : M k 4 = 0 <;> simp [jMeth, jIn, jup, tSeq, tIf, tSkip, tSet, tInc, tPut, tPutZ, tPutO, tAst, tAstO, tDo, tRet, tRetZ, tRet0, kAnd, kOr, kNot, kZ, kR, xV, xC, xGf, xGr, xAl, xAr, xSt, xLen, xBin, xUn, xNeg, xTern, xCall, xsC, xsN, boAdd, boSub, boMul, boDiv, boRem, boMax, boMin, boOr, boAnd, boShl, boShr, c, c2]
theorem pd_endFloor {k : Int} {M : jMm} {Q : Int → jMm → Prop} : f_X1_endFloor [k] M Q = Q (if M k 2 = 2 then 0 else 1) M := by
  unfold f_X1_endFloor
  apply propext
  by_cases c : M k 2 = 2 <;> simp [jMeth, jIn, jup, tSeq, tIf, tSkip, tSet, tInc, tPut, tPutZ, tPutO, tAst, tAstO, tDo, tRet, tRetZ, tRet0, kAnd, kOr, kNot, kZ, kR, xV, xC, xGf, xGr, xAl, xAr, xSt, xLen, xBin, xUn, xNeg, xTern, xCall, xsC, xsN, boAdd, boSub, boMul, boDiv, boRem, boMax, boMin, boOr, boAnd, boShl, boShr, c]
theorem pd_startFloor {k : Int} {M : jMm} {Q : Int → jMm → Prop} : f_X1_startFloor [k] M Q = Q (if M k 2 = 2 then 1 else 0) M := by
  unfold f_X1_startFloor
  apply propext
  by_cases c : M k 2 = 2 <;> simp [jMeth, jIn, jup, tSeq, tIf, tSkip, tSet, tInc, tPut, tPutZ, tPutO, tAst, tAstO, tDo, tRet, tRetZ, tRet0, kAnd, kOr, kNot, kZ, kR, xV, xC, xGf, xGr, xAl, xAr, xSt, xLen, xBin, xUn, xNeg, xTern, xCall, xsC, xsN, boAdd, boSub, boMul, boDiv, boRem, boMax, boMin, boOr, boAnd, boShl, boShr, c]
theorem pd_goThrough {k t : Int} {M : jMm} {Q : Int → jMm → Prop} : f_X3_goThrough [k, t] M Q = Q 0 (jwr (jwr M k 4 3) k 9 t) := by
  unfold f_X3_goThrough
  apply propext
  simp [jMeth, jIn, jup, tSeq, tIf, tSkip, tSet, tInc, tPut, tPutZ, tPutO, tAst, tAstO, tDo, tRet, tRetZ, tRet0, kAnd, kOr, kNot, kZ, kR, xV, xC, xGf, xGr, xAl, xAr, xSt, xLen, xBin, xUn, xNeg, xTern, xCall, xsC, xsN, boAdd, boSub, boMul, boDiv, boRem, boMax, boMin, boOr, boAnd, boShl, boShr]
theorem pd_countWait {k : Int} {M : jMm} {Q : Int → jMm → Prop} (h1 : ir (100 - M k 0)) (h2 : ir (M k 6 - M k 0)) : f_X3_countWait [k] M Q = Q (if M k 6 < 0 then 100 - M k 0 else M k 6 - M k 0) M := by
  unfold f_X3_countWait
  apply propext
  by_cases c : M k 6 < 0 <;> simp [-Int.not_lt, jMeth, jIn, jup, tSeq, tIf, tSkip, tSet, tInc, tPut, tPutZ, tPutO, tAst, tAstO, tDo, tRet, tRetZ, tRet0, kAnd, kOr, kNot, kZ, kR, xV, xC, xGf, xGr, xAl, xAr, xSt, xLen, xBin, xUn, xNeg, xTern, xCall, xsC, xsN, boAdd, boSub, boMul, boDiv, boRem, boMax, boMin, boOr, boAnd, boShl, boShr, c, h1, h2]
