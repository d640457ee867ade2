/-! pairs: fate, at, on -/
theorem q_orNone {v : Int} {M : jMm} {Q : Int → jMm → Prop} : f_X6_orNone [v] M Q = Q (if v < 0 then -4 else v) M := by
  unfold f_X6_orNone
  apply propext
  by_cases c : v < 0 <;> simp [-Int.not_lt, jMeth, jIn, jup, tSeq, tIf, tSkip, tSet, tInc, tPut, tPutZ, tPutO, tAst, tAstO, tDo, tRet, tRetZ, tRet0, kAnd, kOr, kNot, kZ, kR, xV, xC, xGf, xGr, xAl, xAr, xSt, xLen, xBin, xUn, xNeg, xTern, xCall, xsC, xsN, boAdd, boSub, boMul, boDiv, boRem, boMax, boMin, boOr, boAnd, boShl, boShr, c]
theorem st_told {L : jLo} {M : jMm} {N : jLo → jMm → Prop} {R : Int → jMm → Prop} (h : f_X6_toldDay [L 0] M (fun v M1 => (0 ≤ L 1 ∧ L 1 < s_len (s_rf v 0)) ∧ N (jup L 3 (s_rf (s_rf v 0) (L 1))) M1)) : tSet 3 (xAr (xGr (xCall f_X6_toldDay (xsC (xV 0) xsN)) 0) (xV 1)) L M N R := h
theorem rcf {f : jMd} {j : Nat} {b : Int} {L : jLo} {M : jMm} {N : jLo → jMm → Prop} {R : Int → jMm → Prop} (h : f [M (L j) b] M R) : tRet (xCall f (xsC (xGf (xV j) b) xsN)) L M N R := h
def gFate (w p : Int) (g : jMm) : Int := if w = 0 then g 130 p else if w = 1 then g 131 p else if w = 2 then g 132 p else if w = 3 then gEnd g 133 p else g 200 p
theorem day_n {M : jMm} : gDay M 114 5 = M 114 5 ∧ gDay M 114 17 = -4 ∧ gDay M 114 1 = M 114 1 := by
  have s := same_run (c := M 114 3) (w := tw M) (g := gT M) 100
  refine ⟨(s.1 5 (by decide)).trans ?_, (s.1 17 (by decide)).trans ?_, (s.1 1 (by decide)).trans ?_⟩ <;> simp [gT, gBegin]
theorem qa_fate {p w : Int} {M : jMm} {Q : Int → jMm → Prop} (pl : iPl M) (c1 : ¬ bt 0 p (M 114 5 - 1) = 0) (c2 : ¬ bt 0 w 4 = 0) (hq : ∀ M', iFr M M' → Q (gFate w p (gDay M)) M') : f_X7_fate [114, p, w] M Q := by
  unfold f_X7_fate
  obtain ⟨w0, w4⟩ := bt_0 c2
  obtain ⟨p0, p1⟩ := bt_0 c1
  have ok := ok_day pl
  have hn0 := ok.1.1.2.2.1
  have hn := ok.1.1.2.2.2.1
  have en := gN_eq hn0
  rw [day_n.1] at hn0 hn en
  have i1 : ir (M 114 5 - 1) := ⟨by omega, by omega⟩
  refine mt_ (sq_ (if_pc False (fun T F => propext ?_) (fun c => c.elim) (fun _ => ?_)))
  · simp [kOr, kNot, kZ, xCall, xsC, xsN, xUn, xV, xC, jIn, q_X7_in, q_X7_isOne, i1, c1, c2]
  · refine sk_ (mo_days rfl pl (fun M1 S no F => ?_))
    have q := hq M1 F
    have p14 : p < 14 := by omega
    have a5 : gEnd (gDay M) 114 5 = M 114 5 := (gEnd_lo (by decide)).trans day_n.1
    obtain ⟨-, -, e30, e31, e32, e33, -⟩ := moS_get S p0 (by rw [a5]; omega)
    have e5 := S.2.2.2.2.1
    rw [gN_end] at e5
    have a31 : gEnd (gDay M) 200 = gDay M 200 := funext fun b => gEnd_lo (by decide)
    rw [a31] at e5
    have bit := gOr_bit (h := gDay M 200) p0 p14 (gN (gDay M)) (by omega) (fun q q0 q1 => (ok.2.1 q q0 (by rw [day_n.1]; omega)).1.2.2.2.2)
    rw [if_pos (by omega)] at bit
    rw [gEnd_lo (by decide)] at e30 e31 e32
    clear e5
    have e5 := S.2.2.2.2.1
    rw [gN_end, a31] at e5
    obtain rfl | rfl | rfl | rfl | rfl : w = 0 ∨ w = 1 ∨ w = 2 ∨ w = 3 ∨ w = 4 := by omega
    · simp [gFate] at q
      simp [jMeth, jIn, jup, tSeq, tIf, tSkip, tSet, tInc, tPut, tPutZ, tPutO, tAst, tAstO, tDo, tRet, tRetZ, tRet0, kAnd, kOr, kNot, kZ, kR, xV, xC, xGf, xGr, xAl, xAr, xSt, xLen, xBin, xUn, xNeg, xTern, xCall, xsC, xsN, boAdd, boSub, boMul, boDiv, boRem, boMax, boMin, boOr, boAnd, boShl, boShr, mrf0, mrf2, mrf6, mrf7, mrf11, mrf12, mrf13, mrf14, mrf18, mrf19, mrf20, mrf21, mrf22, mrf23, mrf24, mrf25, mrf26, mrf27, mrf28, mrf29, mrf30, mrf35, mrf36, mrf37, mrf38, mrf40, mrf41, mrf42, mrf43, mln115, mln116, mln117, mln118, mln119, mln120, mln121, mln122, mln123, mln124, mln125, mln126, mln127, mln128, mln129, mln130, mln131, mln132, mln133, mln134, mln135, mln136, mln137, mln138, mln139, mln140, mln141, mln142, mln143, jIn, p0, p14, e30]
      exact q
    · simp [gFate] at q
      simp [jMeth, jIn, jup, tSeq, tIf, tSkip, tSet, tInc, tPut, tPutZ, tPutO, tAst, tAstO, tDo, tRet, tRetZ, tRet0, kAnd, kOr, kNot, kZ, kR, xV, xC, xGf, xGr, xAl, xAr, xSt, xLen, xBin, xUn, xNeg, xTern, xCall, xsC, xsN, boAdd, boSub, boMul, boDiv, boRem, boMax, boMin, boOr, boAnd, boShl, boShr, mrf0, mrf2, mrf6, mrf7, mrf11, mrf12, mrf13, mrf14, mrf18, mrf19, mrf20, mrf21, mrf22, mrf23, mrf24, mrf25, mrf26, mrf27, mrf28, mrf29, mrf30, mrf35, mrf36, mrf37, mrf38, mrf40, mrf41, mrf42, mrf43, mln115, mln116, mln117, mln118, mln119, mln120, mln121, mln122, mln123, mln124, mln125, mln126, mln127, mln128, mln129, mln130, mln131, mln132, mln133, mln134, mln135, mln136, mln137, mln138, mln139, mln140, mln141, mln142, mln143, jIn, p0, p14, e31]
      exact q
    · simp [gFate] at q
      simp [jMeth, jIn, jup, tSeq, tIf, tSkip, tSet, tInc, tPut, tPutZ, tPutO, tAst, tAstO, tDo, tRet, tRetZ, tRet0, kAnd, kOr, kNot, kZ, kR, xV, xC, xGf, xGr, xAl, xAr, xSt, xLen, xBin, xUn, xNeg, xTern, xCall, xsC, xsN, boAdd, boSub, boMul, boDiv, boRem, boMax, boMin, boOr, boAnd, boShl, boShr, mrf0, mrf2, mrf6, mrf7, mrf11, mrf12, mrf13, mrf14, mrf18, mrf19, mrf20, mrf21, mrf22, mrf23, mrf24, mrf25, mrf26, mrf27, mrf28, mrf29, mrf30, mrf35, mrf36, mrf37, mrf38, mrf40, mrf41, mrf42, mrf43, mln115, mln116, mln117, mln118, mln119, mln120, mln121, mln122, mln123, mln124, mln125, mln126, mln127, mln128, mln129, mln130, mln131, mln132, mln133, mln134, mln135, mln136, mln137, mln138, mln139, mln140, mln141, mln142, mln143, jIn, p0, p14, e32]
      exact q
    · simp [gFate] at q
      simp [jMeth, jIn, jup, tSeq, tIf, tSkip, tSet, tInc, tPut, tPutZ, tPutO, tAst, tAstO, tDo, tRet, tRetZ, tRet0, kAnd, kOr, kNot, kZ, kR, xV, xC, xGf, xGr, xAl, xAr, xSt, xLen, xBin, xUn, xNeg, xTern, xCall, xsC, xsN, boAdd, boSub, boMul, boDiv, boRem, boMax, boMin, boOr, boAnd, boShl, boShr, mrf0, mrf2, mrf6, mrf7, mrf11, mrf12, mrf13, mrf14, mrf18, mrf19, mrf20, mrf21, mrf22, mrf23, mrf24, mrf25, mrf26, mrf27, mrf28, mrf29, mrf30, mrf35, mrf36, mrf37, mrf38, mrf40, mrf41, mrf42, mrf43, mln115, mln116, mln117, mln118, mln119, mln120, mln121, mln122, mln123, mln124, mln125, mln126, mln127, mln128, mln129, mln130, mln131, mln132, mln133, mln134, mln135, mln136, mln137, mln138, mln139, mln140, mln141, mln142, mln143, jIn, p0, p14, e33]
      exact q
    · simp [gFate] at q
      simp [jMeth, jIn, jup, tSeq, tIf, tSkip, tSet, tInc, tPut, tPutZ, tPutO, tAst, tAstO, tDo, tRet, tRetZ, tRet0, kAnd, kOr, kNot, kZ, kR, xV, xC, xGf, xGr, xAl, xAr, xSt, xLen, xBin, xUn, xNeg, xTern, xCall, xsC, xsN, boAdd, boSub, boMul, boDiv, boRem, boMax, boMin, boOr, boAnd, boShl, boShr, mrf0, mrf2, mrf6, mrf7, mrf11, mrf12, mrf13, mrf14, mrf18, mrf19, mrf20, mrf21, mrf22, mrf23, mrf24, mrf25, mrf26, mrf27, mrf28, mrf29, mrf30, mrf35, mrf36, mrf37, mrf38, mrf40, mrf41, mrf42, mrf43, mln115, mln116, mln117, mln118, mln119, mln120, mln121, mln122, mln123, mln124, mln125, mln126, mln127, mln128, mln129, mln130, mln131, mln132, mln133, mln134, mln135, mln136, mln137, mln138, mln139, mln140, mln141, mln142, mln143, jIn, p0, p14, e5, bit]
      exact q
theorem y_fate {p w : Int} : yPair Inv f_X6_fate f_X7_fate [p, w] := by
  intro M Q I hq
  obtain ⟨⟨pl, rl⟩, -⟩ := id I
  have n0 := pl.1.1.2.2.1
  have n14 := pl.1.1.2.2.2
  have r2 := rl.2.1
  have in1 : ir (M 114 5 - 1) := ⟨by omega, by omega⟩
  unfold f_X6_fate
  refine mt_ (sq_ (if_pc (bt 0 p (M 114 5 - 1) = 0 ∨ bt 0 w 4 = 0) (fun T F => propext ?_) (fun c => ?_) (fun c => ?_)))
  · by_cases c1 : bt 0 p (M 114 5 - 1) = 0 <;> by_cases c2 : bt 0 w 4 = 0 <;> simp [kOr, kNot, kZ, xCall, xsC, xsN, xV, xC, jIn, q_X6_isBetween, q_X6_isPerson, r2, in1, c1, c2]
  · show f_X7_fate [114, p, w] M _
    unfold f_X7_fate
    refine mt_ (sq_ (if_pc True (fun T F => propext ?_) (fun _ => hq _ _ I) (fun c => absurd trivial c)))
    by_cases c1 : bt 0 p (M 114 5 - 1) = 0 <;> by_cases c2 : bt 0 w 4 = 0 <;> first | (exfalso; simp [c1, c2] at c; done) | simp [kOr, kNot, kZ, xCall, xsC, xsN, xUn, xV, xC, jIn, q_X7_in, q_X7_isOne, in1, c1, c2]
  · have c1 : ¬ bt 0 p (M 114 5 - 1) = 0 := fun z => c (.inl z)
    have c2 : ¬ bt 0 w 4 = 0 := fun z => c (.inr z)
    obtain ⟨p0, p1⟩ := bt_0 c1
    obtain ⟨w0, w4⟩ := bt_0 c2
    have p14 : p < 14 := by omega
    have hd : isDay 28 := .inl rfl
    refine sk_ (sq_ (st_told (pd_toldDay I (fun M1 I1 Z F => ?_))))
    have f5 : M1 114 5 = M 114 5 := F _ _ (by decide) (by decide)
    have g := gT_eq (P := M) (P' := M1) (fun b _ => F _ _ (by decide) (by omega)) (fun b => ⟨F _ _ (by decide) (by omega), F _ _ (by decide) (by omega), F _ _ (by decide) (by omega)⟩)
    have gd : gDay M1 = gDay M := by unfold gDay; rw [g.1, g.2.1, F 114 3 (by decide) (by decide)]
    have fin : ∀ v, v = gFate w p (gDay M) → f_X7_fate [114, p, w] M1 (fun b M2 => Q v b M2) := fun v hv => qa_fate I1.1.1 (by rw [f5]; exact c1) c2 (fun M2 F2 => by
      rw [gd, hv]; exact hq _ _ (Inv_fr I1 F2))
    obtain ⟨S, -, h12, -⟩ := Z
    have ok := ok_day pl
    have pn : p < gDay M 114 5 := by rw [day_n.1]; omega
    have P := S.1.2.2 p p0 pn
    obtain ⟨x0, -, -, -, -, x5, x6, -, x9, x10⟩ := P
    obtain ⟨⟨b1, b2, b3, b4, b5⟩, hA, hB, hC, -, -, hE, hE'⟩ := ok.2.1 p p0 pn
    have h17 := (day_n (M := M)).2.1
    have bp := ok.1.2.1 p p0 pn
    change M1 (28 + 6 + p) 0 = gDay M 117 (3 * p) at x0
    change M1 (28 + 6 + p) 5 = gDay M 131 p at x5
    change M1 (28 + 6 + p) 6 = gDay M 130 p at x6
    change M1 (28 + 6 + p) 9 = gDay M 132 p at x9
    change M1 (28 + 6 + p) 10 = gDay M 200 p at x10
    generalize hG : gDay M = G at *
    generalize f_X7_fate = X7 at *
    have k1 : ¬ G 123 p = 0 := fun z => by have := hA.mp z; omega
    refine ⟨by rw [drf0 hd, dln1 hd]; exact ⟨p0, p14⟩, ?_⟩
    rw [drf0 hd]
    have L3 : ∀ (L : jLo) (z : Int), jup L 3 z 3 = z := fun L z => rfl
    have er : s_rf (28 + 1) (jIn [0, 1, 2] [0, p, w] 1) = 28 + 6 + p := drr hd p0 p14
    rw [er]
    unfold gFate at fin
    refine sw_ (v := w) (fun Q => rfl) ?_
    by_cases d0 : w = 0
    · simp only [if_pos d0] at fin
      refine swY d0 (rcf ?_)
      rw [L3, x6, q_orNone]
      refine fin _ ?_
      by_cases k2 : G 123 p < 2
      · have := hB k2; rw [if_pos (by omega)]; omega
      · have := hC (by omega); rw [if_neg (by omega)]
    · simp only [if_neg d0] at fin
      refine swN d0 ?_
      by_cases d1 : w = 1
      · simp only [if_pos d1] at fin
        refine swY d1 (rcf ?_)
        rw [L3, x5, q_orNone]
        refine fin _ ?_
        by_cases k2 : G 123 p < 2
        · have := hB k2; rw [if_pos (by omega)]; omega
        · have := hC (by omega); rw [if_neg (by omega)]
      · simp only [if_neg d1] at fin
        refine swN d1 ?_
        by_cases d2 : w = 2
        · simp only [if_pos d2] at fin
          refine swY d2 (rcf ?_)
          rw [L3, x9, q_orNone]
          refine fin _ ?_
          by_cases k2 : G 123 p = 4
          · have := hE k2; rw [if_neg (by omega)]
          · have := hE' k2; rw [if_pos (by omega)]; omega
        · simp only [if_neg d2] at fin
          refine swN d2 ?_
          by_cases d3 : w = 3
          · simp only [if_pos d3] at fin
            refine swY d3 (rc1 ?_)
            rw [L3]
            have g130 : -4 ≤ G 130 p ∧ G 130 p ≤ 99 := by
              by_cases k2 : G 123 p < 2
              · have := hB k2; omega
              · have := hC (by omega); omega
            rw [pd_countWait (by rw [x0]; exact ⟨by omega, by omega⟩) (by rw [x0, x6]; exact ⟨by omega, by omega⟩), x0, x6]
            refine fin _ ?_
            unfold gEnd
            by_cases k2 : G 123 p = 1
            · have := hB (by omega)
              rw [if_pos (by omega), if_pos ⟨rfl, p0, pn, k2⟩]
            · have := hC (by omega)
              rw [if_neg (by omega), if_neg (fun z => k2 z.2.2.2)]; omega
          · simp only [if_neg d3] at fin
            refine swN d3 (swE (rt_ ?_))
            show (M1 (28 + 6 + p) 10 ≠ 0 → X7 [114, p, w] M1 (fun b M2 => Q 1 b M2)) ∧ (¬ M1 (28 + 6 + p) 10 ≠ 0 → X7 [114, p, w] M1 (fun b M2 => Q 0 b M2))
            rw [x10]
            exact ⟨fun z => fin _ (by omega), fun z => fin _ (by omega)⟩
