/-! pairs: person, told, strike, count -/
def addP (t f k : Int) (P : jMm) : jMm := jwr (jwr (jwr (jwr P 117 (3 * P 114 5) t) 117 (3 * P 114 5 + 1) f) 117 (3 * P 114 5 + 2) k) 114 5 (P 114 5 + 1)
def addX (t f k : Int) (M : jMm) : jMm := jwr (jwr (jwr (jwr M 7 (M 1 4) t) 8 (M 1 4) f) 9 (M 1 4) k) 1 4 (M 1 4 + 1)
theorem addP_lo {t f k a b : Int} {P : jMm} (h1 : a ≠ 117) (h2 : a ≠ 114 ∨ b ≠ 5) : addP t f k P a b = P a b := by unfold addP; rw [jw0 (by omega), jw0 (by omega), jw0 (by omega), jw0 (by omega)]
theorem addP_n {t f k : Int} {P : jMm} : addP t f k P 114 5 = P 114 5 + 1 := by unfold addP; rw [jw1 ⟨rfl, rfl⟩]
theorem addP_7 {t f k b : Int} {P : jMm} : addP t f k P 117 b = if b = 3 * P 114 5 then t else if b = 3 * P 114 5 + 1 then f else if b = 3 * P 114 5 + 2 then k else P 117 b := by
  unfold addP
  rw [jw0 (.inl (by decide))]
  by_cases y2 : b = 3 * P 114 5 + 2
  · rw [jw1 ⟨rfl, y2⟩, if_neg (by omega), if_neg (by omega), if_pos y2]
  · rw [jw0 (.inr y2)]
    by_cases y1 : b = 3 * P 114 5 + 1
    · rw [jw1 ⟨rfl, y1⟩, if_neg (by omega), if_pos y1]
    · rw [jw0 (.inr y1)]
      by_cases y0 : b = 3 * P 114 5
      · rw [jw1 ⟨rfl, y0⟩, if_pos y0]
      · rw [jw0 (.inr y0), if_neg y0, if_neg y1, if_neg y2]
theorem addX_lo {t f k a b : Int} {M : jMm} (h1 : a ≠ 7) (h2 : a ≠ 8) (h3 : a ≠ 9) (h4 : a ≠ 1 ∨ b ≠ 4) : addX t f k M a b = M a b := by unfold addX; rw [jw0 (by omega), jw0 (by omega), jw0 (by omega), jw0 (by omega)]
theorem iPl_add {t f k : Int} {P : jMm} (h : iPl P) (hn : P 114 5 < 14) (ht : 0 ≤ t ∧ t ≤ 99) (hf : 0 ≤ f ∧ f ≤ 1) (hk : 0 ≤ k ∧ k ≤ 4) : iPl (addP t f k P) := by
  obtain ⟨⟨⟨k0, k3, n0, n14⟩, pp, ps, pset⟩, pw, pc, pr, pch⟩ := h
  have a5 : addP t f k P 115 = P 115 := funext fun b => addP_lo (by decide) (.inl (by decide))
  have a6 : addP t f k P 116 = P 116 := funext fun b => addP_lo (by decide) (.inl (by decide))
  have b1 : addP t f k P 114 1 = P 114 1 := addP_lo (by decide) (.inr (by decide))
  have b3 : addP t f k P 114 3 = P 114 3 := addP_lo (by decide) (.inr (by decide))
  have b4 : addP t f k P 114 4 = P 114 4 := addP_lo (by decide) (.inr (by decide))
  unfold iPl gPl
  rw [a5, a6, b1, b3, b4, addP_n]
  refine ⟨⟨⟨k0, k3, by omega, by omega⟩, fun p p0 p1 => ?_, ps, pset⟩, pw, pc, pr, pch⟩
  rw [addP_7, addP_7, addP_7]
  by_cases e : p = P 114 5
  · rw [if_pos (by omega), if_neg (by omega), if_pos (by omega), if_neg (by omega), if_neg (by omega), if_pos (by omega)]
    omega
  · rw [if_neg (by omega), if_neg (by omega), if_neg (by omega), if_neg (by omega), if_neg (by omega), if_neg (by omega), if_neg (by omega), if_neg (by omega), if_neg (by omega)]
    exact pp p p0 (by omega)
theorem rel_add {t f k : Int} {M P : jMm} (h : pRel M P) : pRel (addX t f k M) (addP t f k P) := by
  obtain ⟨r1, r2, r3, r4, r5, r6, r7⟩ := h
  have a5 : addP t f k P 115 = P 115 := funext fun b => addP_lo (by decide) (.inl (by decide))
  have a6 : addP t f k P 116 = P 116 := funext fun b => addP_lo (by decide) (.inl (by decide))
  have b1 : addP t f k P 114 1 = P 114 1 := addP_lo (by decide) (.inr (by decide))
  have b3 : addP t f k P 114 3 = P 114 3 := addP_lo (by decide) (.inr (by decide))
  have b4 : addP t f k P 114 4 = P 114 4 := addP_lo (by decide) (.inr (by decide))
  have c1 : ∀ a b, a ≠ 7 → a ≠ 8 → a ≠ 9 → (a ≠ 1 ∨ b ≠ 4) → addX t f k M a b = M a b := fun a b => addX_lo
  have x7 : ∀ b, addX t f k M 7 b = if b = P 114 5 then t else M 7 b := fun b => by unfold addX; rw [jw0 (by omega), jw0 (by omega), jw0 (by omega), r2]; simp [jr]
  have x8 : ∀ b, addX t f k M 8 b = if b = P 114 5 then f else M 8 b := fun b => by
    unfold addX; rw [jw0 (by omega), jw0 (by omega), r2]
    by_cases e : b = P 114 5
    · rw [jw1 ⟨rfl, e⟩, if_pos e]
    · rw [jw0 (.inr e), jw0 (by omega), if_neg e]
  have x9 : ∀ b, addX t f k M 9 b = if b = P 114 5 then k else M 9 b := fun b => by
    unfold addX; rw [jw0 (by omega), r2]
    by_cases e : b = P 114 5
    · rw [jw1 ⟨rfl, e⟩, if_pos e]
    · rw [jw0 (.inr e), jw0 (by omega), jw0 (by omega), if_neg e]
  have x4 : addX t f k M 1 4 = P 114 5 + 1 := by unfold addX; rw [jw1 ⟨rfl, rfl⟩, r2]
  unfold pRel
  rw [a5, a6, b1, b3, b4, addP_n, x4, c1 1 3 (by decide) (by decide) (by decide) (.inr (by decide)), c1 1 5 (by decide) (by decide) (by decide) (.inr (by decide)), c1 1 6 (by decide) (by decide) (by decide) (.inr (by decide))]
  refine ⟨r1, rfl, r3, r4, fun j j0 j6 => ?_, fun s s0 s1 => ?_, fun p p0 p1 => ?_⟩
  · rw [c1 _ _ (by decide) (by decide) (by decide) (.inl (by decide))]; exact r5 j j0 j6
  · rw [c1 3 _ (by decide) (by decide) (by decide) (.inl (by decide)), c1 4 _ (by decide) (by decide) (by decide) (.inl (by decide)), c1 5 _ (by decide) (by decide) (by decide) (.inl (by decide))]; exact r6 s s0 s1
  · rw [x7, x8, x9, addP_7, addP_7, addP_7]
    by_cases e : p = P 114 5
    · rw [if_pos e, if_pos e, if_pos e, if_pos (by omega), if_neg (by omega), if_pos (by omega), if_neg (by omega), if_neg (by omega), if_pos (by omega)]
      exact ⟨rfl, rfl, rfl⟩
    · rw [if_neg e, if_neg e, if_neg e, if_neg (by omega), if_neg (by omega), if_neg (by omega), if_neg (by omega), if_neg (by omega), if_neg (by omega), if_neg (by omega), if_neg (by omega), if_neg (by omega)]
      exact r7 p p0 (by omega)
theorem sk_ {L : jLo} {M : jMm} {N : jLo → jMm → Prop} {R : Int → jMm → Prop} (h : N L M) : tSkip L M N R := h
theorem rt_ {e : jEx} {L : jLo} {M : jMm} {N : jLo → jMm → Prop} {R : Int → jMm → Prop} (h : e L M R) : tRet e L M N R := h
theorem q_add {t f k : Int} {M : jMm} {Q : Int → jMm → Prop} (h0 : 0 ≤ M 1 4) (h1 : M 1 4 < 14) : f_X2_addPerson [1, t, f, k] M Q = Q 0 (addX t f k M) := by
  unfold f_X2_addPerson
  obtain ⟨g1, g2, g3, g4, g5, g6, g7, g8, g9⟩ := prf1
  obtain ⟨u2, u3, u4, u5, u6, u7, u8, u9, u10⟩ := pln1
  have i1 : ir (M 1 4 + 1) := ⟨by omega, by omega⟩
  have e1 : jwr M 7 (M 1 4) t 1 4 = M 1 4 := jw0 (by omega)
  have e2 : jwr (jwr M 7 (M 1 4) t) 8 (M 1 4) f 1 4 = M 1 4 := by rw [jw0 (by omega), jw0 (by omega)]
  have e3 : jwr (jwr (jwr M 7 (M 1 4) t) 8 (M 1 4) f) 9 (M 1 4) k 1 4 = M 1 4 := by rw [jw0 (by omega), jw0 (by omega), jw0 (by omega)]
  apply propext
  simp [jMeth, jIn, jup, tSeq, tIf, tSkip, tSet, tInc, tPut, tPutZ, tPutO, tAst, tAstO, tDo, tRet, tRetZ, tRet0, kAnd, kOr, kNot, kZ, kR, xV, xC, xGf, xGr, xAl, xAr, xSt, xLen, xBin, xUn, xNeg, xTern, xCall, xsC, xsN, boAdd, boSub, boMul, boDiv, boRem, boMax, boMin, boOr, boAnd, boShl, boShr, g2, g7, g8, g9, u6, u7, u8, u9, h0, h1, e1, e2, e3, i1, addX]
theorem q_comes {t f k : Int} {M : jMm} {Q : Int → jMm → Prop} (h0 : 0 ≤ M 114 5) (h1 : M 114 5 < 14) : f_X7_comes [114, t, f, k] M Q = Q (M 114 5) (addP t f k M) := by
  unfold f_X7_comes
  have i1 : ir (3 * M 114 5) := ⟨by omega, by omega⟩
  have i2 : ir (3 * M 114 5 + 1) := ⟨by omega, by omega⟩
  have i3 : ir (3 * M 114 5 + 2) := ⟨by omega, by omega⟩
  have i4 : ir (M 114 5 + 1) := ⟨by omega, by omega⟩
  have i5 : ir (M 114 5) := ⟨by omega, by omega⟩
  have j1 : 0 ≤ 3 * M 114 5 ∧ 3 * M 114 5 < 42 := by omega
  have j2 : 0 ≤ 3 * M 114 5 + 1 ∧ 3 * M 114 5 + 1 < 42 := by omega
  have j3 : 0 ≤ 3 * M 114 5 + 2 ∧ 3 * M 114 5 + 2 < 42 := by omega
  have e1 : ∀ (u : Int) v (M' : jMm), jwr M' 117 u v 114 5 = M' 114 5 := fun u v M' => jw0 (.inl (by decide))
  have e2 : ∀ (v : Int) (M' : jMm), jwr M' 114 5 v 114 5 = v := fun v M' => jw1 ⟨rfl, rfl⟩
  have e3 : M 114 5 + 1 - 1 = M 114 5 := by omega
  apply propext
  simp only [jMeth, jIn, jup, tSeq, tIf, tSkip, tSet, tInc, tPut, tPutZ, tPutO, tAst, tAstO, tDo, tRet, tRetZ, tRet0, kAnd, kOr, kNot, kZ, kR, xV, xC, xGf, xGr, xAl, xAr, xSt, xLen, xBin, xUn, xNeg, xTern, xCall, xsC, xsN, boAdd, boSub, boMul, boDiv, boRem, boMax, boMin, boOr, boAnd, boShl, boShr, reduceIte, Nat.reduceEqDiff, mrf6, mln117, e1, e2, e3, i1, i2, i3, i4, i5, j1, j2, j3, true_and, and_self, addP]
theorem st2v : s_sv 2 0 = 99 ∧ s_sv 2 1 = 1 ∧ s_sv 2 2 = 4 ∧ s_slen 2 = 3 := by decide +kernel
theorem y_person {t f k : Int} : yPair Inv f_X6_person f_X7_person [t, f, k] := by
  intro M Q I hq
  obtain ⟨⟨pl, rl⟩, -⟩ := id I
  have n0 := pl.1.1.2.2.1
  have n14 := pl.1.1.2.2.2
  have r2 := rl.2.1
  obtain ⟨e0, e1, e2, e3⟩ := st2v
  obtain ⟨i3, i4, i5⟩ : ((0 : Int) ≤ 0 ∧ (0 : Int) < 3) ∧ ((0 : Int) ≤ 1 ∧ (1 : Int) < 3) ∧ ((0 : Int) ≤ 2 ∧ (2 : Int) < 3) := by decide
  unfold f_X6_person
  refine mt_ (sq_ (if_pc (bt 0 t 99 = 0 ∨ bt 0 f 1 = 0 ∨ bt 0 k 4 = 0) (fun T F => propext ?_) (fun c => ?_) (fun c => ?_)))
  · by_cases c1 : bt 0 t 99 = 0 <;> by_cases c2 : bt 0 f 1 = 0 <;> by_cases c3 : bt 0 k 4 = 0 <;> simp [kOr, kNot, kZ, xCall, xsC, xsN, xSt, xV, xC, jIn, q_X6_isBetween, e0, e1, e2, e3, c1, c2, c3]
  · show f_X7_person [114, t, f, k] M _
    unfold f_X7_person
    refine mt_ (sq_ (if_pc True (fun T F => propext ?_) (fun _ => hq _ _ I) (fun c => absurd trivial c)))
    by_cases c1 : bt 0 t 99 = 0 <;> by_cases c2 : bt 0 f 1 = 0 <;> by_cases c3 : bt 0 k 4 = 0 <;> first | (exfalso; simp [c1, c2, c3] at c; done) | simp [kOr, kNot, kZ, xCall, xsC, xsN, xUn, xV, xC, jIn, q_X7_in, c1, c2, c3]
  · obtain ⟨t0, t1⟩ := bt_0 (fun z => c (.inl z))
    obtain ⟨f0, f1⟩ := bt_0 (fun z => c (.inr (.inl z)))
    obtain ⟨k0, k1⟩ := bt_0 (fun z => c (.inr (.inr z)))
    have model : ∀ (M1 : jMm) (Q1 : Int → jMm → Prop), (M1 114 5 = M 114 5) → (M 114 5 = 14 → Q1 (-3) M1) → (M 114 5 < 14 → Q1 (M 114 5) (addP t f k M1)) → f_X7_person [114, t, f, k] M1 Q1 := fun M1 Q1 h5 hA hB => by
      unfold f_X7_person
      refine mt_ (sq_ (if_pc False (fun T F => propext ?_) (fun c => c.elim) (fun _ => ?_)))
      · have c1 : ¬ bt 0 t 99 = 0 := fun z => c (.inl z)
        have c2 : ¬ bt 0 f 1 = 0 := fun z => c (.inr (.inl z))
        have c3 : ¬ bt 0 k 4 = 0 := fun z => c (.inr (.inr z))
        simp [kOr, kNot, kZ, xCall, xsC, xsN, xUn, xV, xC, jIn, q_X7_in, c1, c2, c3]
      · by_cases h : M 114 5 = 14
        · have := hA h
          refine sk_ (rt_ ?_)
          simp only [xTern, kR, xGf, xV, xC, jIn, reduceIte, h5, h]
          exact ⟨fun _ => this, fun z => absurd trivial z⟩
        · have := hB (by omega)
          have qc := q_comes (t := t) (f := f) (k := k) (M := M1) (Q := Q1) (by omega) (by omega)
          rw [h5] at qc
          generalize hF : f_X7_comes = F0 at *
          refine sk_ (rt_ ?_)
          simp only [xTern, kR, xGf, xV, xC, xCall, xsC, xsN, jIn, reduceIte, Nat.reduceEqDiff, h5]
          exact ⟨fun z => absurd z h, fun _ => by rw [qc]; exact this⟩
    refine sq_ (if_pc (M 114 5 ≥ 14) (fun T F => propext ?_) (fun h => ?_) (fun h => ?_))
    · simp [-Int.not_le, kR, xGf, xGr, xV, xC, jIn, rf_0_0, r2]
    · refine model M _ rfl (fun _ => hq _ _ I) (fun z => by omega)
    · have h14 : M 114 5 < 14 := by omega
      refine sq_ (do4e (x0 := 1) (x1 := t) (x2 := f) (x3 := k) (fun Q => by simp only [xGr, xV, jIn, reduceIte, rf_0_0]) (fun Q => rfl) (fun Q => rfl) (fun Q => rfl) ?_)
      rw [q_add (by omega) (by omega)]
      refine sq_ (do1 ?_)
      show f_X6_tellAnew [0] _ _
      rw [q_X6_tellAnew]
      have x4 : addX t f k M 1 4 = M 114 5 + 1 := by unfold addX; rw [jw1 ⟨rfl, rfl⟩, r2]
      generalize hM1 : jwr (jwr (addX t f k M) 0 8 0) 0 9 0 = M1
      have m1 : ∀ a b, a ≠ 0 → M1 a b = addX t f k M a b := fun a b h => by rw [← hM1, jw0 (by omega), jw0 (by omega)]
      have e08 : M1 0 8 = 0 := by rw [← hM1, jw0 (by omega), jw1 ⟨rfl, rfl⟩]
      have e09 : M1 0 9 = 0 := by rw [← hM1, jw1 ⟨rfl, rfl⟩]
      have e02 : M1 0 2 = M 0 2 := by rw [← hM1, jw0 (by omega), jw0 (by omega), addX_lo (by decide) (by decide) (by decide) (.inl (by decide))]
      clear hM1
      have hi : ∀ a b, 10 < a → M1 a b = M a b := fun a b h => by rw [m1 _ _ (by omega), addX_lo (by omega) (by omega) (by omega) (.inl (by omega))]
      have i1 : ir (M 114 5) := ⟨by omega, by omega⟩
      show tRet (xBin boSub (xGf (xGr (xV 0) 0) 4) (xC 1)) _ M1 _ _
      have x4' : M1 1 4 = M 114 5 + 1 := by rw [m1 _ _ (by decide)]; exact x4
      have e3' : M 114 5 + 1 - 1 = M 114 5 := by omega
      simp only [tRet, xBin, boSub, xGf, xGr, xV, xC, jIn, reduceIte, rf_0_0, x4', e3', i1, true_and]
      refine model M1 _ (hi _ _ (by decide)) (fun z => by omega) (fun _ => hq _ _ (Inv_anew I ?_ ?_ ?_ ?_ ?_ (fun a b h => ?_)))
      · refine iPl_eq (iPl_add (t := t) (f := f) (k := k) pl h14 ⟨t0, t1⟩ ⟨f0, f1⟩ ⟨k0, k1⟩) (fun b hb => ?_) (fun b => ⟨?_, ?_, ?_⟩)
        · by_cases b5 : b = 5
          · subst b5; rw [addP_n, addP_n, hi _ _ (by decide)]
          · rw [addP_lo (by decide) (.inr b5), addP_lo (by decide) (.inr b5), hi _ _ (by decide)]
        · rw [addP_lo (by decide) (.inl (by decide)), addP_lo (by decide) (.inl (by decide)), hi _ _ (by decide)]
        · rw [addP_lo (by decide) (.inl (by decide)), addP_lo (by decide) (.inl (by decide)), hi _ _ (by decide)]
        · rw [addP_7, addP_7, hi _ _ (by decide), hi _ _ (by decide)]
      · refine pRel_eq (rel_add (t := t) (f := f) (k := k) rl) (fun a b ha h0 => ?_) (fun b hb => ?_) (fun b => ⟨?_, ?_, ?_⟩)
        · rw [addP_lo (by omega) (.inl (by omega)), m1 _ _ h0]
        · by_cases b5 : b = 5
          · subst b5; rw [addP_n, addP_n, hi _ _ (by decide)]
          · rw [addP_lo (by decide) (.inr b5), addP_lo (by decide) (.inr b5), hi _ _ (by decide)]
        · rw [addP_lo (by decide) (.inl (by decide)), addP_lo (by decide) (.inl (by decide)), hi _ _ (by decide)]
        · rw [addP_lo (by decide) (.inl (by decide)), addP_lo (by decide) (.inl (by decide)), hi _ _ (by decide)]
        · rw [addP_7, addP_7, hi _ _ (by decide), hi _ _ (by decide)]
      · rw [addP_lo (by decide) (.inl (by decide))]; exact e08
      · rw [addP_lo (by decide) (.inl (by decide))]; exact e09
      · rw [addP_lo (by decide) (.inl (by decide))]; exact e02
      · rw [addP_lo (by omega) (by omega), hi _ _ (by omega)]
theorem y_told {p w : Int} : yPair Inv f_X6_told f_X7_told [p, w] := by
  intro M Q I hq
  obtain ⟨⟨pl, rl⟩, -⟩ := id I
  have n0 := pl.1.1.2.2.1
  have n14 := pl.1.1.2.2.2
  obtain ⟨r1, r2, r3, r4, r5, r6, r7⟩ := rl
  obtain ⟨g1, g2, g3, g4, g5, g6, g7, g8, g9⟩ := prf1
  obtain ⟨u2, u3, u4, u5, u6, u7, u8, u9, u10⟩ := pln1
  have in1 : ir (M 114 5 - 1) := ⟨by omega, by omega⟩
  unfold f_X6_told
  refine mt_ (sq_ (if_pc (bt 0 p (M 114 5 - 1) = 0 ∨ bt 0 w 3 = 0) (fun T F => propext ?_) (fun c => ?_) (fun c => ?_)))
  · by_cases c1 : bt 0 p (M 114 5 - 1) = 0 <;> by_cases c2 : bt 0 w 3 = 0 <;> simp [kOr, kNot, kZ, xCall, xsC, xsN, xV, xC, jIn, q_X6_isBetween, q_X6_isPerson, r2, in1, c1, c2]
  · show f_X7_told [114, p, w] M _
    unfold f_X7_told
    refine mt_ (sq_ (if_pc True (fun T F => propext ?_) (fun _ => hq _ _ I) (fun c => absurd trivial c)))
    by_cases c1 : bt 0 p (M 114 5 - 1) = 0 <;> by_cases c2 : bt 0 w 3 = 0 <;> first | (exfalso; simp [c1, c2] at c; done) | simp [kOr, kNot, kZ, xCall, xsC, xsN, xUn, xV, xC, jIn, q_X7_in, q_X7_isOne, in1, c1, c2]
  · obtain ⟨p0, p1⟩ := bt_0 (fun z => c (.inl z))
    obtain ⟨w0, w3⟩ := bt_0 (fun z => c (.inr z))
    have p14 : p < 14 := by omega
    have kd := pl.1.2.1 p p0 (by omega)
    obtain ⟨q1, q2, q3⟩ := r7 p p0 (by omega)
    have c1 : ¬ bt 0 p (M 114 5 - 1) = 0 := fun z => c (.inl z)
    have c2 : ¬ bt 0 w 3 = 0 := fun z => c (.inr z)
    have model : ∀ (Q1 : Int → jMm → Prop), Q1 (if w < 3 then M 117 (3 * p + w) else wt (M 117 (3 * p + 2))) M → f_X7_told [114, p, w] M Q1 := fun Q1 h => by
      unfold f_X7_told
      refine mt_ (sq_ (if_pc False (fun T F => propext ?_) (fun c => c.elim) (fun _ => ?_)))
      · simp [kOr, kNot, kZ, xCall, xsC, xsN, xUn, xV, xC, jIn, q_X7_in, q_X7_isOne, in1, c1, c2]
      · have i1 : ir (3 * p) := ⟨by omega, by omega⟩
        have i2 : ir (3 * p + w) := ⟨by omega, by omega⟩
        have i3 : ir (3 * p + 2) := ⟨by omega, by omega⟩
        have j3 : 0 ≤ 3 * p + 2 ∧ 3 * p + 2 < 42 := by omega
        by_cases h3 : w < 3
        · rw [if_pos h3] at h
          have j2 : 0 ≤ 3 * p + w ∧ 3 * p + w < 42 := by omega
          refine sk_ (rt_ ?_)
          simp only [xTern, kR, xBin, boAdd, boMul, xAl, xGr, xV, xC, jIn, reduceIte, Nat.reduceEqDiff, mrf6, mln117, i1, i2, j2, true_and]
          exact ⟨fun _ => h, fun z => absurd h3 z⟩
        · rw [if_neg h3] at h
          refine sk_ (rt_ ?_)
          simp only [xTern, kR, xBin, boAdd, boMul, xAl, xGr, xV, xC, xCall, xsC, xsN, jIn, reduceIte, Nat.reduceEqDiff, mrf6, mln117, i1, i2, i3, j3, true_and, mo_weightOf]
          exact ⟨fun z => absurd z h3, fun _ => h⟩
    refine sk_ (rt_ ?_)
    have i3 : (0 : Int) ≤ 2 ∧ (2 : Int) < 3 := by decide
    have a := hq (if w < 3 then M 117 (3 * p + w) else wt (M 117 (3 * p + 2))) M I
    have b := model (fun y M2 => Q (if w < 3 then M 117 (3 * p + w) else wt (M 117 (3 * p + 2))) y M2) a
    have wo : ∀ Q1 : Int → jMm → Prop, f_X6_weightOf [M 9 p] M Q1 = Q1 (wt (M 117 (3 * p + 2))) M := fun Q1 => by rw [q3]; exact pd_weightOf kd.2.2.2.2.1 kd.2.2.2.2.2
    generalize f_X7_told = X7 at *
    generalize f_X6_weightOf = WO at *
    simp only [xTern, kR, xAl, xAr, xGr, xV, xC, xCall, xsC, xsN, jIn, reduceIte, Nat.reduceEqDiff, rf_0_0, g2, u6, i3, g9, u9, p0, p14, true_and, and_self, wo]
    refine ⟨fun z => ⟨⟨w0, by omega⟩, ?_⟩, fun z => ?_⟩
    · have w2 : w < 3 := by omega
      rw [if_pos w2] at b
      obtain rfl | rfl | rfl : w = 0 ∨ w = 1 ∨ w = 2 := by omega
      · rw [g7, u7, q1]
        rw [show 3 * p + 0 = 3 * p by omega] at b
        exact ⟨p14, b⟩
      · rw [g8, u8, q2]; exact ⟨p14, b⟩
      · rw [g9, u9, q3]; exact ⟨p14, b⟩
    · rw [if_neg (by omega)] at b; exact b
