/-! the model goes on: a stair by one step; walks -/
def upto (j : Int) (h g : jMm) : jMm := fun a b => if b < j ∧ 123 ≤ a then h a b else g a b
theorem moS_get {M g : jMm} {p : Int} (S : moS M g) (h0 : 0 ≤ p) (h1 : p < g 114 5) : moP M g p := S.2.2.2.1 p h0 h1
theorem upto_at {j : Int} {h g : jMm} {a : Int} : upto j h g a j = g a j := by
  unfold upto
  rw [if_neg (by omega)]
theorem upto_lo {j : Int} {h g : jMm} {a b : Int} (ha : a < 123) : upto j h g a b = g a b := by
  unfold upto
  rw [if_neg (by omega)]
theorem moP_up {M h g : jMm} {j : Int} (P : moP M (upto j h g) j) : moP M g j := by
  unfold moP at P ⊢
  simp only [upto_at] at P
  exact P
theorem moS_up {M M' h g : jMm} (j : Int) (S : moS M (upto j h g)) (hd : ∀ a b, 133 < a → h a b = g a b) (hM : ∀ a b, (b ≠ j ∨ a < 123 ∨ 133 < a) → M' a b = M a b) (hP : moP M' h j) : moS M' (upto (j + 1) h g) := by
  refine moS_at j S hM (fun a b c => ?_) ?_
  · by_cases e : b = j
    · by_cases q : a < 123
      · rw [upto_lo q, upto_lo q]
      · subst e
        have : 133 < a := by omega
        unfold upto
        rw [if_pos (by omega), if_neg (by omega), hd _ _ this]
    · unfold upto
      by_cases q : b < j ∧ 123 ≤ a
      · rw [if_pos (by omega), if_pos q]
      · rw [if_neg (by omega), if_neg q]
  · have e : ∀ a, 123 ≤ a → upto (j + 1) h g a j = h a j := fun a ha => by
      unfold upto
      rw [if_pos (by omega)]
    unfold moP at hP ⊢
    rw [e 123 (by decide), e 124 (by decide), e 125 (by decide), e 126 (by decide), e 127 (by decide), e 128 (by decide), e 129 (by decide), e 130 (by decide), e 131 (by decide), e 132 (by decide), e 133 (by decide)]
    exact hP
theorem upto_0 {h g : jMm} (hh : ∀ a b, b < 0 → h a b = g a b) : upto 0 h g = g := by
  funext a b
  unfold upto
  split
  · rename_i c; exact hh a b c.1
  · rfl
theorem upto_n {h g : jMm} {n : Int} (hh : ∀ a b, n ≤ b ∨ a < 123 → h a b = g a b) : upto n h g = h := by
  funext a b
  unfold upto
  split
  · rfl
  · exact (hh a b (by omega)).symm
theorem moS_n {M h g : jMm} {j : Int} (S : moS M (upto j h g)) : M 114 5 = g 114 5 := by
  have := S.1.2.1
  rwa [upto_lo (by decide)] at this
theorem moS_cnt {M g : jMm} {j v : Int} (S : moS M g) (h : j = 32 ∨ j = 33 ∨ j = 34) : moS (jwr M 114 j v) (jwr g 114 j v) := by
  obtain ⟨⟨s1, s2, s3, s4⟩, sj, ss, sp, s5, s6, s7, s8⟩ := S
  have e200 : (jwr g 114 j v) 200 = g 200 := funext fun b => by simp [jwr]
  have en : gN (jwr g 114 j v) = gN g := by rcases h with rfl | rfl | rfl <;> simp [gN, jwr]
  refine ⟨?_, fun i => ?_, fun s h0 h1 => ?_, fun p h0 h1 => ?_, ?_, ?_⟩
  · rcases h with rfl | rfl | rfl <;> simp [jwr, s1, s2, s3, s4]
  · simpa [jwr] using sj i
  · simpa [jwr] using ss s h0 h1
  · have := sp p h0 (by rcases h with rfl | rfl | rfl <;> simpa [jwr] using h1)
    simpa [moP, jwr] using this
  · rw [e200, en]
    rcases h with rfl | rfl | rfl <;> simp [jwr, s5]
  · rcases h with rfl | rfl | rfl <;> simp [jwr, s6, s7, s8]
theorem mo_goesOne {M g : jMm} {t s : Int} {Q : Int → jMm → Prop} (S : moS M g) (v : gV g) (hp : ∀ p, 0 ≤ p → p < g 114 5 → gPer (t + 1) g p) (s0 : 0 ≤ s) (s1 : s < g 114 1) (c0 : 0 ≤ g 114 32) (c1 : g 114 32 ≤ 100000)
    (hj : gJam g s → ∀ M', moS M' (jwr g 114 32 (g 114 32 + 1)) → mFr M M' → Q 0 M') (hm : ¬ gJam g s → ∀ M', moS M' (gMove t s g) → mFr M M' → Q 1 M') : f_X7_goesOne [114, s, t] M Q := by
  unfold f_X7_goesOne
  have hn0 := v.1.2.2.1
  have hn := v.1.2.2.2.1
  have hk := v.1.2.1
  have en := gN_eq hn0
  have vs := v.2.2.1 s s0 s1
  obtain ⟨-, e134, -⟩ := S.2.2.1 s s0 (by omega)
  have hs3 : s < 3 := by omega
  have e116 : M 116 (3 * s) = g 116 (3 * s) := (S.2.1 _).2.1
  refine mt_ (sq_ (st_v (v := g 116 (3 * s) - 1) (fun Q => ?_) (sq_ (set_tern (g 134 s = 1) (fun T F => ?_) (sq_ (st_c (sq_ (st_c (sq_ (sq_ (st_c ?_))))))))))) 
  · simp (disch := omega) only [jMeth, jIn, jup, tSeq, tIf, tSkip, tSet, tInc, tPut, tPutZ, tPutO, tAst, tAstO, tDo, tRet, tRetZ, tRet0, kAnd, kOr, kNot, kZ, kR, xV, xC, xGf, xGr, xAl, xAr, xSt, xLen, xBin, xUn, xNeg, xTern, xCall, xsC, xsN, boAdd, boSub, boMul, boDiv, boRem, boMax, boMin, boOr, boAnd, boShl, boShr, mrf2, mln116, e116, ixE, irE, reduceIte, Nat.reduceEqDiff]
  · simp [jMeth, jIn, jup, tSeq, tIf, tSkip, tSet, tInc, tPut, tPutZ, tPutO, tAst, tAstO, tDo, tRet, tRetZ, tRet0, kAnd, kOr, kNot, kZ, kR, xV, xC, xGf, xGr, xAl, xAr, xSt, xLen, xBin, xUn, xNeg, xTern, xCall, xsC, xsN, boAdd, boSub, boMul, boDiv, boRem, boMax, boMin, boOr, boAnd, boShl, boShr, mrf29, mln134, e134, s0, hs3]
  refine up0 (gN g) (fun j L M' => M' = M ∧ L 0 = 114 ∧ L 1 = s ∧ L 2 = t ∧ L 3 = g 116 (3 * s) - 1 ∧ L 4 = gFl g s ∧ L 5 = sm (fun p => if gOn g p s ∧ g 126 p = g 116 (3 * s) - 1 then 1 else 0) j ∧ L 6 = sm (fun p => if g 123 p = 3 ∧ g 128 p = gFl g s then 1 else 0) j) rfl (by omega) ⟨rfl, rfl, rfl, rfl, rfl, rfl, rfl, rfl⟩ ?_ ?_ ?_
  · rintro j L M' Q ⟨rfl, l0, -⟩ hq
    show Q (M' (L 0) 5) M'
    rw [l0, mo_n S, ← en]; exact hq
  · rintro j L M' N1 hj' hi ⟨rfl, l0, l1, l2, l3, l4, l5, l6⟩ hN
    have hp : (j : Int) < g 114 5 := by omega
    have h2 : (j : Int) < 14 := by omega
    obtain ⟨e1, e4, -, -, -, -, e2, e3⟩ := S.2.2.2.1 j (by omega) hp
    have b0 : 0 ≤ L 5 := by rw [l5]; exact sm_nonneg j (fun p _ _ => by split <;> omega)
    have b1 : L 5 ≤ 1 * j := by rw [l5]; exact sm_le 1 j (fun p _ _ => by split <;> omega)
    have b2 : 0 ≤ L 6 := by rw [l6]; exact sm_nonneg j (fun p _ _ => by split <;> omega)
    have b3 : L 6 ≤ 1 * j := by rw [l6]; exact sm_le 1 j (fun p _ _ => by split <;> omega)
    have key : ∀ u w : Int, u = sm (fun p => if gOn g p s ∧ g 126 p = g 116 (3 * s) - 1 then 1 else 0) (j + 1) → w = sm (fun p => if g 123 p = 3 ∧ g 128 p = gFl g s then 1 else 0) (j + 1) → N1 (jup (jup L 5 u) 6 w) M' := fun u w hu hw => hN _ _ hi ⟨rfl, l0, l1, l2, l3, l4, hu, hw⟩
    have i5 : ir (L 5 + 1) := ⟨by omega, by omega⟩
    have i6 : ir (L 6 + 1) := ⟨by omega, by omega⟩
    have i50 : ir (L 5) := ⟨by omega, by omega⟩
    have i60 : ir (L 6) := ⟨by omega, by omega⟩
    by_cases c : gOn g j s
    · obtain ⟨-, e5, -⟩ := e2 c.1
      have c3 : ¬ g 123 j = 3 := by rw [c.1]; decide
      by_cases c4 : g 126 j = g 116 (3 * s) - 1 <;> simp [tSeq, tSet, xTern, xBin, boAdd, kAnd, kOr, kZ, kR, xCall, xsC, xsN, xV, xC, xAl, xGr, jup, l0, l1, l2, l3, l4, hi, mrf18, mrf21, mrf23, mln123, mln126, mln128, mo_isOn S hn (Int.natCast_nonneg j) hp, c, e1, e5, c3, c4, h2, i5, i50, i60] <;> refine key _ _ ?_ ?_ <;> simp [sm, c, c3, c4, l5, l6]
    · have c' : ¬ (g 123 j = 2 ∧ g 125 j = s) := c
      by_cases c3 : g 123 j = 3
      · obtain ⟨e5, -⟩ := e3 c3
        by_cases c4 : g 128 j = gFl g s <;> simp [tSeq, tSet, xTern, xBin, boAdd, kAnd, kOr, kZ, kR, xCall, xsC, xsN, xV, xC, xAl, xGr, jup, l0, l1, l2, l3, l4, hi, mrf18, mrf21, mrf23, mln123, mln126, mln128, mo_isOn S hn (Int.natCast_nonneg j) hp, c', e1, e5, c3, c4, h2, i6, i50, i60] <;> refine key _ _ ?_ ?_ <;> simp [sm, gOn, c', c3, c4, l5, l6]
      · simp [tSeq, tSet, xTern, xBin, boAdd, kAnd, kOr, kZ, kR, xCall, xsC, xsN, xV, xC, xAl, xGr, jup, l0, l1, l2, l3, l4, hi, mrf18, mrf21, mrf23, mln123, mln126, mln128, mo_isOn S hn (Int.natCast_nonneg j) hp, c', e1, c3, h2, i50, i60]
        refine key _ _ ?_ ?_ <;> simp [sm, gOn, c', c3, l5, l6]
  · rintro L M' hi ⟨rfl, l0, l1, l2, l3, l4, l5, l6⟩
    have l5 : L 5 = gMany g s := l5
    have l6 : L 6 = gThere g (gFl g s) := l6
    have eR : M' 115 1 = g 115 1 := (S.2.1 1).1
    have b2 : 0 ≤ L 6 := by rw [l6]; exact sm_nonneg _ (fun p _ _ => by split <;> omega)
    have b3 : L 6 ≤ 1 * (gN g : Nat) := by rw [l6]; exact sm_le 1 _ (fun p _ _ => by split <;> omega)
    have v1 := v.2.2.2
    have eJ : M' 114 32 = g 114 32 := S.2.2.2.2.2.1
    refine sq_ (if_pc (gJam g s) (fun T F => ?_) (fun cj => ?_) (fun cj => ?_))
    · simp (disch := omega) only [kR, xV, xBin, xAl, xGr, xC, boSub, l0, mrf0, mln115, ixE, irE, eR]
      rw [l5, l6]
    · simp (disch := omega) only [tSeq, tPutO, tRetZ, xV, xC, boAdd, l0, eJ, irE]
      exact ⟨.inl trivial, hj cj _ (moS_cnt S (.inl rfl)) (mFr_wr mFr_rfl (.inr ⟨rfl, by decide, by decide⟩))⟩
    · show tSeq _ _ L M' _ _
      refine sq_ (sq_ (st_c ?_))
      have mst : ∀ a b, 133 < a → gMove t s g a b = g a b := fun a b ha => by
        have a1 : ¬ a = 123 := by omega
        have a2 : ¬ a = 128 := by omega
        have a3 : ¬ a = 129 := by omega
        have a4 : ¬ a = 126 := by omega
        simp [gMove, a1, a2, a3, a4]
      refine up0 (gN g) (fun j L M1 => L 0 = 114 ∧ L 1 = s ∧ L 2 = t ∧ L 3 = g 116 (3 * s) - 1 ∧ L 4 = gFl g s ∧ moS M1 (upto j (gMove t s g) g) ∧ mFr M' M1) rfl (by omega) ⟨l0, l1, l2, l3, l4, ?_, mFr_rfl⟩ ?_ ?_ ?_
      · rw [show ((0 : Nat) : Int) = 0 from rfl, upto_0 (fun a b hb => by have : ¬ 0 ≤ b := by omega
                                                                          simp [gMove, this])]
        exact S
      · rintro j L M1 Q ⟨l0, -, -, -, -, S1, -⟩ hq
        show Q (M1 (L 0) 5) M1
        rw [l0, moS_n S1, ← en]; exact hq
      · rintro j L M1 N1 hj' hi ⟨l0, l1, l2, l3, l4, S1, F1⟩ hN
        have hp' : (j : Int) < g 114 5 := by omega
        have h2 : (j : Int) < 14 := by omega
        have P := moP_up (moS_get S1 (Int.natCast_nonneg j) (by rw [upto_lo (by decide)]; exact hp'))
        have hon : ∀ Q, f_X7_isOn [114, (j : Int), s] M1 Q = Q (if g 123 j = 2 ∧ g 125 j = s then 1 else 0) M1 := fun Q => by
          have := mo_isOn (Q := Q) (s := s) S1 (by rw [upto_lo (by decide)]; exact hn) (Int.natCast_nonneg j) (by rw [upto_lo (by decide)]; exact hp')
          simpa only [gOn, upto_at] using this
        have P' := P
        obtain ⟨e1, e4, -, -, -, -, e2, e3⟩ := P'
        have key : ∀ M2 : jMm, (∀ a b, (b ≠ (j : Int) ∨ a < 123 ∨ 133 < a) → M2 a b = M1 a b) → moP M2 (gMove t s g) j → N1 L M2 := fun M2 hM hP2 => hN _ _ hi ⟨l0, l1, l2, l3, l4, by have := moS_up (j : Int) S1 mst hM hP2; rwa [show ((j + 1 : Nat) : Int) = (j : Int) + 1 by omega], mFr_tr F1 (fun a b hd => hM a b (by unfold mDyn at hd; omega))⟩
        by_cases c : g 123 j = 2 ∧ g 125 j = s
        · obtain ⟨c5, c6⟩ := c
          obtain ⟨-, e5, -⟩ := e2 c5
          have pj := (hp j (by omega) hp').2.2.2.2.1 c5
          rw [c6] at pj
          by_cases c4 : g 126 j = g 116 (3 * s) - 1
          · simp [tSeq, tIf, tAst, kAnd, kZ, kR, xCall, xsC, xsN, xV, xC, xAl, xGr, l0, l1, l2, l3, l4, hi, hon, mrf18, mrf21, mrf23, mrf24, mln123, mln126, mln128, mln129, h2, c5, c6, e5, c4]
            refine key _ (fun a b hab => ?_) ?_
            · unfold jwr; rw [if_neg (by omega), if_neg (by omega), if_neg (by omega)]
            · simp [moP, gMove, jwr, c5, c6, c4, hp'] at P ⊢
              omega
          · have i6 : ir (g 126 j + 1) := ⟨by omega, by omega⟩
            simp [tSeq, tIf, tAst, tAstO, boAdd, kAnd, kZ, kR, xCall, xsC, xsN, xV, xC, xAl, xGr, l0, l1, l2, l3, l4, hi, hon, mrf18, mrf21, mrf23, mrf24, mln123, mln126, mln128, mln129, h2, c5, c6, e5, c4, i6]
            refine key _ (fun a b hab => ?_) ?_
            · unfold jwr; rw [if_neg (by omega)]
            · simp [moP, gMove, jwr, c5, c6, c4, hp'] at P ⊢
              omega
        · simp [tSeq, tIf, tSkip, tAst, kAnd, kZ, kR, xCall, xsC, xsN, xV, xC, xAl, xGr, l0, l1, l2, l3, l4, hi, hon, mrf18, mrf21, mrf23, mrf24, mln123, mln126, mln128, mln129, h2, c]
          refine key _ (fun a b hab => rfl) ?_
          simpa [moP, gMove, c] using P
      · rintro L M1 hi ⟨-, -, -, -, -, S1, F1⟩
        rw [en, upto_n (fun a b hb => by
          rcases hb with hb | hb
          · have : ¬ b < g 114 5 := by omega
            simp [gMove, this]
          · have a1 : ¬ a = 123 := by omega
            have a2 : ¬ a = 128 := by omega
            have a3 : ¬ a = 129 := by omega
            have a4 : ¬ a = 126 := by omega
            simp [gMove, a1, a2, a3, a4])] at S1
        exact ⟨.inr rfl, hm cj _ S1 F1⟩
