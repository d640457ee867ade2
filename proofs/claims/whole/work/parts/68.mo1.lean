/-! the model's cells hold a ghost; its questions -/
def gOr (h : Int → Int) : Nat → Int
  | 0 => 0
  | m + 1 => b_or (gOr h m) (if h m = 1 then b_shl 1 m else 0)
def moP (M g : jMm) (p : Int) : Prop := M 123 p = g 123 p ∧ M 124 p = g 124 p ∧ M 130 p = g 130 p ∧ M 131 p = g 131 p ∧ M 132 p = g 132 p ∧ M 133 p = g 133 p ∧ (g 123 p = 2 → M 125 p = g 125 p ∧ M 126 p = g 126 p ∧ M 127 p = g 127 p) ∧ (g 123 p = 3 → M 128 p = g 128 p ∧ M 129 p = g 129 p)
def moS (M g : jMm) : Prop := (M 114 1 = g 114 1 ∧ M 114 5 = g 114 5 ∧ M 114 16 = g 114 16 ∧ M 114 17 = g 114 17) ∧ (∀ j, M 115 j = g 115 j ∧ M 116 j = g 116 j ∧ M 117 j = g 117 j) ∧ (∀ s, 0 ≤ s → s < 3 → M 122 s = g 122 s ∧ M 134 s = g 134 s ∧ M 135 s = g 135 s) ∧ (∀ p, 0 ≤ p → p < g 114 5 → moP M g p) ∧ (M 114 31 = gOr (g 200) (gN g) ∧ M 114 32 = g 114 32 ∧ M 114 33 = g 114 33 ∧ M 114 34 = g 114 34)
/-- a loop from 0 up -/
theorem up0 {i : Nat} {E : jEx} {B : jSt} {L : jLo} {M : jMm} {N : jLo → jMm → Prop} {R : Int → jMm → Prop} (n : Nat) (I : Nat → jLo → jMm → Prop) (ha : L i = 0) (hh : (n : Int) ≤ 2147483647) (hI : I 0 L M)
    (hE : ∀ (j : Nat) (L : jLo) (M : jMm) (Q : Int → jMm → Prop), I j L M → Q (n : Int) M → E L M Q)
    (hB : ∀ (j : Nat) (L : jLo) (M : jMm) (N1 : jLo → jMm → Prop), j < n → L i = (j : Int) → I j L M → (∀ (L' : jLo) (M' : jMm), L' i = (j : Int) → I (j + 1) (jup L' i ((j : Int) + 1)) M' → N1 L' M') → B L M N1 R)
    (hN : ∀ (L : jLo) (M : jMm), L i = (n : Int) → I n L M → N L M) : tWh (kR (fun x y => x < y) (xV i) E) (tSeq B (tInc i 1)) L M N R := by
  refine up_rule (n : Int) 0 (fun j L M => I j.toNat L M) ha (by omega) (by omega) hh hI (fun j L M Q h q => hE _ L M Q h q) ?_ (fun L M h1 h2 => hN L M h1 (by simpa using h2))
  intro j L M N1 h0 h1 h2 h3 h4
  have e : ((j.toNat : Nat) : Int) = j := by omega
  refine hB j.toNat L M N1 (by omega) (by omega) h3 (fun L' M' a b => h4 L' M' (by omega) ?_)
  have e2 : (j + 1).toNat = j.toNat + 1 := by omega
  rw [e2]
  rw [e] at b
  exact b
theorem mo_isOn {M g : jMm} {p s : Int} {Q : Int → jMm → Prop} (S : moS M g) (hn : g 114 5 ≤ 14) (h0 : 0 ≤ p) (h1 : p < g 114 5) : f_X7_isOn [114, p, s] M Q = Q (if gOn g p s then 1 else 0) M := by
  obtain ⟨-, -, -, sp, -⟩ := S
  obtain ⟨e1, -, -, -, -, -, e2, -⟩ := sp p h0 h1
  have h2 : p < 14 := by omega
  unfold f_X7_isOn
  apply propext
  by_cases c : g 123 p = 2
  · obtain ⟨e3, -⟩ := e2 c
    by_cases c2 : g 125 p = s <;> simp [jMeth, jIn, jup, tSeq, tIf, tSkip, tSet, tInc, tPut, tPutZ, tPutO, tAst, tAstO, tDo, tRet, tRetZ, tRet0, kAnd, kOr, kNot, kZ, kR, xV, xC, xGf, xGr, xAl, xAr, xSt, xLen, xBin, xUn, xNeg, xTern, xCall, xsC, xsN, boAdd, boSub, boMul, boDiv, boRem, boMax, boMin, boOr, boAnd, boShl, boShr, gOn, mrf18, mrf20, mln123, mln125, e1, e3, c, c2, h0, h2]
  · simp [jMeth, jIn, jup, tSeq, tIf, tSkip, tSet, tInc, tPut, tPutZ, tPutO, tAst, tAstO, tDo, tRet, tRetZ, tRet0, kAnd, kOr, kNot, kZ, kR, xV, xC, xGf, xGr, xAl, xAr, xSt, xLen, xBin, xUn, xNeg, xTern, xCall, xsC, xsN, boAdd, boSub, boMul, boDiv, boRem, boMax, boMin, boOr, boAnd, boShl, boShr, gOn, mrf18, mrf20, mln123, mln125, e1, c, h0, h2]
theorem mo_weightOf {k : Int} {M : jMm} {Q : Int → jMm → Prop} : f_X7_weightOf [k] M Q = Q (wt k) M := by
  unfold f_X7_weightOf wt
  apply propext
  by_cases h1 : k = 2 <;> by_cases h2 : k = 3 <;> simp [jMeth, jIn, jup, tSeq, tIf, tSkip, tSet, tInc, tPut, tPutZ, tPutO, tAst, tAstO, tDo, tRet, tRetZ, tRet0, kAnd, kOr, kNot, kZ, kR, xV, xC, xGf, xGr, xAl, xAr, xSt, xLen, xBin, xUn, xNeg, xTern, xCall, xsC, xsN, boAdd, boSub, boMul, boDiv, boRem, boMax, boMin, boOr, boAnd, boShl, boShr, h1, h2]
theorem mo_goes {M g : jMm} {s : Int} {Q : Int → jMm → Prop} (S : moS M g) (h0 : 0 ≤ s) (h1 : s < 3) : f_X7_goes [114, s] M Q = Q (if gGoes g s then 1 else 0) M := by
  obtain ⟨-, -, ss, -, -⟩ := S
  obtain ⟨-, e1, e2⟩ := ss s h0 h1
  unfold f_X7_goes
  apply propext
  by_cases c : g 134 s > 0 <;> by_cases c2 : g 135 s = 0 <;> simp [jMeth, jIn, jup, tSeq, tIf, tSkip, tSet, tInc, tPut, tPutZ, tPutO, tAst, tAstO, tDo, tRet, tRetZ, tRet0, kAnd, kOr, kNot, kZ, kR, xV, xC, xGf, xGr, xAl, xAr, xSt, xLen, xBin, xUn, xNeg, xTern, xCall, xsC, xsN, boAdd, boSub, boMul, boDiv, boRem, boMax, boMin, boOr, boAnd, boShl, boShr, gGoes, mrf29, mrf30, mln134, mln135, e1, e2, c, c2, h0, h1]
theorem gN_eq {g : jMm} (h : 0 ≤ g 114 5) : ((gN g : Nat) : Int) = g 114 5 := Int.toNat_of_nonneg h
theorem mo_n {M g : jMm} (S : moS M g) : M 114 5 = g 114 5 := S.1.2.1
theorem mo_who {M g : jMm} {s x y : Int} {Q : Int → jMm → Prop} (S : moS M g) (hn : g 114 5 ≤ 14) (hn0 : 0 ≤ g 114 5) : f_X7_who [114, s, x, y] M Q = Q (gWho g s x y) M := by
  refine dt_eq dt_f_X7_who (fun Q hq => ?_) Q
  unfold f_X7_who
  have en := gN_eq hn0
  refine mt_ (sq_ (st_c (sq_ (sq_ (st_c ?_)))))
  refine up0 (gN g) (fun j L M' => M' = M ∧ L 0 = 114 ∧ L 1 = s ∧ L 2 = x ∧ L 3 = y ∧ L 4 = gWhoN g s x y j) rfl (by omega) ⟨rfl, rfl, rfl, rfl, rfl, rfl⟩ ?_ ?_ ?_
  · rintro j L M' Q ⟨rfl, l0, -⟩ hq
    show Q (M' (L 0) 5) M'
    rw [l0, mo_n S, ← en]; exact hq
  · rintro j L M' N1 hj hi ⟨rfl, l0, l1, l2, l3, l4⟩ hN
    have hp : (j : Int) < g 114 5 := by omega
    have h2 : (j : Int) < 14 := by omega
    obtain ⟨-, e4, -, -, -, -, e2, -⟩ := S.2.2.2.1 j (by omega) hp
    have key : ∀ v w : Int, w = gWhoN g s x y (j + 1) → N1 (jup (jup L 6 v) 4 w) M' := fun v w hw => hN _ _ hi ⟨rfl, l0, l1, l2, l3, hw⟩
    by_cases c : gOn g j s
    · obtain ⟨-, e3, e5⟩ := e2 c.1
      by_cases c2 : g 126 j = x <;> by_cases c3 : g 127 j = y <;> by_cases c4 : g 124 j = 2 <;> simp [tSeq, tSet, xTern, kAnd, kOr, kZ, kR, xCall, xsC, xsN, xV, xC, xAl, xGr, l0, l1, l2, l3, l4, hi, jup, mrf19, mrf21, mrf22, mln124, mln126, mln127, mo_isOn S hn (Int.natCast_nonneg j) hp, c, e3, e5, e4, c2, c3, c4, h2] <;> refine key _ _ ?_ <;> simp [gWhoN, gAt, c, c2, c3, c4]
    · simp [tSeq, tSet, xTern, kAnd, kOr, kZ, kR, xCall, xsC, xsN, xV, xC, xAl, xGr, l0, l1, l2, l3, l4, hi, jup, mrf19, mrf21, mrf22, mln124, mln126, mln127, mo_isOn S hn (Int.natCast_nonneg j) hp, c, h2]
      refine key _ _ ?_
      have c' : ¬ (g 123 j = 2 ∧ g 125 j = s) := c
      simp [gWhoN, c']
  · rintro L M' hi ⟨rfl, -, -, -, -, l4⟩
    show Q (L 4) M'
    rw [l4]; exact hq
