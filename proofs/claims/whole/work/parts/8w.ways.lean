/-! pairs: ways -/
theorem mo_lays {v a : Int} {M : jMm} {Q : Int → jMm → Prop} (ha : s_len a = 3) (v0 : 0 ≤ v) (hq : ∀ M', (∀ x y, x ≠ a → M' x y = M x y) → (∀ s, 0 ≤ s → s < 3 → M' a s = wy v s) → Q 0 M') : f_X7_lays [v, a] M Q := by
  unfold f_X7_lays
  obtain ⟨e0, e1, e2, e3, -⟩ := sv7
  refine mt_ (sq_ (st_v (v := v) (fun Q => rfl) (sq_ (sq_ (st_c ?_)))))
  refine up0 3 (fun j L M1 => L 1 = a ∧ L 2 = v / s_sv 7 j ∧ (∀ x y, x ≠ a → M1 x y = M x y) ∧ ∀ s : Int, 0 ≤ s → s < j → M1 a s = wy v s) rfl (by decide) ⟨rfl, ?_, fun _ _ _ => rfl, fun s _ _ => by omega⟩ (fun _ _ _ _ _ h => h) ?_ ?_
  · show v = v / s_sv 7 0
    rw [e0, Int.ediv_one]
  · rintro j L M1 N2 hj hi ⟨l1, l2, F, hs⟩ hN2
    have j3 : (j : Int) < 3 := by omega
    have dv : v / s_sv 7 j / 3 = v / s_sv 7 ((j : Int) + 1) ∧ 0 ≤ v / s_sv 7 j := by
      obtain rfl | rfl | rfl : j = 0 ∨ j = 1 ∨ j = 2 := by omega
      · show v / s_sv 7 0 / 3 = v / s_sv 7 1 ∧ 0 ≤ v / s_sv 7 0
        rw [e0, e1]; omega
      · show v / s_sv 7 1 / 3 = v / s_sv 7 2 ∧ 0 ≤ v / s_sv 7 1
        rw [e1, e2]; omega
      · show v / s_sv 7 2 / 3 = v / s_sv 7 3 ∧ 0 ≤ v / s_sv 7 2
        rw [e2, e3]; omega
    have k := hN2 (jup L 2 (v / s_sv 7 j / 3)) (jwr M1 a j (v / s_sv 7 j % 3)) hi ⟨l1, by show _ = v / s_sv 7 ((j + 1 : Nat) : Int); rw [show ((j + 1 : Nat) : Int) = (j : Int) + 1 by omega, ← dv.1]; rfl, fun x y h => by rw [jw0 (.inl h)]; exact F x y h, fun s s0 s1 => ?_⟩
    · simp [jMeth, jIn, jup, tSeq, tIf, tSkip, tSet, tInc, tPut, tPutZ, tPutO, tAst, tAstO, tDo, tRet, tRetZ, tRet0, kAnd, kOr, kNot, kZ, kR, xV, xC, xGf, xGr, xAl, xAr, xSt, xLen, xBin, xUn, xNeg, xTern, xCall, xsC, xsN, boAdd, boSub, boMul, boDiv, boRem, boMax, boMin, boOr, boAnd, boShl, boShr, ha, l1, l2, hi, j3, dv.2]
      exact k
    · by_cases c : s = j
      · subst c
        rw [jw1 ⟨rfl, rfl⟩]; rfl
      · rw [jw0 (.inr c)]; exact hs s s0 (by omega)
  · rintro L M1 - ⟨l1, -, F, hs⟩
    exact hq M1 F hs
theorem mn_b {k : Int} (k0 : 0 ≤ k) (k3 : k ≤ 3) : 1 ≤ s_sv 7 k ∧ s_sv 7 k ≤ 27 := by
  obtain ⟨e0, e1, e2, e3, -⟩ := sv7
  obtain rfl | rfl | rfl | rfl : k = 0 ∨ k = 1 ∨ k = 2 ∨ k = 3 := by omega
  · rw [e0]; decide
  · rw [e1]; decide
  · rw [e2]; decide
  · rw [e3]; decide
theorem q_many {M : jMm} {Q : Int → jMm → Prop} (k0 : 0 ≤ M 114 1) (k3 : M 114 1 ≤ 3) : f_X7_waysMany [114] M Q = Q (gMn M) M := by
  unfold f_X7_waysMany gMn
  obtain ⟨e0, e1, e2, e3, -⟩ := sv7
  generalize hk : M 114 1 = k at *
  apply propext
  obtain rfl | rfl | rfl | rfl : k = 0 ∨ k = 1 ∨ k = 2 ∨ k = 3 := by omega
  · rw [e0]; simp [jMeth, jIn, jup, tSeq, tIf, tSkip, tSet, tInc, tPut, tPutZ, tPutO, tAst, tAstO, tDo, tRet, tRetZ, tRet0, kAnd, kOr, kNot, kZ, kR, xV, xC, xGf, xGr, xAl, xAr, xSt, xLen, xBin, xUn, xNeg, xTern, xCall, xsC, xsN, boAdd, boSub, boMul, boDiv, boRem, boMax, boMin, boOr, boAnd, boShl, boShr, hk]
  · rw [e1]; simp [jMeth, jIn, jup, tSeq, tIf, tSkip, tSet, tInc, tPut, tPutZ, tPutO, tAst, tAstO, tDo, tRet, tRetZ, tRet0, kAnd, kOr, kNot, kZ, kR, xV, xC, xGf, xGr, xAl, xAr, xSt, xLen, xBin, xUn, xNeg, xTern, xCall, xsC, xsN, boAdd, boSub, boMul, boDiv, boRem, boMax, boMin, boOr, boAnd, boShl, boShr, hk]
  · rw [e2]; simp [jMeth, jIn, jup, tSeq, tIf, tSkip, tSet, tInc, tPut, tPutZ, tPutO, tAst, tAstO, tDo, tRet, tRetZ, tRet0, kAnd, kOr, kNot, kZ, kR, xV, xC, xGf, xGr, xAl, xAr, xSt, xLen, xBin, xUn, xNeg, xTern, xCall, xsC, xsN, boAdd, boSub, boMul, boDiv, boRem, boMax, boMin, boOr, boAnd, boShl, boShr, hk]
  · rw [e3]; simp [jMeth, jIn, jup, tSeq, tIf, tSkip, tSet, tInc, tPut, tPutZ, tPutO, tAst, tAstO, tDo, tRet, tRetZ, tRet0, kAnd, kOr, kNot, kZ, kR, xV, xC, xGf, xGr, xAl, xAr, xSt, xLen, xBin, xUn, xNeg, xTern, xCall, xsC, xsN, boAdd, boSub, boMul, boDiv, boRem, boMax, boMin, boOr, boAnd, boShl, boShr, hk]
theorem sum_b {g : jMm} {B : Int} (ok : gOK 100 B g) : 0 ≤ gSum 100 g ∧ gSum 100 g ≤ 1400 := by
  have hn0 := ok.1.1.2.2.1
  have hn := ok.1.1.2.2.2.1
  have en := gN_eq hn0
  have h : ∀ p : Int, 0 ≤ p → p < gN g → 0 ≤ (if g 123 p = 1 then 100 - g 117 (3 * p) else g 133 p) ∧ (if g 123 p = 1 then 100 - g 117 (3 * p) else g 133 p) ≤ 100 := fun p p0 p1 => by
    have gp := ok.2.1 p p0 (by omega)
    have bp := ok.1.2.1 p p0 (by omega)
    obtain ⟨h1, h2, h3, h4, -⟩ := gp
    by_cases c : g 123 p = 1
    · rw [if_pos c]; omega
    · rw [if_neg c]
      by_cases c2 : g 123 p < 2
      · have := h3 c2; omega
      · have := h4 (by omega); omega
  have a := sm_nonneg (gN g) (fun p p0 p1 => (h p p0 p1).1)
  have b := sm_le 100 (gN g) (fun p p0 p1 => (h p p0 p1).2)
  unfold gSum
  omega
theorem gW_b {c : Int} {w : Int → Int} {g : jMm} (G : gGd w g) : 0 ≤ gW c w g ∧ gW c w g ≤ 1400 := sum_b (B := 1200) (ok_run (c := c) G.2 G.1 100 (by decide))
theorem bs_r {W : Int → Int} : ∀ m : Nat, (m = 0 ∧ gBs W m = -4) ∨ (0 < m ∧ 0 ≤ gBs W m ∧ gBs W m < m)
  | 0 => .inl ⟨rfl, rfl⟩
  | m + 1 => by
    refine .inr ⟨by omega, ?_⟩
    unfold gBs
    split
    · omega
    · rcases bs_r (W := W) m with h | h
      · exact absurd (Or.inl (show gBs W m < 0 by omega)) ‹_›
      · omega
def gWy (P : jMm) (k : Int) : Int := gW 0 (tw P) (gBegin P (P 115 0) (-4) (wy k) (fun s => P 116 (3 * s + 2)))
theorem good {P : jMm} (pl : iPl P) {r wo : Int} {w ways paces : Int → Int} (hr : r = 0 ∨ r = 1) (hw : ∀ s, 0 ≤ s → s < 3 → 0 ≤ w s ∧ w s ≤ 2) (hways : ∀ s, 0 ≤ s → s < 3 → 0 ≤ ways s ∧ ways s ≤ 2) (hp : ∀ s, 0 ≤ s → s < P 114 1 → 1 ≤ paces s ∧ paces s ≤ 2) : gGd w (gBegin P r wo ways paces) := ⟨ok_begin pl.1 hr hways hp, hw⟩
theorem good_wy {P : jMm} (pl : iPl P) (k : Int) : gGd (tw P) (gBegin P (P 115 0) (-4) (wy k) (fun s => P 116 (3 * s + 2))) := good pl pl.2.2.2.1 (iPl_G pl).2 (fun _ _ _ => wy_r) (fun s s0 s1 => pl.2.2.1 s s0 s1)
theorem iFr_eq {M M' : jMm} (h : iFr M M') : (∀ b, (b = 1 ∨ b = 3 ∨ b = 4 ∨ b = 5) → M' 114 b = M 114 b) ∧ ∀ b, M' 115 b = M 115 b ∧ M' 116 b = M 116 b ∧ M' 117 b = M 117 b := ⟨fun b hb => h _ _ (by unfold scr; omega), fun b => ⟨h _ _ (by unfold scr; omega), h _ _ (by unfold scr; omega), h _ _ (by unfold scr; omega)⟩⟩
/-- a day that would be, in the model -/
theorem mo_would {M M1 : jMm} {r wo c : Int} {w ways paces : Int → Int} {Q : Int → jMm → Prop} (pl : iPl M) (F : iFr M M1) (hc : M1 114 15 = c) (h16 : M1 114 16 = r) (h17 : M1 114 17 = wo) (h : ∀ s, 0 ≤ s → s < 3 → M1 120 s = ways s ∧ M1 121 s = w s ∧ M1 122 s = paces s) (G : gGd w (gBegin M r wo ways paces)) (hr : r = 0 ∨ r = 1) (hways : ∀ s, 0 ≤ s → s < 3 → 0 ≤ ways s ∧ ways s ≤ 2) (hp : ∀ s, 0 ≤ s → s < M 114 1 → 1 ≤ paces s ∧ paces s ≤ 2) (hq : ∀ M', moS M' (gEnd (gRun c w (gBegin M r wo ways paces) 100)) → iFr M M' → rFr M1 M' → Q 0 M') : f_X7_runs [114] M1 Q := by
  obtain ⟨e1, e2⟩ := iFr_eq F
  refine mo_runs (P := M) (r := r) (wo := wo) (c := c) (w := w) (ways := ways) (paces := paces) ⟨⟨e1 1 (by decide), e1 5 (by decide)⟩, e2, h16, h17, fun s s0 s3 => ⟨(h s s0 s3).1, (h s s0 s3).2.2⟩⟩ pl.1 hc (fun s s0 s3 => ⟨(h s s0 s3).2.1, G.2 s s0 s3⟩) hways hp hr (fun M2 S _ R => ?_)
  exact hq M2 S (iFr_tr F (iFr_r R)) R
theorem mo_sumw {M' P : jMm} {r wo c : Int} {w ways paces : Int → Int} {Q : Int → jMm → Prop} (G : gGd w (gBegin P r wo ways paces)) (S : moS M' (gEnd (gRun c w (gBegin P r wo ways paces) 100))) : f_X7_waits [114] M' Q = Q (gW c w (gBegin P r wo ways paces)) M' := by
  have ok := ok_run (c := c) G.2 G.1 100 (by decide)
  have hn0 := ok.1.1.2.2.1
  have hn := ok.1.1.2.2.2.1
  have a5 : gEnd (gRun c w (gBegin P r wo ways paces) 100) 114 5 = gRun c w (gBegin P r wo ways paces) 100 114 5 := gEnd_lo (by decide)
  rw [mo_waits S (by rw [a5]; exact hn0) (by rw [a5]; exact hn) (day33 ok (by decide)), gTot_end hn0]
  rfl
theorem j5a {L : jLo} {a b x y z : Int} : jup (jup (jup (jup (jup L 5 a) 6 b) 2 x) 3 y) 4 z 2 = x := rfl
theorem j5b {L : jLo} {a b x y z : Int} : jup (jup (jup (jup (jup L 5 a) 6 b) 2 x) 3 y) 4 z 3 = y := rfl
theorem j3a {L : jLo} {x y z : Int} : jup (jup (jup L 2 x) 3 y) 4 z 2 = x := rfl
theorem j3b {L : jLo} {x y z : Int} : jup (jup (jup L 2 x) 3 y) 4 z 3 = y := rfl
theorem qa_ways {v : Int} {M : jMm} {Q : Int → jMm → Prop} (pl : iPl M) (c : ¬ bt 0 v 1 = 0) (k1 : ¬ M 114 1 = 0) (hq : ∀ M', iFr M M' → Q (if v = 0 then gBs (gWy M) (gMn M).toNat else gWy M (gBs (gWy M) (gMn M).toNat)) M') : f_X7_ways [114, v] M Q := by
  unfold f_X7_ways
  have k0 := pl.1.1.1
  have k3 := pl.1.1.2.1
  have mb := mn_b k0 k3
  have em : (((gMn M).toNat : Nat) : Int) = gMn M := Int.toNat_of_nonneg (by unfold gMn; omega)
  refine mt_ (sq_ (if_pc (bt 0 v 1 = 0) (nz_pc (bm (fun Q => rfl) (fun Q => rfl) (fun Q => rfl))) (fun z => absurd z c) (fun _ => ?_)))
  refine sk_ (sq_ (if_pc (M 114 1 = 0) (kz_pc (fun Q => rfl)) (fun z => absurd z k1) (fun _ => ?_)))
  refine sk_ (sq_ (st_c (sq_ (st_c (sq_ (sq_ (st_c ?_)))))))
  refine up0 (gMn M).toNat (fun j L M1 => L 0 = 114 ∧ L 1 = v ∧ iFr M M1 ∧ L 2 = gBs (gWy M) j ∧ (0 < j → L 3 = gWy M (gBs (gWy M) j))) rfl (by rw [em]; unfold gMn; omega) ⟨rfl, rfl, iFr_rfl, rfl, fun z => absurd z (by decide)⟩ ?_ ?_ ?_
  · rintro j L M1 Q1 ⟨l0, -, F, -⟩ hQ
    obtain ⟨e1, e2⟩ := iFr_eq F
    show f_X7_waysMany [L 0] M1 Q1
    rw [l0, q_many (by rw [e1 1 (by decide)]; exact k0) (by rw [e1 1 (by decide)]; exact k3)]
    have : gMn M1 = gMn M := by unfold gMn; rw [e1 1 (by decide)]
    rw [this, ← em]; exact hQ
  · rintro j L M1 N1 hj hi ⟨l0, l1, F, l2, l3⟩ hN
    have pe := iFr_eq F
    have pl1 := iPl_eq pl pe.1 pe.2
    refine sq_ (do1 ?_)
    rw [l0]
    refine mo_asTold pl1 (fun M2 F2 hs h15 h16 h17 => ?_)
    refine sq_ (pu (k := 114) (v := 0) (fun Q => by simp only [xV, l0]) (fun Q => rfl) ?_)
    refine sq_ (seqG (x := j) (y := 120) (fun Q => by simp only [xV, hi]) (fun Q => by simp only [xGr, xV, l0, mrf12]) ?_)
    refine mo_lays mln120 (by omega) (fun M3 F3 hw => ?_)
    refine sq_ (do1 ?_)
    rw [l0]
    have F13 : iFr M M3 := fun a b n => by
      rw [F3 a b (by unfold scr at n; omega), jw0 (by unfold scr at n; omega), F2 a b (by unfold scr at n; omega) (by unfold scr at n; omega), F a b n]
    have G := good_wy pl (j : Int)
    refine mo_would (c := 0) (r := M 115 0) (wo := -4) (w := tw M) (ways := wy j) (paces := fun s => M 116 (3 * s + 2)) pl F13 ?_ ?_ ?_ (fun s s0 s3 => ⟨hw s s0 s3, ?_, ?_⟩) G pl.2.2.2.1 (fun _ _ _ => wy_r) (fun s s0 s1 => pl.2.2.1 s s0 s1) (fun M4 S F14 _ => ?_)
    · rw [F3 _ _ (by decide), jw1 ⟨rfl, rfl⟩]
    · rw [F3 _ _ (by decide), jw0 (by decide), h16, (pe.2 0).1]
    · rw [F3 _ _ (by decide), jw0 (by decide), h17]
    · rw [F3 _ _ (by decide), jw0 (.inl (by decide)), (hs s s0 s3).2.1, (gT_eq pe.1 pe.2).2.1]
    · rw [F3 _ _ (by decide), jw0 (.inl (by decide)), (hs s s0 s3).2.2, (pe.2 _).2.1]
    · refine sq_ (st_v (v := gWy M j) (fun Q => by
        show f_X7_waits [L 0] M4 Q = _
        rw [l0, mo_sumw G S]; rfl) ?_)
      refine sq_ (set_tern (gBs (gWy M) j < 0 ∨ gWy M j < gWy M (gBs (gWy M) j)) (fun T F => ?_) ?_)
      · rcases bs_r (W := gWy M) j with ⟨z1, z2⟩ | ⟨z1, z2, z3⟩
        · have : gBs (gWy M) j < 0 := by omega
          apply propext
          simp [kOr, kR, kZ, xV, jup, l2, this]
        · have := l3 z1
          apply propext
          have z4 : ¬ gBs (gWy M) j < 0 := by omega
          simp [-Int.not_lt, kOr, kR, kZ, xV, jup, l2, this, z4]
      · by_cases y : gBs (gWy M) j < 0 ∨ gWy M j < gWy M (gBs (gWy M) j)
        · have b1 : gBs (gWy M) (j + 1) = j := by show (if _ then (j : Int) else _) = _; rw [if_pos y]
          rw [if_pos y]
          refine sq_ (st_v (v := (j : Int)) (fun Q => by simp [xTern, kZ, xV, jup, hi]) (st_v (v := gWy M j) (fun Q => by simp [xTern, kZ, xV, jup]) (hN _ _ hi ⟨l0, l1, F14, j5a.trans b1.symm, fun _ => j5b.trans (by rw [b1])⟩)))
        · have b1 : gBs (gWy M) (j + 1) = gBs (gWy M) j := by show (if _ then (j : Int) else _) = _; rw [if_neg y]
          rw [if_neg y]
          have j0 : 0 < j := by
            rcases bs_r (W := gWy M) j with ⟨z1, z2⟩ | ⟨z1, z2, z3⟩
            · exact absurd (.inl (by omega)) y
            · exact z1
          refine sq_ (st_v (v := gBs (gWy M) j) (fun Q => by simp [xTern, kZ, xV, jup, l2]) (st_v (v := gWy M (gBs (gWy M) j)) (fun Q => by simp [xTern, kZ, xV, jup, l3 j0]) (hN _ _ hi ⟨l0, l1, F14, j5a.trans b1.symm, fun _ => j5b.trans (by rw [b1])⟩)))
  · rintro L M1 - ⟨l0, l1, F, l2, l3⟩
    have q := hq M1 F
    have j0 : 0 < (gMn M).toNat := by unfold gMn at *; omega
    refine rt_ ?_
    by_cases y : v = 0
    · rw [if_pos y] at q
      simp [xTern, kZ, xV, l1, l2, y]
      exact q
    · rw [if_neg y] at q
      simp [xTern, kZ, xV, l1, l3 j0, y]
      exact q
theorem y_ways {v : Int} : yPair Inv f_X6_ways f_X7_ways [v] := by
  intro M Q I hq
  obtain ⟨⟨pl, rl⟩, -⟩ := id I
  have k0 := pl.1.1.1
  have k3 := pl.1.1.2.1
  have mb := mn_b k0 k3
  have r1 := rl.1
  have em : (((gMn M).toNat : Nat) : Int) = gMn M := Int.toNat_of_nonneg (by unfold gMn; omega)
  have hd : isDay 54 := .inr (.inl rfl)
  unfold f_X6_ways
  refine mt_ (sq_ (if_pc (bt 0 v 1 = 0) (nz_pc (bw (fun Q => rfl) (fun Q => rfl) (fun Q => rfl))) (fun c => ?_) (fun c => ?_)))
  · show f_X7_ways [114, v] M _
    unfold f_X7_ways
    exact mt_ (sq_ (if_pc (bt 0 v 1 = 0) (nz_pc (bm (fun Q => rfl) (fun Q => rfl) (fun Q => rfl))) (fun _ => hq _ _ I) (fun n => absurd c n)))
  refine sk_ (sq_ (if_pc (M 114 1 = 0) (kz_pc (fun Q => by simp only [xGf, xGr, xV, jIn, reduceIte, rf_0_0, r1])) (fun z => ?_) (fun z => ?_)))
  · show f_X7_ways [114, v] M _
    unfold f_X7_ways
    exact mt_ (sq_ (if_pc (bt 0 v 1 = 0) (nz_pc (bm (fun Q => rfl) (fun Q => rfl) (fun Q => rfl))) (fun n => absurd n c) (fun _ => sk_ (sq_ (if_pc (M 114 1 = 0) (kz_pc (fun Q => rfl)) (fun _ => hq _ _ I) (fun n => absurd z n))))))
  refine sk_ (sq_ (st_c (sq_ (st_c (sq_ (sq_ (st_c ?_)))))))
  refine up0 (gMn M).toNat (fun j L M1 => L 0 = 0 ∧ L 1 = v ∧ oFr 54 M M1 ∧ (j = 0 → L 2 = 1000000 ∧ L 3 = 0) ∧ (0 < j → L 3 = gBs (gWy M) j ∧ L 2 = gWy M (gBs (gWy M) j))) rfl (by rw [em]; unfold gMn; omega) ⟨rfl, rfl, oFr_rfl, fun _ => ⟨rfl, rfl⟩, fun z => absurd z (by decide)⟩ ?_ ?_ ?_
  · rintro j L M1 Q1 ⟨l0, -, F, -⟩ hQ
    show (0 ≤ M1 (s_rf (L 0) 0) 3 ∧ M1 (s_rf (L 0) 0) 3 < s_slen 7) ∧ Q1 (s_sv 7 (M1 (s_rf (L 0) 0) 3)) M1
    rw [l0, rf_0_0, F _ _ (by omega), r1, sv7.2.2.2.2]
    refine ⟨by omega, ?_⟩
    rw [em] at hQ; exact hQ
  · rintro j L M1 N1 hj hi ⟨l0, l1, F, la, lb⟩ hN
    have I1 := Inv_fr I (iFr_o (.inl rfl) F)
    have pe := iFr_eq (iFr_o (.inl rfl) F)
    refine sq_ (do3e (x0 := 54) (x1 := 1) (x2 := j) (fun Q => by simp only [xGr, xV, l0, rf_0_6]) (fun Q => by simp only [xGr, xV, l0, rf_0_0]) (fun Q => by simp only [xV, hi]) ?_)
    have rl1 : pRel M1 M := pRel_eq rl (fun a b h h0 => F _ _ (by omega)) (fun _ _ => rfl) (fun _ => ⟨rfl, rfl, rfl⟩)
    refine pd_allDay hd pl.1 rl1 (by omega) (fun M2 B h10 F2 => ?_)
    have G := good_wy pl (j : Int)
    have Z := pdB_Z B pl.1 (c := 0) (w := tw M) h10 (fun z => absurd z (by decide))
    refine sq_ (do3e (x0 := 54) (x1 := 0) (x2 := L 2) (fun Q => by simp only [xGr, xV, l0, rf_0_6]) (fun Q => rfl) (fun Q => rfl) ?_)
    refine pd_runWaits (a := 0) hd G Z (by decide) (fun M3 F3 h12 => ?_)
    have F13 : oFr 54 M M3 := oFr_tr F (oFr_tr F2 F3)
    change M3 54 12 = gWy M j ∨ (L 2 ≤ M3 54 12 ∧ M3 54 12 ≤ gWy M j) at h12
    have wb := gW_b (c := 0) G
    change 0 ≤ gWy M j ∧ gWy M j ≤ 1400 at wb
    have hb := bs_r (W := gWy M) j
    refine if_pc (gWy M j < L 2) (fun T F => ?_) (fun c2 => ?_) (fun c2 => ?_)
    · refine (kr_pc (u := M3 54 12) (v := L 2) (fun Q => by simp only [xGf, xGr, xV, l0, rf_0_6]) (fun Q => rfl) T F).trans ?_
      by_cases c2 : gWy M j < L 2
      · have : M3 54 12 < L 2 := by omega
        simp [c2, this]
      · have : ¬ M3 54 12 < L 2 := by omega
        simp [-Int.not_lt, c2, this]
    · have e12 : M3 54 12 = gWy M j := by omega
      have b1 : gBs (gWy M) (j + 1) = j := by
        show (if _ then (j : Int) else _) = _
        rw [if_pos]
        rcases hb with ⟨z1, z2⟩ | ⟨z1, z2, z3⟩
        · exact .inl (by omega)
        · rw [(lb z1).2] at c2; exact .inr c2
      refine sq_ (st_v (v := gWy M j) (fun Q => by simp only [xGf, xGr, xV, l0, rf_0_6, e12]) (st_v (v := (j : Int)) (fun Q => by simp [xV, jup, hi]) (hN _ _ hi ⟨l0, l1, F13, fun z => absurd z (by omega), fun _ => ⟨j3b.trans b1.symm, j3a.trans (by rw [b1])⟩⟩)))
    · have j0 : 0 < j := by
        rcases hb with ⟨z1, z2⟩ | ⟨z1, z2, z3⟩
        · have := (la z1).1; omega
        · exact z1
      have b1 : gBs (gWy M) (j + 1) = gBs (gWy M) j := by
        show (if _ then (j : Int) else _) = _
        rw [if_neg]
        rw [(lb j0).2] at c2
        rcases hb with ⟨z1, z2⟩ | ⟨z1, z2, z3⟩
        · omega
        · intro y; rcases y with y | y
          · omega
          · exact c2 y
      exact sk_ (hN _ _ hi ⟨l0, l1, F13, fun z => absurd z (by omega), fun _ => by rw [b1]; exact lb j0⟩)
  · rintro L M1 - ⟨l0, l1, F, -, lb⟩
    have j0 : 0 < (gMn M).toNat := by unfold gMn at *; omega
    obtain ⟨l3, l2⟩ := lb j0
    have I1 := Inv_fr I (iFr_o (.inl rfl) F)
    have pe := iFr_eq (iFr_o (.inl rfl) F)
    have ge : gWy M1 = gWy M := by
      funext k
      unfold gWy
      rw [(gT_eq pe.1 pe.2).2.1, begin_eq (pe.1 1 (by decide)) (pe.1 5 (by decide)) pe.2 (rfl : wy k = wy k) (by funext s; exact (pe.2 _).2.1), (pe.2 0).1]
    have gm : gMn M1 = gMn M := by unfold gMn; rw [pe.1 1 (by decide)]
    have fin : f_X7_ways [114, v] M1 (fun b M2 => Q (if v = 0 then gBs (gWy M) (gMn M).toNat else gWy M (gBs (gWy M) (gMn M).toNat)) b M2) := qa_ways I1.1.1 c (by rw [pe.1 1 (by decide)]; exact z) (fun M2 F2 => by
      rw [ge, gm]; exact hq _ _ (Inv_fr I1 F2))
    generalize f_X7_ways = X7 at *
    refine rt_ ?_
    show xTern (kZ (fun x y => x = y) (xV 1)) (xV 3) (xV 2) L M1 (fun v1 M2 => X7 [114, v] M2 (fun b M3 => Q v1 b M3))
    by_cases y : v = 0
    · rw [if_pos y] at fin
      simp [xTern, kZ, xV, l1, l3, y]
      subst y
      exact fin
    · rw [if_neg y] at fin
      simp [xTern, kZ, xV, l1, l2, y]
      exact fin
