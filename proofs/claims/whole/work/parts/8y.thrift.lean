/-! pairs: thrift -/
theorem an_pc {a b : jCn} {L : jLo} {M : jMm} {P P' : Prop} (ha : ∀ T F : jMm → Prop, a L M T F = ((P → T M) ∧ (¬ P → F M))) (hb : P → ∀ T F : jMm → Prop, b L M T F = ((P' → T M) ∧ (¬ P' → F M))) (T F : jMm → Prop) : kAnd a b L M T F = ((P ∧ P' → T M) ∧ (¬ (P ∧ P') → F M)) := by
  show a L M (fun M => b L M T F) F = _
  rw [ha]
  by_cases c : P
  · rw [hb c]
    exact propext ⟨fun h => ⟨fun z => (h.1 c).1 z.2, fun n => (h.1 c).2 (fun z => n ⟨c, z⟩)⟩, fun h => ⟨fun _ => ⟨fun z => h.1 ⟨c, z⟩, fun n => h.2 (fun z => n z.2)⟩, fun n => absurd c n⟩⟩
  · exact propext ⟨fun h => ⟨fun z => absurd z.1 c, fun _ => h.2 c⟩, fun h => ⟨fun z => absurd z c, fun _ => h.2 (fun z => c z.1)⟩⟩
theorem bit_r {k s : Int} (k0 : 0 ≤ k) (k8 : k < 8) (s0 : 0 ≤ s) (s3 : s < 3) : 1 ≤ b_and (b_shr k s) 1 + 1 ∧ b_and (b_shr k s) 1 + 1 ≤ 2 := by
  have := bit_01 k0 k8 s0 s3
  omega
def gPcB (P : jMm) (k : Int) : jMm := gBegin P (P 115 0) (-4) (fun s => P 116 (3 * s + 1)) (fun s => b_and (b_shr k s) 1 + 1)
def gPc (P : jMm) (k : Int) : jMm := gRun (P 114 3) (tw P) (gPcB P k) 100
def gTs (P : jMm) (lim : Int) : Nat → Int
  | 0 => -4
  | m + 1 => if gLa (gPc P m) (gN (gPc P m)) ≤ lim ∧ (gTs P lim m < 0 ∨ gPc P m 114 34 < gPc P (gTs P lim m) 114 34) then (m : Int) else gTs P lim m
theorem ts_y {P : jMm} {lim : Int} {m : Nat} (h : gLa (gPc P m) (gN (gPc P m)) ≤ lim ∧ (gTs P lim m < 0 ∨ gPc P m 114 34 < gPc P (gTs P lim m) 114 34)) : gTs P lim (m + 1) = m := if_pos h
theorem ts_n {P : jMm} {lim : Int} {m : Nat} (h : ¬ (gLa (gPc P m) (gN (gPc P m)) ≤ lim ∧ (gTs P lim m < 0 ∨ gPc P m 114 34 < gPc P (gTs P lim m) 114 34))) : gTs P lim (m + 1) = gTs P lim m := if_neg h
theorem ts_r {P : jMm} {lim : Int} : ∀ m : Nat, gTs P lim m = -4 ∨ (0 ≤ gTs P lim m ∧ gTs P lim m < m)
  | 0 => .inl rfl
  | m + 1 => by
    by_cases c : gLa (gPc P m) (gN (gPc P m)) ≤ lim ∧ (gTs P lim m < 0 ∨ gPc P m 114 34 < gPc P (gTs P lim m) 114 34)
    · rw [ts_y c]; omega
    · rw [ts_n c]
      have := ts_r (P := P) (lim := lim) m
      omega
theorem good_pc {P : jMm} (pl : iPl P) {k : Int} (k0 : 0 ≤ k) (k8 : k < 8) : gGd (tw P) (gPcB P k) := good pl pl.2.2.2.1 (iPl_G pl).2 (fun s s0 s3 => pl.2.1 s s0 s3) (fun s s0 s1 => bit_r k0 k8 s0 (by have := pl.1.1.2.1; omega))
theorem ok_pc {P : jMm} (pl : iPl P) {k : Int} (k0 : 0 ≤ k) (k8 : k < 8) : gOK 100 1200 (gPc P k) := ok_run (c := P 114 3) (good_pc pl k0 k8).2 (good_pc pl k0 k8).1 100 (by decide)
theorem shl_n {k : Int} (k1 : 1 ≤ k) (k3 : k ≤ 3) : ∃ n : Nat, b_shl 1 k = n ∧ 2 ≤ n ∧ n ≤ 8 := by
  obtain rfl | rfl | rfl : k = 1 ∨ k = 2 ∨ k = 3 := by omega
  · exact ⟨2, by decide, by decide, by decide⟩
  · exact ⟨4, by decide, by decide, by decide⟩
  · exact ⟨8, by decide, by decide, by decide⟩
theorem qa_thrift {lim v : Int} {n : Nat} {M : jMm} {Q : Int → jMm → Prop} (pl : iPl M) (c1' : ¬ bt 0 lim 99 = 0) (c2' : ¬ bt 0 v 1 = 0) (k1 : ¬ M 114 1 = 0) (hn : b_shl 1 (M 114 1) = n) (n8 : n ≤ 8) (hq : ∀ M', iFr M M' → Q (if gTs M lim n < 0 ∨ v = 0 then gTs M lim n else gPc M (gTs M lim n) 114 34) M') : f_X7_thrift [114, lim, v] M Q := by
  unfold f_X7_thrift
  have k0 := pl.1.1.1
  have k3 := pl.1.1.2.1
  refine mt_ (sq_ (if_pc (bt 0 lim 99 = 0 ∨ bt 0 v 1 = 0) (or_pc (nz_pc (bm (fun Q => rfl) (fun Q => rfl) (fun Q => rfl))) (fun _ => nz_pc (bm (fun Q => rfl) (fun Q => rfl) (fun Q => rfl)))) (fun z => (z.elim c1' c2').elim) (fun _ => ?_)))
  refine sk_ (sq_ (if_pc (M 114 1 = 0) (kz_pc (fun Q => rfl)) (fun z => absurd z k1) (fun _ => ?_)))
  refine sk_ (sq_ (st_c (sq_ (st_c (sq_ (sq_ (st_c ?_)))))))
  refine up0 n (fun j L M1 => L 0 = 114 ∧ L 1 = lim ∧ L 2 = v ∧ iFr M M1 ∧ L 3 = gTs M lim j ∧ (0 ≤ gTs M lim j → L 4 = gPc M (gTs M lim j) 114 34)) rfl (by omega) ⟨rfl, rfl, rfl, iFr_rfl, rfl, fun z => absurd z (by show ¬ (0 : Int) ≤ -4; decide)⟩ ?_ ?_ ?_
  · rintro j L M1 Q1 ⟨l0, -, -, F, -⟩ hQ
    show Q1 (b_shl 1 (M1 (L 0) 1)) M1
    rw [l0, (iFr_eq F).1 1 (by decide), hn]; exact hQ
  · rintro j L M1 N1 hj hi ⟨l0, l1, lv, F, l3, l4⟩ hN
    have pe := iFr_eq F
    have pl1 := iPl_eq pl pe.1 pe.2
    refine sq_ (do1 ?_)
    rw [l0]
    refine mo_asTold pl1 (fun M2 F2 hs h15 h16 h17 => ?_)
    refine sq_cut (fun L' M' => (∀ x, x ≠ 6 → L' x = L x) ∧ (∀ x y, x ≠ 122 → M' x y = M2 x y) ∧ ∀ s, 0 ≤ s → s < 3 → M' 122 s = b_and (b_shr j s) 1 + 1) (fun N2 hN2 => ?_) ?_
    · refine sq_ (st_c ?_)
      refine up0 3 (fun i L' M' => (∀ x, x ≠ 6 → L' x = L x) ∧ (∀ x y, x ≠ 122 → M' x y = M2 x y) ∧ ∀ s : Int, 0 ≤ s → s < i → M' 122 s = b_and (b_shr j s) 1 + 1) rfl (by decide) ⟨fun x hx => by simp [jup, hx], fun _ _ _ => rfl, fun s _ _ => by omega⟩ (fun _ _ _ _ _ h => h) ?_ (fun L' M' _ h => hN2 L' M' h)
      rintro i L' M' N3 hi3 hi6 ⟨x1, x2, x3⟩ hN3
      have i3 : (i : Int) < 3 := by omega
      have br := bit_r (k := (j : Int)) (s := (i : Int)) (by omega) (by omega) (by omega) i3
      have ib : ir (b_and (b_shr j i) 1 + 1) := ⟨by omega, by omega⟩
      have k := hN3 L' (jwr M' 122 i (b_and (b_shr j i) 1 + 1)) hi6 ⟨fun x hx => by simp [jup, hx]; exact x1 x hx, fun x y h => by rw [jw0 (.inl h)]; exact x2 x y h, fun s s0 s1 => ?_⟩
      · simp [jMeth, jIn, jup, tSeq, tIf, tSkip, tSet, tInc, tPut, tPutZ, tPutO, tAst, tAstO, tDo, tRet, tRetZ, tRet0, kAnd, kOr, kNot, kZ, kR, xV, xC, xGf, xGr, xAl, xAr, xSt, xLen, xBin, xUn, xNeg, xTern, xCall, xsC, xsN, boAdd, boSub, boMul, boDiv, boRem, boMax, boMin, boOr, boAnd, boShl, boShr, x1 0 (by decide), x1 5 (by decide), l0, hi, hi6, mrf14, mln122, i3, ib]
        exact k
      · by_cases e : s = i
        · subst e; rw [jw1 ⟨rfl, rfl⟩]
        · rw [jw0 (.inr e)]; exact x3 s s0 (by omega)
    · rintro L' M3 ⟨x1, F3, hw⟩
      refine sq_ (do1 ?_)
      rw [x1 0 (by decide), l0]
      have F13 : iFr M M3 := fun a b n => by
        rw [F3 a b (by unfold scr at n; omega), F2 a b (by unfold scr at n; omega) (by unfold scr at n; omega), F a b n]
      have j0 : (0 : Int) ≤ j := by omega
      have j8 : (j : Int) < 8 := by omega
      have G := good_pc pl j0 j8
      have okc := ok_pc pl j0 j8
      have hn0 := okc.1.1.2.2.1
      have hn' := okc.1.1.2.2.2.1
      refine mo_would (c := M 114 3) (r := M 115 0) (wo := -4) (w := tw M) (ways := fun s => M 116 (3 * s + 1)) (paces := fun s => b_and (b_shr j s) 1 + 1) pl F13 ?_ ?_ ?_ (fun s s0 s3 => ⟨?_, ?_, hw s s0 s3⟩) G pl.2.2.2.1 (fun s s0 s3 => pl.2.1 s s0 s3) (fun s s0 s1 => bit_r j0 j8 s0 (by omega)) (fun M4 S F14 _ => ?_)
      · rw [F3 _ _ (by decide), h15, pe.1 3 (by decide)]
      · rw [F3 _ _ (by decide), h16, (pe.2 0).1]
      · rw [F3 _ _ (by decide), h17]
      · rw [F3 _ _ (by decide), (hs s s0 s3).1, (pe.2 _).2.1]
      · rw [F3 _ _ (by decide), (hs s s0 s3).2.1, (gT_eq pe.1 pe.2).2.1]
      · change moS M4 (gEnd (gPc M j)) at S
        have a5 : gEnd (gPc M j) 114 5 = gPc M j 114 5 := gEnd_lo (by decide)
        have last : ∀ Q1 : Int → jMm → Prop, f_X7_last [114] M4 Q1 = Q1 (gLa (gPc M j) (gN (gPc M j))) M4 := fun Q1 => by
          rw [mo_last S (by rw [a5]; exact hn0) (by rw [a5]; exact hn'), gLa_end, gN_end]
        have e34 : M4 114 34 = gPc M j 114 34 := by
          obtain ⟨-, -, -, -, -, -, -, s34⟩ := id S
          rw [s34, gEnd_lo (by decide)]
        have tr := ts_r (P := M) (lim := lim) j
        refine sq_ (set_tern (gLa (gPc M j) (gN (gPc M j)) ≤ lim ∧ (gTs M lim j < 0 ∨ gPc M j 114 34 < gPc M (gTs M lim j) 114 34)) (fun T F => ?_) ?_)
        · refine an_pc (kr_pc (u := gLa (gPc M j) (gN (gPc M j))) (v := lim) (c1 (x0 := 114) (fun Q => by show Q (L' 0) M4 = _; rw [x1 0 (by decide), l0]) last) (fun Q => by show Q (L' 1) M4 = _; rw [x1 1 (by decide), l1])) (fun _ => ?_) T F
          intro T F
          by_cases z : gTs M lim j < 0
          · apply propext
            simp [kOr, kZ, kR, xV, x1 3 (by decide), l3, z]
          · have l4 := l4 (by omega)
            apply propext
            simp [-Int.not_lt, kOr, kZ, kR, xV, xGf, x1 0 (by decide), x1 3 (by decide), x1 4 (by decide), l0, l3, l4, e34, z]
        · have e3 : L' 3 = gTs M lim j := (x1 3 (by decide)).trans l3
          have e4 : L' 4 = L 4 := x1 4 (by decide)
          have e5 : L' 5 = j := (x1 5 (by decide)).trans hi
          have e0 : L' 0 = 114 := (x1 0 (by decide)).trans l0
          have e1 : L' 1 = lim := (x1 1 (by decide)).trans l1
          have e2 : L' 2 = v := (x1 2 (by decide)).trans lv
          by_cases y : gLa (gPc M j) (gN (gPc M j)) ≤ lim ∧ (gTs M lim j < 0 ∨ gPc M j 114 34 < gPc M (gTs M lim j) 114 34)
          · have b1 := ts_y y
            rw [if_pos y]
            refine sq_ (st_v (v := (j : Int)) (fun Q => by simp [xTern, kZ, xV, jup, e5]) (st_v (v := gPc M j 114 34) (fun Q => by simp [xTern, kZ, xV, xGf, jup, e0, e34]) (hN _ _ e5 ⟨e0, e1, e2, F14, Eq.trans rfl b1.symm, fun _ => ?_⟩)))
            rw [b1]
            generalize gPc M j 114 34 = u
            rfl
          · have b1 := ts_n y
            rw [if_neg y]
            refine sq_ (st_v (v := gTs M lim j) (fun Q => by simp [xTern, kZ, xV, jup, e3]) (st_v (v := L 4) (fun Q => by simp [xTern, kZ, xV, jup, e4]) (hN _ _ e5 ⟨e0, e1, e2, F14, Eq.trans ?_ b1.symm, fun z => ?_⟩)))
            · generalize gTs M lim j = u
              rfl
            · rw [b1] at z ⊢
              rw [← l4 z]
              generalize L 4 = u
              rfl
  · rintro L M1 - ⟨l0, l1, lv, F, l3, l4⟩
    have q := hq M1 F
    refine rt_ ?_
    by_cases z : gTs M lim n < 0
    · rw [if_pos (.inl z)] at q
      simp [kOr, xTern, kZ, xV, l3, z]
      exact q
    · by_cases y : v = 0
      · rw [if_pos (.inr y)] at q
        simp [-Int.not_lt, kOr, xTern, kZ, xV, l3, lv, z, y]
        exact q
      · rw [if_neg (fun w => w.elim z y)] at q
        simp [-Int.not_lt, kOr, xTern, kZ, xV, l3, lv, l4 (by omega), z, y]
        exact q
theorem y_thrift {lim v : Int} : yPair Inv f_X6_thrift f_X7_thrift [lim, v] := by
  intro M Q I hq
  obtain ⟨⟨pl, rl⟩, -⟩ := id I
  have k0 := pl.1.1.1
  have k3 := pl.1.1.2.1
  have r1 := rl.1
  have hd : isDay 54 := .inr (.inl rfl)
  unfold f_X6_thrift
  refine mt_ (sq_ (if_pc (bt 0 lim 99 = 0 ∨ bt 0 v 1 = 0) (or_pc (nz_pc (bw (fun Q => rfl) (fun Q => rfl) (fun Q => rfl))) (fun _ => nz_pc (bw (fun Q => rfl) (fun Q => rfl) (fun Q => rfl)))) (fun c => ?_) (fun c => ?_)))
  · show f_X7_thrift [114, lim, v] M _
    unfold f_X7_thrift
    exact mt_ (sq_ (if_pc (bt 0 lim 99 = 0 ∨ bt 0 v 1 = 0) (or_pc (nz_pc (bm (fun Q => rfl) (fun Q => rfl) (fun Q => rfl))) (fun _ => nz_pc (bm (fun Q => rfl) (fun Q => rfl) (fun Q => rfl)))) (fun _ => hq _ _ I) (fun n => absurd c n)))
  have ca : ¬ bt 0 lim 99 = 0 := fun z => c (.inl z)
  have cb : ¬ bt 0 v 1 = 0 := fun z => c (.inr z)
  refine sk_ (sq_ (if_pc (M 114 1 = 0) (kz_pc (fun Q => by simp only [xGf, xGr, xV, jIn, reduceIte, rf_0_0, r1])) (fun z => ?_) (fun z => ?_)))
  · show f_X7_thrift [114, lim, v] M _
    unfold f_X7_thrift
    exact mt_ (sq_ (if_pc (bt 0 lim 99 = 0 ∨ bt 0 v 1 = 0) (or_pc (nz_pc (bm (fun Q => rfl) (fun Q => rfl) (fun Q => rfl))) (fun _ => nz_pc (bm (fun Q => rfl) (fun Q => rfl) (fun Q => rfl)))) (fun n => absurd n c) (fun _ => sk_ (sq_ (if_pc (M 114 1 = 0) (kz_pc (fun Q => rfl)) (fun _ => hq _ _ I) (fun n => absurd z n))))))
  obtain ⟨n, hn, n2, n8⟩ := shl_n (k := M 114 1) (by omega) k3
  refine sk_ (sq_ (st_c (sq_ (st_c (sq_ (sq_ (st_c ?_)))))))
  refine up0 n (fun j L M1 => L 0 = 0 ∧ L 1 = lim ∧ L 2 = v ∧ oFr 54 M M1 ∧ L 4 = gTs M lim j ∧ (gTs M lim j < 0 → L 3 = 1000000) ∧ (0 ≤ gTs M lim j → L 3 = gPc M (gTs M lim j) 114 34)) rfl (by omega) ⟨rfl, rfl, rfl, oFr_rfl, rfl, fun _ => rfl, fun z => absurd z (by show ¬ (0 : Int) ≤ -4; decide)⟩ ?_ ?_ ?_
  · rintro j L M1 Q1 ⟨l0, -, -, F, -⟩ hQ
    show Q1 (b_shl 1 (M1 (s_rf (L 0) 0) 3)) M1
    rw [l0, rf_0_0, F _ _ (by omega), r1, hn]; exact hQ
  · rintro j L M1 N1 hj hi ⟨l0, l1, lv, F, l4, la, lb⟩ hN
    have j0 : (0 : Int) ≤ j := by omega
    have j8 : (j : Int) < 8 := by omega
    have rl1 : pRel M1 M := pRel_eq rl (fun a b h h0 => F _ _ (by omega)) (fun _ _ => rfl) (fun _ => ⟨rfl, rfl, rfl⟩)
    refine sq_ (do3e (x0 := 54) (x1 := 1) (x2 := -1) (fun Q => by simp only [xGr, xV, l0, rf_0_6]) (fun Q => by simp only [xGr, xV, l0, rf_0_0]) (fun Q => rfl) ?_)
    refine pd_load (wo := -4) hd pl.1 rl1 (fun p p0 => by omega) (fun M2 B h10 h11 F2 => ?_)
    refine sq_ (seqG (x := 54) (y := j) (fun Q => by simp only [xGr, xV, l0, rf_0_6]) (fun Q => by simp only [xV, hi]) ?_)
    refine pd_setPaces hd pl.1 B j0 j8 (fun M3 B3 g10 g11 F3 => ?_)
    have G := good_pc pl j0 j8
    have okc := ok_pc pl j0 j8
    have Z := pdB_Z B3 pl.1 (c := M 114 3) (w := tw M) (g10.trans h10) (fun c3 => by
      rw [g11, h11]
      refine ⟨pl.2.2.2.2.2.2.1, fun s _ _ => ?_⟩
      unfold tw
      rw [if_pos c3])
    refine sq_ (do3e (x0 := 54) (x1 := 0) (x2 := 99) (fun Q => by simp only [xGr, xV, l0, rf_0_6]) (fun Q => rfl) (fun Q => rfl) ?_)
    refine pd_run (a := 0) (b := 100) hd G Z (by decide) (by decide) (fun M4 Z4 F4 => ?_)
    have F14 : oFr 54 M M4 := oFr_tr F (oFr_tr F2 (oFr_tr F3 F4))
    have S : pdS 54 M4 (gPc M j) := Z4.1
    have d13 := S.1.1.2.2.2.1
    have e34 := okc.2.2.2.2.2.2.2.2
    have tr := ts_r (P := M) (lim := lim) j
    refine if_pc (gLa (gPc M j) (gN (gPc M j)) ≤ lim ∧ (gTs M lim j < 0 ∨ gPc M j 114 34 < gPc M (gTs M lim j) 114 34)) (an_pc (kr_pc (u := gLa (gPc M j) (gN (gPc M j))) (v := lim) (c1 (x0 := 54) (fun Q => by simp only [xGr, xV, l0, rf_0_6]) (fun Q => pd_lastThrough hd S okc)) (fun Q => by simp only [xV, l1])) (fun _ T F => ?_)) (fun y => ?_) (fun y => ?_)
    · refine (kr_pc (u := gPc M j 114 34) (v := L 3) (fun Q => by simp only [xGf, xGr, xV, l0, rf_0_6, d13]) (fun Q => rfl) T F).trans ?_
      have iff : (gPc M j 114 34 < L 3) = (gTs M lim j < 0 ∨ gPc M j 114 34 < gPc M (gTs M lim j) 114 34) := by
        apply propext
        by_cases z : gTs M lim j < 0
        · rw [la z]
          exact ⟨fun _ => .inl z, fun _ => by omega⟩
        · rw [lb (by omega)]
          exact ⟨fun h => .inr h, fun h => h.resolve_left z⟩
      show ((gPc M j 114 34 < L 3 → T M4) ∧ (¬ gPc M j 114 34 < L 3 → F M4)) = _
      rw [iff]
    · have b1 := ts_y y
      refine sq_ (st_v (v := gPc M j 114 34) (fun Q => by simp only [xGf, xGr, xV, l0, rf_0_6, d13]) (st_v (v := (j : Int)) (fun Q => by simp [xV, jup, hi]) (hN _ _ hi ⟨l0, l1, lv, F14, Eq.trans rfl b1.symm, fun z => ?_, fun _ => ?_⟩)))
      · rw [b1] at z; omega
      · rw [b1]
        generalize gPc M j 114 34 = u
        rfl
    · have b1 := ts_n y
      exact sk_ (hN _ _ hi ⟨l0, l1, lv, F14, l4.trans b1.symm, fun z => by rw [b1] at z; exact la z, fun z => by rw [b1] at z ⊢; exact lb z⟩)
  · rintro L M1 - ⟨l0, l1, lv, F, l4, la, lb⟩
    have I1 := Inv_fr I (iFr_o (.inl rfl) F)
    have pe := iFr_eq (iFr_o (.inl rfl) F)
    have gc : ∀ k, gPc M1 k = gPc M k := fun k => by
      unfold gPc gPcB
      rw [(gT_eq pe.1 pe.2).2.1, pe.1 3 (by decide), begin_eq (pe.1 1 (by decide)) (pe.1 5 (by decide)) pe.2 (by funext s; exact (pe.2 _).2.1) rfl, (pe.2 0).1]
    have gt : ∀ m, gTs M1 lim m = gTs M lim m := fun m => by
      induction m with
      | zero => rfl
      | succ m ih => unfold gTs; rw [ih, gc, gc]
    have fin : f_X7_thrift [114, lim, v] M1 (fun b M2 => Q (if gTs M lim n < 0 ∨ v = 0 then gTs M lim n else gPc M (gTs M lim n) 114 34) b M2) := qa_thrift I1.1.1 ca cb (by rw [pe.1 1 (by decide)]; exact z) (by rw [pe.1 1 (by decide)]; exact hn) n8 (fun M2 F2 => by
      rw [gt, gc]; exact hq _ _ (Inv_fr I1 F2))
    have tr := ts_r (P := M) (lim := lim) n
    generalize f_X7_thrift = X7 at *
    refine rt_ ?_
    show xTern (kOr (kZ (fun x y => x = y) (xV 2)) (kR (fun x y => x = y) (xV 4) (xC (-4)))) (xV 4) (xV 3) L M1 (fun v1 M2 => X7 [114, lim, v] M2 (fun b M3 => Q v1 b M3))
    by_cases y : gTs M lim n < 0 ∨ v = 0
    · rw [if_pos y] at fin
      by_cases y2 : v = 0
      · subst y2
        simp [kOr, xTern, kZ, kR, xC, xV, lv, l4]
        exact fin
      · have : gTs M lim n = -4 := by omega
        rw [this] at fin
        simp [kOr, xTern, kZ, kR, xC, xV, lv, l4, this, y2]
        exact fin
    · rw [if_neg y] at fin
      have y2 : ¬ v = 0 := fun z => y (.inr z)
      have y3 : ¬ gTs M lim n = -4 := by omega
      simp [kOr, xTern, kZ, kR, xC, xV, lv, l4, lb (by omega), y3, y2]
      exact fin
