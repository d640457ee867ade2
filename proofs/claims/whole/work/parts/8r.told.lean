/-! the day as it is told -/
theorem mo_asTold {M : jMm} {Q : Int → jMm → Prop} (pl : iPl M) (hq : ∀ M', (∀ a b, ¬ (120 ≤ a ∧ a ≤ 122) → ¬ (a = 114 ∧ 15 ≤ b ∧ b ≤ 17) → M' a b = M a b) → (∀ s, 0 ≤ s → s < 3 → M' 120 s = M 116 (3 * s + 1) ∧ M' 121 s = tw M s ∧ M' 122 s = M 116 (3 * s + 2)) → M' 114 15 = M 114 3 → M' 114 16 = M 115 0 → M' 114 17 = -4 → Q 0 M') : f_X7_asTold [114] M Q := by
  unfold f_X7_asTold
  obtain ⟨e0, e1, e2, e3, -⟩ := sv7
  have hw := pl.2.2.2.2
  refine mt_ (sq_ (st_v (v := M 114 4) (fun Q => rfl) (sq_cut (fun L M1 => L 0 = 114 ∧ (∀ a b, ¬ (120 ≤ a ∧ a ≤ 122) → M1 a b = M a b) ∧ ∀ s, 0 ≤ s → s < 3 → M1 120 s = M 116 (3 * s + 1) ∧ M1 121 s = tw M s ∧ M1 122 s = M 116 (3 * s + 2)) (fun N1 hN1 => ?_) ?_)))
  · refine sq_ (st_c ?_)
    refine up0 3 (fun j L M1 => L 0 = 114 ∧ L 1 = M 114 4 / s_sv 7 j ∧ (∀ a b, ¬ (120 ≤ a ∧ a ≤ 122) → M1 a b = M a b) ∧ ∀ s : Int, 0 ≤ s → s < j → M1 120 s = M 116 (3 * s + 1) ∧ M1 121 s = tw M s ∧ M1 122 s = M 116 (3 * s + 2)) rfl (by decide) ⟨rfl, ?_, fun _ _ _ => rfl, fun s _ _ => by omega⟩ (fun _ _ _ _ _ h => h) ?_ ?_
    · show M 114 4 = M 114 4 / s_sv 7 0
      rw [e0, Int.ediv_one]
    · rintro j L M1 N2 hj hi ⟨l0, l1, F, hs⟩ hN2
      have j3 : (j : Int) < 3 := by omega
      have dv : M 114 4 / s_sv 7 j / 3 = M 114 4 / s_sv 7 ((j : Int) + 1) ∧ 0 ≤ M 114 4 / s_sv 7 j := by
        obtain rfl | rfl | rfl : j = 0 ∨ j = 1 ∨ j = 2 := by omega
        · show M 114 4 / s_sv 7 0 / 3 = M 114 4 / s_sv 7 1 ∧ 0 ≤ M 114 4 / s_sv 7 0
          rw [e0, e1]; omega
        · show M 114 4 / s_sv 7 1 / 3 = M 114 4 / s_sv 7 2 ∧ 0 ≤ M 114 4 / s_sv 7 1
          rw [e1, e2]; omega
        · show M 114 4 / s_sv 7 2 / 3 = M 114 4 / s_sv 7 3 ∧ 0 ≤ M 114 4 / s_sv 7 2
          rw [e2, e3]; omega
      have i1 : ir (3 * (j : Int)) := ⟨by omega, by omega⟩
      have i2 : ir (3 * (j : Int) + 1) := ⟨by omega, by omega⟩
      have i3 : ir (3 * (j : Int) + 2) := ⟨by omega, by omega⟩
      have j1 : 0 ≤ 3 * (j : Int) + 1 ∧ 3 * (j : Int) + 1 < 9 := by omega
      have j2 : 0 ≤ 3 * (j : Int) + 2 ∧ 3 * (j : Int) + 2 < 9 := by omega
      have a6 : ∀ b, M1 116 b = M 116 b := fun b => F _ _ (by decide)
      have a3 : M1 114 3 = M 114 3 := F _ _ (by decide)
      have b6 : ∀ (u v : Int) (b : Int), jwr M1 120 u v 116 b = M 116 b := fun u v b => by rw [jw0 (.inl (by decide))]; exact a6 b
      have b3 : ∀ (u v u' v' : Int), jwr (jwr M1 120 u v) 122 u' v' 114 3 = M 114 3 := fun u v u' v' => by rw [jw0 (by omega), jw0 (by omega)]; exact a3
      have b20 : ∀ (v u' v' : Int), jwr (jwr M1 120 j v) 122 u' v' 120 j = v := fun v u' v' => by rw [jw0 (by omega), jw1 ⟨rfl, rfl⟩]
      have k := hN2 (jup L 1 (M 114 4 / s_sv 7 j / 3)) (jwr (jwr (jwr M1 120 j (M 116 (3 * (j : Int) + 1))) 122 j (M 116 (3 * (j : Int) + 2))) 121 j (tw M j)) hi ⟨l0, by show _ = M 114 4 / s_sv 7 ((j + 1 : Nat) : Int); rw [show ((j + 1 : Nat) : Int) = (j : Int) + 1 by omega, ← dv.1]; rfl, fun a b h => by rw [jw0 (by omega), jw0 (by omega), jw0 (by omega)]; exact F a b h, fun s s0 s1 => ?_⟩
      · by_cases c : M 114 3 > 0
        · have t : tw M j = M 114 4 / s_sv 7 j % 3 := by unfold tw wy; rw [if_pos c]
          rw [t] at k
          simp [jMeth, jIn, jup, tSeq, tIf, tSkip, tSet, tInc, tPut, tPutZ, tPutO, tAst, tAstO, tDo, tRet, tRetZ, tRet0, kAnd, kOr, kNot, kZ, kR, xV, xC, xGf, xGr, xAl, xAr, xSt, xLen, xBin, xUn, xNeg, xTern, xCall, xsC, xsN, boAdd, boSub, boMul, boDiv, boRem, boMax, boMin, boOr, boAnd, boShl, boShr, mrf0, mrf2, mrf6, mrf7, mrf11, mrf12, mrf13, mrf14, mrf18, mrf19, mrf20, mrf21, mrf22, mrf23, mrf24, mrf25, mrf26, mrf27, mrf28, mrf29, mrf30, mrf35, mrf36, mrf37, mrf38, mrf40, mrf41, mrf42, mrf43, mln115, mln116, mln117, mln118, mln119, mln120, mln121, mln122, mln123, mln124, mln125, mln126, mln127, mln128, mln129, mln130, mln131, mln132, mln133, mln134, mln135, mln136, mln137, mln138, mln139, mln140, mln141, mln142, mln143, l0, l1, hi, a6, a3, b6, b3, b20, i1, i2, i3, j1, j2, j3, c, dv.2]
          exact k
        · have t : tw M j = M 116 (3 * (j : Int) + 1) := by unfold tw; rw [if_neg c]
          rw [t] at k
          simp [-Int.not_lt, jMeth, jIn, jup, tSeq, tIf, tSkip, tSet, tInc, tPut, tPutZ, tPutO, tAst, tAstO, tDo, tRet, tRetZ, tRet0, kAnd, kOr, kNot, kZ, kR, xV, xC, xGf, xGr, xAl, xAr, xSt, xLen, xBin, xUn, xNeg, xTern, xCall, xsC, xsN, boAdd, boSub, boMul, boDiv, boRem, boMax, boMin, boOr, boAnd, boShl, boShr, mrf0, mrf2, mrf6, mrf7, mrf11, mrf12, mrf13, mrf14, mrf18, mrf19, mrf20, mrf21, mrf22, mrf23, mrf24, mrf25, mrf26, mrf27, mrf28, mrf29, mrf30, mrf35, mrf36, mrf37, mrf38, mrf40, mrf41, mrf42, mrf43, mln115, mln116, mln117, mln118, mln119, mln120, mln121, mln122, mln123, mln124, mln125, mln126, mln127, mln128, mln129, mln130, mln131, mln132, mln133, mln134, mln135, mln136, mln137, mln138, mln139, mln140, mln141, mln142, mln143, l0, l1, hi, a6, a3, b6, b3, b20, i1, i2, i3, j1, j2, j3, c, dv.2]
          exact k
      · by_cases c : s = j
        · subst c
          exact ⟨by rw [jw0 (by omega), jw0 (by omega), jw1 ⟨rfl, rfl⟩], by rw [jw1 ⟨rfl, rfl⟩], by rw [jw0 (by omega), jw1 ⟨rfl, rfl⟩]⟩
        · obtain ⟨x, y, z⟩ := hs s s0 (by omega)
          exact ⟨by rw [jw0 (by omega), jw0 (by omega), jw0 (by omega)]; exact x, by rw [jw0 (by omega), jw0 (by omega), jw0 (by omega)]; exact y, by rw [jw0 (by omega), jw0 (by omega), jw0 (by omega)]; exact z⟩
    · rintro L M1 - ⟨l0, -, F, hs⟩
      exact hN1 L M1 ⟨l0, F, hs⟩
  · rintro L M1 ⟨l0, F, hs⟩
    refine sq_ (pu (k := 114) (v := M 114 3) (fun Q => by simp only [xV, l0]) (fun Q => by simp only [xGf, xV, l0]; rw [F _ _ (by decide)]) ?_)
    refine sq_ (pu (k := 114) (v := M 115 0) (fun Q => by simp only [xV, l0]) (fun Q => by simp only [xAl, xGr, xV, xC, l0, mrf0, mln115]; rw [jw0 (.inl (by decide)), F _ _ (by decide)]; exact propext ⟨fun h => h.2, fun h => ⟨by decide, h⟩⟩) ?_)
    refine sq_ (pu (k := 114) (v := -4) (fun Q => by simp only [xV, l0]) (fun Q => rfl) ?_)
    refine hq _ (fun a b h1 h2 => ?_) (fun s s0 s3 => ?_) ?_ ?_ ?_
    · rw [jw0 (by omega), jw0 (by omega), jw0 (by omega)]; exact F a b h1
    · obtain ⟨x, y, z⟩ := hs s s0 s3
      exact ⟨by rw [jw0 (by omega), jw0 (by omega), jw0 (by omega)]; exact x, by rw [jw0 (by omega), jw0 (by omega), jw0 (by omega)]; exact y, by rw [jw0 (by omega), jw0 (by omega), jw0 (by omega)]; exact z⟩
    · rw [jw0 (by omega), jw0 (by omega), jw1 ⟨rfl, rfl⟩]
    · rw [jw0 (by omega), jw1 ⟨rfl, rfl⟩]
    · rw [jw1 ⟨rfl, rfl⟩]
def gDay (M : jMm) : jMm := gRun (M 114 3) (tw M) (gT M) 100
theorem mo_day {M : jMm} {Q : Int → jMm → Prop} (pl : iPl M) (hq : ∀ M', moS M' (gEnd (gDay M)) → (∀ t : Nat, t < 100 → noS M' (gRun (M 114 3) (tw M) (gT M) (t + 1)) t) → iFr M M' → Q 0 M') : f_X7_asTold [114] M (fun _ M1 => f_X7_runs [114] M1 Q) := by
  refine mo_asTold pl (fun M1 F hs h15 h16 h17 => ?_)
  have G := iPl_G pl
  obtain ⟨pl0, pw, pc, pr, pch⟩ := pl
  have f0 : ∀ b, ¬ (15 ≤ b ∧ b ≤ 17) → M1 114 b = M 114 b := fun b h => F _ _ (by decide) (by omega)
  refine mo_runs (P := M) (r := M 115 0) (wo := -4) (c := M 114 3) (w := tw M) (ways := fun s => M 116 (3 * s + 1)) (paces := fun s => M 116 (3 * s + 2)) ⟨⟨f0 1 (by decide), f0 5 (by decide)⟩, fun b => ⟨F _ _ (by decide) (by omega), F _ _ (by decide) (by omega), F _ _ (by decide) (by omega)⟩, h16, h17, fun s s0 s3 => ⟨(hs s s0 s3).1, (hs s s0 s3).2.2⟩⟩ pl0 h15 (fun s s0 s3 => ⟨(hs s s0 s3).2.1, G.2 s s0 s3⟩) (fun s s0 s3 => pw s s0 s3) (fun s s0 s1 => pc s s0 s1) pr (fun M2 S no R => ?_)
  exact hq M2 S no (fun a b n => by rw [R a b (by unfold scr at n; omega), F a b (by unfold scr at n; omega) (by unfold scr at n; omega)])
theorem gEnd_lo {g : jMm} {a b : Int} (h : a ≠ 133) : gEnd g a b = g a b := by unfold gEnd; rw [if_neg (fun z => h z.1)]
theorem gTot_end {g : jMm} (hn0 : 0 ≤ g 114 5) : gTot (gEnd g) = gSum 100 g := by
  unfold gTot gSum
  have en := gN_eq hn0
  have e1 : gN (gEnd g) = gN g := by unfold gN; rw [gEnd_lo (by decide)]
  rw [e1]
  refine sm_congr _ (fun p p0 p1 => ?_)
  unfold gEnd
  by_cases c : g 123 p = 1
  · rw [if_pos ⟨rfl, p0, by omega, c⟩, if_pos c]
  · rw [if_neg (fun z => c z.2.2.2), if_neg c]
theorem gThr_end {g : jMm} {t : Int} : gThr (gEnd g) t = gThr g t := by
  unfold gThr
  have e1 : gN (gEnd g) = gN g := by unfold gN; rw [gEnd_lo (by decide)]
  rw [e1]
  exact sm_congr _ (fun p _ _ => by simp only [gEnd_lo (show (132 : Int) ≠ 133 by decide)])
theorem gThr_100 {g : jMm} {T B : Int} (ok : gOK T B g) : gThr g 100 = gThr g 99 := by
  unfold gThr
  have en := gN_eq ok.1.1.2.2.1
  refine sm_congr _ (fun p p0 p1 => ?_)
  have gp := ok.2.1 p p0 (by omega)
  have st4 := gp.2.2.2.2.2.2.1
  have st4n := gp.2.2.2.2.2.2.2
  by_cases c : g 123 p = 4
  · have := st4 c
    rw [if_pos (by omega), if_pos (by omega)]
  · have := st4n c
    rw [if_neg (by omega), if_neg (by omega)]
theorem gLa_end {g : jMm} : ∀ m : Nat, gLa (gEnd g) m = gLa g m
  | 0 => rfl
  | m + 1 => by
    unfold gLa
    rw [gLa_end m, gEnd_lo (by decide)]
theorem gW_eq {c : Int} {w : Int → Int} {g : jMm} : gSum 100 (gRun c w g 100) = gW c w g := rfl
theorem Inv_tape {M M' : jMm} (h : iTape M) (e : ∀ a b, (a = 114 ∨ a = 21 ∨ a = 22 ∨ a = 118) → M' a b = M a b) : iTape M' := iTape_eq h (e _ _ (.inl rfl)) (e _ _ (.inr (.inl rfl))) (fun b => e _ _ (.inr (.inr (.inl rfl)))) (fun b => e _ _ (.inr (.inr (.inr rfl))))
theorem pd_toldDay {M : jMm} {Q : Int → jMm → Prop} (I : Inv M) (hq : ∀ M', Inv M' → pdZ 28 (M 114 3) (tw M) (gT M) 100 M' → (∀ a b, ¬ (28 ≤ a ∧ a < 54) → ¬ (a = 0 ∧ b = 8) → M' a b = M a b) → Q 28 M') : f_X6_toldDay [0] M Q := by
  unfold f_X6_toldDay
  obtain ⟨⟨pl, rl⟩, -⟩ := id I
  have G := iPl_G pl
  have rf5 : s_rf 0 5 = 28 := by decide +kernel
  obtain ⟨hb, hz⟩ := I.2.2.2.2.1
  have hd : isDay 28 := .inl rfl
  have pch := pl.2.2.2.2
  refine mt_ (sq_ (if_pc (M 0 8 = 0) (fun T F => propext ?_) (fun c => ?_) (fun c => ?_)))
  · by_cases c : M 0 8 = 0 <;> simp [kNot, kZ, xGf, xV, jIn, c]
  · refine sq_ (do3e (x0 := 28) (x1 := 1) (x2 := -1) (fun Q => by simp only [xGr, xV, jIn, reduceIte, rf5]) (fun Q => by simp only [xGr, xV, jIn, reduceIte, rf_0_0]) (fun Q => rfl) ?_)
    refine pd_load (wo := -4) hd pl.1 rl (fun p p0 => by omega) (fun M1 B h10 h11 F1 => ?_)
    have Z0 := pdB_Z B pl.1 (c := M 114 3) (w := tw M) h10 (fun c3 => by
      rw [h11]
      refine ⟨pch.2.2.1, fun s _ _ => ?_⟩
      unfold tw
      rw [if_pos c3])
    refine sq_ (do3e (x0 := 28) (x1 := 0) (x2 := 99) (fun Q => by simp only [xGr, xV, jIn, reduceIte, rf5]) (fun Q => rfl) (fun Q => rfl) ?_)
    refine pd_run (a := 0) (b := 100) hd G Z0 (by decide) (by decide) (fun M2 Z2 F2 => ?_)
    have F : ∀ a b, ¬ (28 ≤ a ∧ a < 54) → M2 a b = M a b := fun a b h => (F2 a b (by omega)).trans (F1 a b (by omega))
    have Z3 : pdZ 28 (M 114 3) (tw M) (gT M) 100 (jwr M2 0 8 1) := pdZ_fr Z2 G (by decide) (fun a b h1 _ => jw0 (.inl (by omega)))
    have F3 : ∀ a b, ¬ (28 ≤ a ∧ a < 54) → ¬ (a = 0 ∧ b = 8) → jwr M2 0 8 1 a b = M a b := fun a b h1 h2 => by rw [jw0 (by omega)]; exact F a b h1
    have h8 : jwr M2 0 8 1 0 8 = 1 := jw1 ⟨rfl, rfl⟩
    have k := hq _ (Inv_same I (fun b _ => F3 _ _ (by decide) (by omega)) (fun b => ⟨F3 _ _ (by decide) (by omega), F3 _ _ (by decide) (by omega), F3 _ _ (by decide) (by omega)⟩) (fun a b h1 h2 => F3 _ _ (by omega) (by omega)) (iKept_eq I.2.1 (F3 _ _ (by decide) (by decide)) (F3 _ _ (by decide) (by decide)) (fun a b h1 h2 => F3 _ _ (by omega) (by omega)) (fun b => F3 _ _ (by decide) (by omega))) (Inv_tape I.2.2.1 (fun a b h => F3 _ _ (by omega) (by omega))) (fun s s0 s4 => iSheet_eq (I.2.2.2.1 s s0 s4) (fun b => F3 _ _ (by omega) (by omega)) (fun b => F3 _ _ (by omega) (by omega)) (F3 _ _ (by decide) (by omega)) (F3 _ _ (by decide) (by omega)) (fun i _ _ => F3 _ _ (by decide) (by omega))) (.inr ⟨h8, Z3⟩) (.inl (fun b h1 h2 => F3 _ _ (by decide) (by omega)))) Z3 F3
    show (1 = 0 ∨ (1 : Int) = 1) ∧ Q (s_rf 0 5) (jwr M2 0 8 1)
    rw [rf5]
    exact ⟨.inr rfl, k⟩
  · refine sk_ (rt_ ?_)
    show Q (s_rf 0 5) M
    rw [rf5]
    exact hq M I (hz (by omega)) (fun _ _ _ _ => rfl)
