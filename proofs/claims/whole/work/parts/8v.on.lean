/-! pairs: at, on -/
def gAtt (w : Int) (g : jMm) : Int := if w < 4 then gBits g (gOwn w) else g 135 0 + 10 * g 135 1 + 100 * g 135 2
def gUpTo (M : jMm) (t : Int) : jMm := gRun (M 114 3) (tw M) (gT M) (t.toNat + 1)
theorem qa_at {t w : Int} {M : jMm} {Q : Int → jMm → Prop} (pl : iPl M) (c1 : ¬ bt 0 t 99 = 0) (c2 : ¬ bt 0 w 4 = 0) (hq : ∀ M', iFr M M' → Q (gAtt w (gUpTo M t)) M') : f_X7_at [114, t, w] M Q := by
  unfold f_X7_at
  obtain ⟨w0, w4⟩ := bt_0 c2
  obtain ⟨t0, t1⟩ := bt_0 c1
  refine mt_ (sq_ (if_pc False (fun T F => propext ?_) (fun c => c.elim) (fun _ => ?_)))
  · simp [kOr, kNot, kZ, xCall, xsC, xsN, xUn, xV, xC, jIn, q_X7_in, c1, c2]
  · refine sk_ (mo_days rfl pl (fun M1 S no F => ?_))
    have q := hq M1 F
    obtain ⟨n1, n2, -⟩ := no t.toNat (by omega)
    have et : ((t.toNat : Nat) : Int) = t := by omega
    rw [et] at n1 n2
    have i1 : ir (4 * t) := ⟨by omega, by omega⟩
    have i2 : ir (4 * t + w) := ⟨by omega, by omega⟩
    have t2 : t < 100 := by omega
    unfold gAtt gUpTo at q
    refine rt_ ?_
    by_cases c : w < 4
    · rw [if_pos c] at q
      rw [← n1 w w0 c] at q
      have j1 : 0 ≤ 4 * t + w ∧ 4 * t + w < 400 := by omega
      simp [jMeth, jIn, jup, tSeq, tIf, tSkip, tSet, tInc, tPut, tPutZ, tPutO, tAst, tAstO, tDo, tRet, tRetZ, tRet0, kAnd, kOr, kNot, kZ, kR, xV, xC, xGf, xGr, xAl, xAr, xSt, xLen, xBin, xUn, xNeg, xTern, xCall, xsC, xsN, boAdd, boSub, boMul, boDiv, boRem, boMax, boMin, boOr, boAnd, boShl, boShr, mrf0, mrf2, mrf6, mrf7, mrf11, mrf12, mrf13, mrf14, mrf18, mrf19, mrf20, mrf21, mrf22, mrf23, mrf24, mrf25, mrf26, mrf27, mrf28, mrf29, mrf30, mrf35, mrf36, mrf37, mrf38, mrf40, mrf41, mrf42, mrf43, mln115, mln116, mln117, mln118, mln119, mln120, mln121, mln122, mln123, mln124, mln125, mln126, mln127, mln128, mln129, mln130, mln131, mln132, mln133, mln134, mln135, mln136, mln137, mln138, mln139, mln140, mln141, mln142, mln143, jIn, i1, i2, j1, c]
      exact q
    · rw [if_neg c, ← n2] at q
      simp [-Int.not_lt, jMeth, jIn, jup, tSeq, tIf, tSkip, tSet, tInc, tPut, tPutZ, tPutO, tAst, tAstO, tDo, tRet, tRetZ, tRet0, kAnd, kOr, kNot, kZ, kR, xV, xC, xGf, xGr, xAl, xAr, xSt, xLen, xBin, xUn, xNeg, xTern, xCall, xsC, xsN, boAdd, boSub, boMul, boDiv, boRem, boMax, boMin, boOr, boAnd, boShl, boShr, mrf0, mrf2, mrf6, mrf7, mrf11, mrf12, mrf13, mrf14, mrf18, mrf19, mrf20, mrf21, mrf22, mrf23, mrf24, mrf25, mrf26, mrf27, mrf28, mrf29, mrf30, mrf35, mrf36, mrf37, mrf38, mrf40, mrf41, mrf42, mrf43, mln115, mln116, mln117, mln118, mln119, mln120, mln121, mln122, mln123, mln124, mln125, mln126, mln127, mln128, mln129, mln130, mln131, mln132, mln133, mln134, mln135, mln136, mln137, mln138, mln139, mln140, mln141, mln142, mln143, jIn, t0, t2, c]
      exact q
theorem y_at {t w : Int} : yPair Inv f_X6_at f_X7_at [t, w] := by
  intro M Q I hq
  obtain ⟨⟨pl, rl⟩, -⟩ := id I
  unfold f_X6_at
  refine mt_ (sq_ (if_pc (bt 0 t 99 = 0 ∨ bt 0 w 4 = 0) (fun T F => propext ?_) (fun c => ?_) (fun c => ?_)))
  · by_cases c1 : bt 0 t 99 = 0 <;> by_cases c2 : bt 0 w 4 = 0 <;> simp [kOr, kNot, kZ, xCall, xsC, xsN, xV, xC, jIn, q_X6_isBetween, c1, c2]
  · show f_X7_at [114, t, w] M _
    unfold f_X7_at
    refine mt_ (sq_ (if_pc True (fun T F => propext ?_) (fun _ => hq _ _ I) (fun c => absurd trivial c)))
    by_cases c1 : bt 0 t 99 = 0 <;> by_cases c2 : bt 0 w 4 = 0 <;> first | (exfalso; simp [c1, c2] at c; done) | simp [kOr, kNot, kZ, xCall, xsC, xsN, xUn, xV, xC, jIn, q_X7_in, c1, c2]
  · have c1 : ¬ bt 0 t 99 = 0 := fun z => c (.inl z)
    have c2 : ¬ bt 0 w 4 = 0 := fun z => c (.inr z)
    obtain ⟨t0, t1⟩ := bt_0 c1
    obtain ⟨w0, w4⟩ := bt_0 c2
    have hd : isDay 54 := .inr (.inl rfl)
    refine sk_ (pd_trial I rfl t0 t1 (fun M1 Z F => ?_))
    have I1 := Inv_fr I (iFr_o (.inl rfl) F)
    have g := gT_eq (P := M) (P' := M1) (fun b _ => F _ _ (by omega)) (fun b => ⟨F _ _ (by omega), F _ _ (by omega), F _ _ (by omega)⟩)
    have gd : gUpTo M1 t = gUpTo M t := by unfold gUpTo; rw [g.1, g.2.1, F 114 3 (by omega)]
    have fin : ∀ v, v = gAtt w (gUpTo M t) → f_X7_at [114, t, w] M1 (fun b M2 => Q v b M2) := fun v hv => qa_at I1.1.1 c1 c2 (fun M2 F2 => by
      rw [gd, hv]; exact hq _ _ (Inv_fr I1 F2))
    have S : pdS 54 M1 (gUpTo M t) := Z.1
    have ok : gOK ((t.toNat + 1 : Nat) : Int) (12 * ((t.toNat + 1 : Nat) : Int)) (gUpTo M t) := ok_run (c := M 114 3) (iPl_G pl).2 (iPl_G pl).1 (t.toNat + 1) (by omega)
    generalize f_X7_at = X7 at *
    unfold gAtt at fin
    have rf : ∀ Q : Int → jMm → Prop, xGr (xV 0) 6 (jIn [0, 1, 2] [0, t, w]) M1 Q = Q 54 M1 := fun Q => by simp only [xGr, xV, jIn, reduceIte, rf_0_6]
    refine rt_ ?_
    by_cases c : w < 4
    · simp only [if_pos c] at fin
      refine ⟨fun _ => ?_, fun z => absurd (show w ≤ 3 by omega) z⟩
      show xGr (xV 0) 6 (jIn [0, 1, 2] [0, t, w]) M1 (fun v M2 => f_X0_setOf [v, w] M2 _)
      rw [rf, pd_setOf hd S ok w0 (by omega)]
      exact fin _ rfl
    · simp only [if_neg c] at fin
      refine ⟨fun z => absurd (show ¬ w ≤ 3 by omega) (fun n => n z), fun _ => ?_⟩
      show xGr (xV 0) 6 (jIn [0, 1, 2] [0, t, w]) M1 (fun v M2 => f_X0_tripDigits [v] M2 _)
      rw [rf, pd_tripDigits hd S ok]
      exact fin _ rfl
theorem who_spec {g : jMm} {s x y : Int} : ∀ m : Nat, (gWhoN g s x y m = -4 ∧ ∀ p : Int, 0 ≤ p → p < m → ¬ gAt g p s x y) ∨ (0 ≤ gWhoN g s x y m ∧ gWhoN g s x y m < m ∧ gAt g (gWhoN g s x y m) s x y)
  | 0 => .inl ⟨rfl, fun p h0 h1 => by omega⟩
  | m + 1 => by
    unfold gWhoN
    by_cases c : gAt g m s x y
    · rw [if_pos c]; exact .inr ⟨by omega, by omega, c⟩
    · rw [if_neg c]
      rcases who_spec (g := g) (s := s) (x := x) (y := y) m with ⟨h1, h2⟩ | ⟨h1, h2, h3⟩
      · refine .inl ⟨h1, fun p p0 p1 => ?_⟩
        by_cases e : p = m
        · rw [e]; exact c
        · exact h2 p p0 (by omega)
      · exact .inr ⟨h1, by omega, h3⟩
theorem who_eq {g : jMm} {s x y v : Int} (hn0 : 0 ≤ g 114 5) (h1 : -1 ≤ v) (h : ∀ p, 0 ≤ p → (v = p ↔ (p < g 114 5 ∧ gAt g p s x y))) : (if v < 0 then -4 else v) = gWho g s x y := by
  unfold gWho
  have en := gN_eq hn0
  rcases who_spec (g := g) (s := s) (x := x) (y := y) (gN g) with ⟨a, b⟩ | ⟨a, b, c⟩
  · by_cases c : v < 0
    · rw [if_pos c, a]
    · have := (h v (by omega)).mp rfl
      exact absurd this.2 (b v (by omega) (by omega))
  · have := (h _ a).mpr ⟨by omega, c⟩
    rw [if_neg (by omega)]; exact this
theorem qa_on {t s x y : Int} {M : jMm} {Q : Int → jMm → Prop} (pl : iPl M) (c1' : ¬ bt 0 t 99 = 0) (c2' : ¬ bt 0 s (M 114 1 - 1) = 0) (c3' : ¬ bt 0 x (M 116 (3 * s) - 1) = 0) (c4' : ¬ bt 0 y 1 = 0) (hq : ∀ M', iFr M M' → Q (gWho (gUpTo M t) s x y) M') (hw : -4 ≤ gWho (gUpTo M t) s x y ∧ gWho (gUpTo M t) s x y ≤ 14 ∧ (gWho (gUpTo M t) s x y < 0 → gWho (gUpTo M t) s x y = -4)) : f_X7_on [114, t, s, x, y] M Q := by
  unfold f_X7_on
  obtain ⟨t0, t1⟩ := bt_0 c1'
  obtain ⟨s0, s1⟩ := bt_0 c2'
  obtain ⟨x0, x1⟩ := bt_0 c3'
  obtain ⟨y0, y1⟩ := bt_0 c4'
  have k3 := pl.1.1.2.1
  have k0 := pl.1.1.1
  have ln := pl.1.2.2.1 s s0 (by omega)
  have i1 : ir (M 114 1 - 1) := ⟨by omega, by omega⟩
  have i2 : ir (3 * s) := ⟨by omega, by omega⟩
  have i3 : ir (M 116 (3 * s) - 1) := ⟨by omega, by omega⟩
  have j2 : 0 ≤ 3 * s ∧ 3 * s < 9 := by omega
  refine mt_ (sq_ (if_pc (((bt 0 t 99 = 0 ∨ bt 0 s (M 114 1 - 1) = 0) ∨ bt 0 x (M 116 (3 * s) - 1) = 0) ∨ bt 0 y 1 = 0) (or_pc (or_pc (or_pc (nz_pc (bm (fun Q => rfl) (fun Q => rfl) (fun Q => rfl))) (fun _ => nz_pc ((c2 (fun Q => rfl) (fun Q => rfl) (fun Q => ?_))))) (fun h => nz_pc (bm (fun Q => rfl) (fun Q => rfl) (fun Q => ?_)))) (fun _ => nz_pc (bm (fun Q => rfl) (fun Q => rfl) (fun Q => rfl)))) (fun z => (z.elim (fun z => z.elim (fun z => z.elim c1' c2') c3') c4').elim) (fun _ => ?_)))
  · show f_X7_isStair [114, s] M Q = _
    rw [q_X7_isStair]; exact propext ⟨fun h => h.2, fun h => ⟨i1, h⟩⟩
  · simp only [xUn, xBin, boSub, boMul, xAl, xGr, xV, xC, jIn, reduceIte, Nat.reduceEqDiff, mrf2, mln116, i2, i3, j2, true_and, and_self]
  · refine sk_ (mo_days rfl pl (fun M1 S no F => ?_))
    have q := hq M1 F
    obtain ⟨-, -, n3⟩ := no t.toNat (by omega)
    have et : ((t.toNat : Nat) : Int) = t := by omega
    have v38 := n3 s x y s0 (by omega) x0 (by omega) y0 (by omega)
    rw [et] at v38
    change M1 138 _ = gSpot (gWho (gUpTo M t) s x y) at v38
    have i4 : ir (60 * t) := ⟨by omega, by omega⟩
    have i5 : ir (20 * s) := ⟨by omega, by omega⟩
    have i6 : ir (60 * t + 20 * s) := ⟨by omega, by omega⟩
    have i7 : ir (2 * x) := ⟨by omega, by omega⟩
    have i8 : ir (60 * t + 20 * s + 2 * x) := ⟨by omega, by omega⟩
    have i9 : ir (60 * t + 20 * s + 2 * x + y) := ⟨by omega, by omega⟩
    have j3 : 0 ≤ 60 * t + 20 * s + 2 * x + y ∧ 60 * t + 20 * s + 2 * x + y < 6000 := by omega
    generalize gWho (gUpTo M t) s x y = v at *
    refine sq_ (st_v (v := gSpot v) (fun Q => propext ?_) ?_)
    · simp [jMeth, jIn, jup, tSeq, tIf, tSkip, tSet, tInc, tPut, tPutZ, tPutO, tAst, tAstO, tDo, tRet, tRetZ, tRet0, kAnd, kOr, kNot, kZ, kR, xV, xC, xGf, xGr, xAl, xAr, xSt, xLen, xBin, xUn, xNeg, xTern, xCall, xsC, xsN, boAdd, boSub, boMul, boDiv, boRem, boMax, boMin, boOr, boAnd, boShl, boShr, mrf0, mrf2, mrf6, mrf7, mrf11, mrf12, mrf13, mrf14, mrf18, mrf19, mrf20, mrf21, mrf22, mrf23, mrf24, mrf25, mrf26, mrf27, mrf28, mrf29, mrf30, mrf35, mrf36, mrf37, mrf38, mrf40, mrf41, mrf42, mrf43, mln115, mln116, mln117, mln118, mln119, mln120, mln121, mln122, mln123, mln124, mln125, mln126, mln127, mln128, mln129, mln130, mln131, mln132, mln133, mln134, mln135, mln136, mln137, mln138, mln139, mln140, mln141, mln142, mln143, jIn, i4, i5, i6, i7, i8, i9, j3, v38]
    · unfold gSpot
      by_cases c : v < 0
      · have q4 : Q (-4) M1 := by rw [← hw.2.2 c]; exact q
        rw [if_pos c]
        refine rt_ ?_
        simp [xTern, kZ, xC, xV, xBin, boSub, jup]
        exact q4
      · rw [if_neg c]
        refine rt_ ?_
        have i0 : ir v := ⟨by omega, by omega⟩
        have ne : ¬ v + 1 = 0 := by omega
        simp [xTern, kZ, xC, xV, xBin, boSub, jup, ne, i0]
        exact q
theorem y_on {t s x y : Int} : yPair Inv f_X6_on f_X7_on [t, s, x, y] := by
  intro M Q I hq
  obtain ⟨⟨pl, rl⟩, -⟩ := id I
  have k3 := pl.1.1.2.1
  have k0 := pl.1.1.1
  have i1 : ir (M 114 1 - 1) := ⟨by omega, by omega⟩
  have r1 := rl.1
  unfold f_X6_on
  obtain ⟨u2, u3, -⟩ := pln1
  have r3 : ∀ s, 0 ≤ s → s < M 114 1 → M 3 s = M 116 (3 * s) := fun s s0 s1 => (rl.2.2.2.2.2.1 s s0 s1).1
  have bd : ∀ s, ¬ bt 0 s (M 114 1 - 1) = 0 → 0 ≤ s ∧ s < M 114 1 ∧ s < 3 ∧ ir (3 * s) ∧ ir (M 116 (3 * s) - 1) ∧ (0 ≤ 3 * s ∧ 3 * s < 9) := fun s h => by
    obtain ⟨a, b⟩ := bt_0 h
    have := pl.1.2.2.1 s a (by omega)
    exact ⟨a, by omega, by omega, ⟨by omega, by omega⟩, ⟨by omega, by omega⟩, by omega⟩
  refine mt_ (sq_ (if_pc (((bt 0 t 99 = 0 ∨ bt 0 s (M 114 1 - 1) = 0) ∨ bt 0 y 1 = 0) ∨ bt 0 x (M 116 (3 * s) - 1) = 0) (or_pc (or_pc (or_pc (nz_pc (bw (fun Q => rfl) (fun Q => rfl) (fun Q => rfl))) (fun _ => nz_pc (c2 (fun Q => rfl) (fun Q => rfl) (fun Q => ?_)))) (fun _ => nz_pc (bw (fun Q => rfl) (fun Q => rfl) (fun Q => rfl)))) (fun h => nz_pc (bw (fun Q => rfl) (fun Q => rfl) (fun Q => ?_)))) (fun c => ?_) (fun c => ?_)))
  · show f_X6_isStair [0, s] M Q = _
    rw [q_X6_isStair, r1]; exact propext ⟨fun h => h.2, fun h => ⟨i1, h⟩⟩
  · obtain ⟨b0, b1, b3, -, b5, -⟩ := bd s (fun z => h (.inl (.inr z)))
    have e3 := r3 s b0 b1
    simp only [xBin, boSub, xAl, xAr, xGr, xV, xC, jIn, reduceIte, Nat.reduceEqDiff, rf_0_0, rf_1_0, rf_2_0, ln_2, ln_3, b0, b3, e3, b5, true_and, and_self]
    simp only [show ((0 : Int) ≤ 0 ∧ (0 : Int) < 3) = True from by decide, true_and]
  · show f_X7_on [114, t, s, x, y] M _
    unfold f_X7_on
    refine mt_ (sq_ (if_pc (((bt 0 t 99 = 0 ∨ bt 0 s (M 114 1 - 1) = 0) ∨ bt 0 x (M 116 (3 * s) - 1) = 0) ∨ bt 0 y 1 = 0) (or_pc (or_pc (or_pc (nz_pc (bm (fun Q => rfl) (fun Q => rfl) (fun Q => rfl))) (fun _ => nz_pc (c2 (fun Q => rfl) (fun Q => rfl) (fun Q => ?_)))) (fun h => nz_pc (bm (fun Q => rfl) (fun Q => rfl) (fun Q => ?_)))) (fun _ => nz_pc (bm (fun Q => rfl) (fun Q => rfl) (fun Q => rfl)))) (fun _ => hq _ _ I) (fun n => absurd (c.elim (fun z => z.elim (fun z => .inl (.inl z)) .inr) (fun z => .inl (.inr z))) n)))
    · show f_X7_isStair [114, s] M Q = _
      rw [q_X7_isStair]; exact propext ⟨fun h => h.2, fun h => ⟨i1, h⟩⟩
    · obtain ⟨b0, b1, b3, b4, b5, b6⟩ := bd s (fun z => h (.inr z))
      simp only [xUn, xBin, boSub, boMul, xAl, xGr, xV, xC, jIn, reduceIte, Nat.reduceEqDiff, mrf2, mln116, b4, b5, b6, true_and, and_self]
  · have c1 : ¬ bt 0 t 99 = 0 := fun z => c (.inl (.inl (.inl z)))
    have c2 : ¬ bt 0 s (M 114 1 - 1) = 0 := fun z => c (.inl (.inl (.inr z)))
    have c3 : ¬ bt 0 x (M 116 (3 * s) - 1) = 0 := fun z => c (.inr z)
    have c4 : ¬ bt 0 y 1 = 0 := fun z => c (.inl (.inr z))
    obtain ⟨t0, t1⟩ := bt_0 c1
    obtain ⟨s0, s1⟩ := bt_0 c2
    have s3 : s < 3 := by omega
    have ln := pl.1.2.2.1 s s0 (by omega)
    obtain ⟨x0, x1⟩ := bt_0 c3
    obtain ⟨y0, y1⟩ := bt_0 c4
    have hd : isDay 54 := .inr (.inl rfl)
    refine sk_ (pd_trial I rfl t0 t1 (fun M1 Z F => ?_))
    have I1 := Inv_fr I (iFr_o (.inl rfl) F)
    have g := gT_eq (P := M) (P' := M1) (fun b _ => F _ _ (by omega)) (fun b => ⟨F _ _ (by omega), F _ _ (by omega), F _ _ (by omega)⟩)
    have gd : gUpTo M1 t = gUpTo M t := by unfold gUpTo; rw [g.1, g.2.1, F 114 3 (by omega)]
    have S : pdS 54 M1 (gUpTo M t) := Z.1
    have ok : gOK ((t.toNat + 1 : Nat) : Int) (12 * ((t.toNat + 1 : Nat) : Int)) (gUpTo M t) := ok_run (c := M 114 3) (iPl_G pl).2 (iPl_G pl).1 (t.toNat + 1) (by omega)
    have sm := same_run (c := M 114 3) (w := tw M) (g := gT M) (t.toNat + 1)
    have e1 : gUpTo M t 114 1 = M 114 1 := (sm.1 1 (by decide)).trans (by simp [gT, gBegin])
    have e6 : gUpTo M t 116 (3 * s) = M 116 (3 * s) := (sm.2 (3 * s)).2.1.trans (by simp [gT, gBegin])
    have hn0 := ok.1.1.2.2.1
    have f1 : M1 114 1 = M 114 1 := F _ _ (by omega)
    have f6 : M1 116 (3 * s) = M 116 (3 * s) := F _ _ (by omega)
    have hn := ok.1.1.2.2.2.1
    have hw : ∀ g : jMm, g 114 5 = gUpTo M t 114 5 → -4 ≤ gWho g s x y ∧ gWho g s x y ≤ 14 ∧ (gWho g s x y < 0 → gWho g s x y = -4) := fun g hg => by
      have en : ((gN g : Nat) : Int) = g 114 5 := gN_eq (by rw [hg]; exact hn0)
      unfold gWho
      rcases who_spec (g := g) (s := s) (x := x) (y := y) (gN g) with ⟨a, b⟩ | ⟨a, b, c⟩
      · omega
      · omega
    have fin : ∀ v, v = gWho (gUpTo M t) s x y → f_X7_on [114, t, s, x, y] M1 (fun b M2 => Q v b M2) := fun v hv => qa_on I1.1.1 c1 (by rw [f1]; exact c2) (by rw [f6]; exact c3) c4 (fun M2 F2 => by
      rw [gd, hv]; exact hq _ _ (Inv_fr I1 F2)) (by rw [gd]; exact hw _ rfl)
    have X := S.2 s s0 (by rw [e1]; omega) x y x0 (by rw [e6]; omega) y0 y1
    have len := (S.1.2.1 s s0 (by rw [e1]; omega)).1
    rw [e6] at len
    have val := fin _ (who_eq hn0 X.1 X.2)
    have rf : s_rf (54 + 2) s = 54 + 20 + 2 * s := dfs hd s0 s3
    generalize f_X7_on = X7 at *
    refine rt_ ?_
    show (0 ≤ s ∧ s < s_len (s_rf (s_rf 0 6) 1)) ∧ f_X1_who [s_rf (s_rf (s_rf 0 6) 1) s, x, y] M1 (fun v M2 => f_X6_orNone [v] M2 _)
    rw [rf_0_6, drf1 hd, dln2 hd, rf]
    refine ⟨⟨s0, s3⟩, ?_⟩
    rw [pd_who hd s0 s3 (by rw [len]; omega), if_pos ⟨x0, by rw [len]; omega, y0, y1⟩, q_orNone]
    exact val
