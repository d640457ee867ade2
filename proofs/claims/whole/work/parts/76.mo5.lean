/-! the model: the change -/
theorem mFr_of {M M' : jMm} (j : Int) (h : ∀ a b, (b ≠ j ∨ a < 123 ∨ 133 < a) → M' a b = M a b) : mFr M M' := fun a b hd => h a b (by unfold mDyn at hd; omega)
theorem moS_134 {M g : jMm} {s v : Int} (S : moS M g) (s0 : 0 ≤ s) (s1 : s < 3) : moS (jwr M 134 s v) (jwr g 134 s v) := by
  obtain ⟨⟨s1, s2, s3, s4⟩, sj, ss, sp, s5, s6, s7, s8⟩ := S
  have e200 : (jwr g 134 s v) 200 = g 200 := funext fun b => by simp [jwr]
  refine ⟨?_, fun i => ?_, fun i h0 h1 => ?_, fun p h0 h1 => ?_, ?_, ?_⟩
  · simp [jwr, s1, s2, s3, s4]
  · simpa [jwr] using sj i
  · have := ss i h0 h1
    by_cases e : i = s
    · subst e; simp [jwr]; exact ⟨this.1, this.2.2⟩
    · simpa [jwr, e] using this
  · have := sp p h0 (by simpa [jwr] using h1)
    simpa [moP, jwr] using this
  · rw [e200]; simpa [jwr, gN] using s5
  · simp [jwr, s6, s7, s8]
theorem moS_135 {M g : jMm} {s v : Int} (S : moS M g) (s0 : 0 ≤ s) (s1 : s < 3) : moS (jwr M 135 s v) (jwr g 135 s v) := by
  obtain ⟨⟨s1, s2, s3, s4⟩, sj, ss, sp, s5, s6, s7, s8⟩ := S
  have e200 : (jwr g 135 s v) 200 = g 200 := funext fun b => by simp [jwr]
  refine ⟨?_, fun i => ?_, fun i h0 h1 => ?_, fun p h0 h1 => ?_, ?_, ?_⟩
  · simp [jwr, s1, s2, s3, s4]
  · simpa [jwr] using sj i
  · have := ss i h0 h1
    by_cases e : i = s
    · subst e; simp [jwr]; exact ⟨this.1, this.2.1⟩
    · simpa [jwr, e] using this
  · have := sp p h0 (by simpa [jwr] using h1)
    simpa [moP, jwr] using this
  · rw [e200]; simpa [jwr, gN] using s5
  · simp [jwr, s6, s7, s8]
theorem mo_changes {M g : jMm} {t : Int} {w : Int → Int} {Q : Int → jMm → Prop} (S : moS M g) {T B : Int} (ok : gOK T B g) (t0 : 0 ≤ t) (t1 : t ≤ 99) (hw : ∀ s, 0 ≤ s → s < 3 → M 121 s = w s ∧ 0 ≤ w s ∧ w s ≤ 2) (hq : ∀ M', moS M' (gAll (gChg t w) (gK g) g) → mFr M M' → Q 0 M') : f_X7_changes [114, t] M Q := by
  unfold f_X7_changes
  have v := ok.1
  have hk := v.1.2.1
  have ek := gK_eq v.1.1
  refine mt_ (sq_ (sq_ (st_c ?_)))
  refine up0 (gK g) (fun j L M' => L 0 = 114 ∧ L 1 = t ∧ mFr M M' ∧ ∃ h, moS M' h ∧ gOK T B h ∧ gSame g h ∧ h = gAll (gChg t w) j g) rfl (by omega) ⟨rfl, rfl, mFr_rfl, g, S, ok, gSame_rfl, rfl⟩ ?_ ?_ ?_
  · rintro j L M' Q ⟨l0, -, -, h, S', -, sm', -⟩ hq
    show Q (M' (L 0) 1) M'
    rw [l0, S'.1.1, sm'.1 1 (by decide), ← ek]; exact hq
  · rintro s L M' N1 hs hi ⟨l0, l1, F, h, S', ok', sm', hh⟩ hN
    have e1 : h 114 1 = g 114 1 := sm'.1 1 (by decide)
    have s1 : (s : Int) < h 114 1 := by omega
    have s3 : (s : Int) < 3 := by omega
    have s0 : (0 : Int) ≤ s := by omega
    obtain ⟨hw1, w0, w2⟩ := hw s s0 s3
    have hw2 : M' 121 s = w s := by rw [F 121 s (by unfold mDyn; omega)]; exact hw1
    have v' := ok'.1
    have hn0 := v'.1.2.2.1
    have hn := v'.1.2.2.2.1
    have en := gN_eq hn0
    have es := v'.2.2.1 s s0 s1
    obtain ⟨-, e134, -⟩ := S'.2.2.1 s s0 s3
    have key : ∀ (L2 : jLo) M2, L2 2 = (s : Int) → L2 0 = 114 → L2 1 = t → moS M2 (gChg t w s h) → mFr M' M2 → N1 L2 M2 := fun L2 M2 i2 i0 i1 S2 F2 => hN L2 M2 i2 ⟨i0, i1, mFr_tr F F2, gChg t w s h, S2, ok_chg ok' s0 s1 w0 w2 t0 t1, gSame_tr sm' same_chg, by rw [hh]; rfl⟩
    refine sq_ (st_v (v := h 134 s) (fun Q => ?_) ?_)
    · simp (disch := omega) only [xAl, xGr, xV, l0, hi, mrf29, mln134, ixE, e134]
    refine sq_ ?_
    have S1 : moS (jwr M' 134 s (w s)) (jwr h 134 s (w s)) := moS_134 S' s0 s3
    have F1 : mFr M' (jwr M' 134 s (w s)) := mFr_wr mFr_rfl (.inl ⟨by decide, by decide⟩)
    have eg1 : ∀ a, a ≠ 134 → ∀ b, jwr h 134 s (w s) a b = h a b := fun a ha b => by simp [jwr, ha]
    have em1 : ∀ a, a ≠ 134 → ∀ b, jwr M' 134 s (w s) a b = M' a b := fun a ha b => by simp [jwr, ha]
    have e34 : jwr M' 134 s (w s) 134 s = w s := by simp [jwr]
    have goal : ∀ L2 : jLo, L2 2 = (s : Int) → L2 0 = 114 → L2 1 = t → L2 3 = h 134 s → tSeq (tSet 4 (xC 0)) (tWh (kAnd (kR (fun x y => x < y) (xV 4) (xGf (xV 0) 5)) (kR (fun x y => x ≠ y) (xV 3) (xAl (xGr (xV 0) 29) (xV 2)))) (tSeq (tIf (kAnd (kZ (fun x y => x ≠ y) (xCall f_X7_isOn (xsC (xV 0) (xsC (xV 4) (xsC (xV 2) (xsN)))))) (kZ (fun x y => x = y) (xAl (xGr (xV 0) 29) (xV 2)))) (tSeq (tAst (xGr (xV 0) 18) (xV 4) (xC 4)) (tAst (xGr (xV 0) 27) (xV 4) (xV 1))) (tIf (kZ (fun x y => x ≠ y) (xCall f_X7_isOn (xsC (xV 0) (xsC (xV 4) (xsC (xV 2) (xsN)))))) (tAst (xGr (xV 0) 21) (xV 4) (xBin boSub (xBin boSub (xAl (xGr (xV 0) 2) (xBin boMul (xC 3) (xV 2))) (xC 1)) (xAl (xGr (xV 0) 21) (xV 4)))) tSkip)) (tInc 4 1))) L2 (jwr M' 134 s (w s)) N1 Q := by
      intro L2 i2 i0 i1 i3
      refine sq_ (st_c ?_)
      by_cases c : h 134 s = w s
      · refine wh_out (fun T => ?_)
        have e5 : jwr M' 134 s (w s) 114 5 = h 114 5 := S1.1.2.1
        simp (disch := omega) only [kAnd, kR, xV, xGf, xAl, xGr, jup, i0, i2, i3, mrf29, mln134, ixE, e5, e34, c, reduceIte, Nat.reduceEqDiff]
        have k2 : N1 (fun j => if j = 4 then 0 else L2 j) (jwr M' 134 s (w s)) := key _ _ i2 i0 i1 (by
          have e : gChg t w s h = jwr h 134 s (w s) := by
            funext a b
            simp [gChg, jwr, c]
          rw [e]; exact S1) F1
        exact ⟨fun _ => ⟨fun q => absurd rfl q, fun _ => k2⟩, fun _ => k2⟩
      · have mst : ∀ a b, 133 < a → gChg t w s h a b = jwr h 134 s (w s) a b := fun a b ha => by
          have a1 : ¬ a = 123 := by omega
          have a2 : ¬ a = 132 := by omega
          have a4 : ¬ a = 126 := by omega
          simp [gChg, jwr, a1, a2, a4]
        refine up0a (gN h) (fun j L M1 => L 0 = 114 ∧ L 1 = t ∧ L 2 = s ∧ L 3 = h 134 s ∧ moS M1 (upto j (gChg t w s h) (jwr h 134 s (w s))) ∧ mFr M' M1) rfl (by omega) ⟨i0, i1, i2, i3, ?_, F1⟩ ?_ ?_ ?_ ?_
        · rw [show ((0 : Nat) : Int) = 0 from rfl, upto_0 (fun a b hb => by have : ¬ 0 ≤ b := by omega
                                                                            have q : ¬ b = (s : Int) := by omega
                                                                            simp [gChg, jwr, this, q])]
          exact S1
        · rintro j L M1 Q ⟨l0, -, -, -, S1, -⟩ hq
          show Q (M1 (L 0) 5) M1
          rw [l0, moS_n S1, eg1 _ (by decide), ← en]; exact hq
        · rintro j L M1 T F ⟨l0, l1, l2, l3, S1, -⟩ hT
          have e : M1 134 s = w s := by
            have := (S1.2.2.1 s s0 s3).2.1
            rw [this]
            unfold upto
            split
            · simp [gChg]
            · simp [jwr]
          simp (disch := omega) only [kR, xV, xAl, xGr, l0, l2, l3, mrf29, mln134, ixE, e]
          exact ⟨fun _ => hT, fun q => absurd c q⟩
        · rintro j L M1 N2 hj' hi ⟨l0, l1, l2, l3, S2, F2⟩ hN
          have hp' : (j : Int) < h 114 5 := by omega
          have h2 : (j : Int) < 14 := by omega
          have x5 : upto j (gChg t w s h) (jwr h 134 s (w s)) 114 5 = h 114 5 := by rw [upto_lo (by decide), eg1 _ (by decide)]
          have P := moP_up (moS_get S2 (Int.natCast_nonneg j) (by rw [x5]; exact hp'))
          have hon : ∀ Q, f_X7_isOn [114, (j : Int), (s : Int)] M1 Q = Q (if h 123 j = 2 ∧ h 125 j = s then 1 else 0) M1 := fun Q => by
            have := mo_isOn (Q := Q) (p := j) (s := s) S2 (by rw [x5]; exact hn) (Int.natCast_nonneg j) (by rw [x5]; exact hp')
            simpa only [gOn, upto_at, eg1 123 (by decide), eg1 125 (by decide)] using this
          have e : M1 134 s = w s := by
            have := (S2.2.2.1 s s0 s3).2.1
            rw [this]
            unfold upto
            split
            · simp [gChg]
            · simp [jwr]
          have e116 : M1 116 (3 * s) = h 116 (3 * s) := by
            rw [(S2.2.1 _).2.1, upto_lo (by decide), eg1 _ (by decide)]
          have key2 : ∀ M2 : jMm, (∀ a b, (b ≠ (j : Int) ∨ a < 123 ∨ 133 < a) → M2 a b = M1 a b) → moP M2 (gChg t w s h) j → N2 L M2 := fun M2 hM hP2 => hN _ _ hi ⟨l0, l1, l2, l3, by have := moS_up (j : Int) S2 mst hM hP2; rwa [show ((j + 1 : Nat) : Int) = (j : Int) + 1 by omega], mFr_tr F2 (mFr_of j hM)⟩
          simp only [moP, eg1 123 (by decide), eg1 124 (by decide), eg1 125 (by decide), eg1 126 (by decide), eg1 127 (by decide), eg1 128 (by decide), eg1 129 (by decide), eg1 130 (by decide), eg1 131 (by decide), eg1 132 (by decide), eg1 133 (by decide)] at P
          have P' := P
          obtain ⟨e1, e4, -, -, -, -, e2, e3⟩ := P'
          by_cases d : h 123 j = 2 ∧ h 125 j = s
          · obtain ⟨c5, c6⟩ := d
            obtain ⟨-, e5, -⟩ := e2 c5
            have pj := (ok'.2.1 j (by omega) hp').2.2.2.2.1 c5
            rw [c6] at pj
            by_cases c4 : w s = 0
            · simp [tSeq, tIf, tAst, kAnd, kZ, kR, xCall, xsC, xsN, xV, xC, xAl, xGr, l0, l1, l2, l3, hi, hon, mrf18, mrf27, mrf29, mln123, mln132, mln134, h2, s3, c5, c6, e, c4]
              refine key2 _ (fun a b hab => ?_) ?_
              · unfold jwr; rw [if_neg (by omega), if_neg (by omega)]
              · have c7 : ¬ h 134 s = 0 := fun q => c (by rw [q, c4])
                simp [moP, gChg, jwr, c5, c6, c4, c7, hp'] at P ⊢
                omega
            · have i5 : ir (3 * (s : Int)) := ⟨by omega, by omega⟩
              have i6 : ir (h 116 (3 * s) - 1) := ⟨by omega, by omega⟩
              have i7 : ir (h 116 (3 * s) - 1 - h 126 j) := ⟨by omega, by omega⟩
              have i8 : 3 * (s : Int) < 9 := by omega
              have i9 : 0 ≤ 3 * (s : Int) := by omega
              simp only [tSeq, tIf, tAst, kAnd, kZ, kR, xCall, xsC, xsN, xV, xC, xAl, xGr, xBin, boSub, boMul, l0, l1, l2, l3, hi, hon, mrf2, mrf18, mrf21, mrf27, mrf29, mln116, mln123, mln126, mln132, mln134, e, e116, e5]
              simp [h2, s3, c5, c6, e, c4, i5, i6, i7, i8, i9]
              refine key2 _ (fun a b hab => ?_) ?_
              · unfold jwr; rw [if_neg (by omega)]
              · simp [moP, gChg, jwr, c5, c6, c4, c, hp'] at P ⊢
                omega
          · simp [tSeq, tIf, tSkip, tAst, kAnd, kZ, kR, xCall, xsC, xsN, xV, xC, xAl, xGr, l0, l1, l2, l3, hi, hon, mrf18, mrf27, mrf29, mln123, mln132, mln134, h2, d]
            refine key2 _ (fun a b hab => rfl) ?_
            simpa [moP, gChg, d] using P
        · rintro L M1 hi ⟨l0, l1, l2, -, S2, F2⟩
          rw [en, upto_n (fun a b hb => by
            rcases hb with hb | hb
            · have : ¬ b < h 114 5 := by omega
              simp [gChg, jwr, this]
            · have a1 : ¬ a = 123 := by omega
              have a2 : ¬ a = 132 := by omega
              have a4 : ¬ a = 126 := by omega
              simp [gChg, jwr, a1, a2, a4])] at S2
          exact key _ _ l2 l0 l1 S2 F2
    have := goal (jup L 3 (h 134 s)) hi l0 l1 rfl
    show tAst (xGr (xV 0) 29) (xV 2) (xAl (xGr (xV 0) 13) (xV 2)) (jup L 3 (h 134 s)) M' _ _
    simp (disch := omega) only [tAst, xGr, xV, xAl, jup, l0, hi, mrf29, mrf13, mln134, mln121, ixE, hw2, reduceIte, Nat.reduceEqDiff]
    exact this
  · rintro L M' hi ⟨-, -, F, h, S', -, -, hw⟩
    rw [hw] at S'
    exact hq _ S' F
