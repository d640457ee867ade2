theorem chg_weight {t s s' : Int} {w : Int → Int} {g : jMm} (hss : s' ≠ s ∨ w s ≠ 0 ∨ g 134 s = w s) : gWeight (gChg t w s g) s' = gWeight g s' := by
  have e : gN (gChg t w s g) = gN g := by simp [gN, gChg]
  unfold gWeight
  rw [e]
  refine sm_congr _ (fun p p0 p1 => ?_)
  have e4 : gChg t w s g 124 p = g 124 p := by simp [gChg]
  have e5 : gChg t w s g 125 p = g 125 p := by simp [gChg]
  unfold gOn
  rw [e4, e5]
  by_cases on : gOn g p s
  · by_cases c : w s = 0 ∧ g 134 s ≠ w s
    · have : s' ≠ s := by omega
      have z : ¬ g 125 p = s' := fun z => this (by rw [← z, on.2])
      rw [if_neg (fun q => z q.2), if_neg (fun q => z q.2)]
    · have e3 : gChg t w s g 123 p = g 123 p := by
        unfold gChg
        rw [if_neg (by omega)]
        split
        · rename_i h
          rw [if_neg (fun z => c ⟨z, h.1⟩), if_neg (by omega)]
        · rfl
      rw [e3]
  · have e3 : gChg t w s g 123 p = g 123 p := by
      unfold gChg
      rw [if_neg (by omega), if_neg (fun z => on z.2.2.2)]
    rw [e3]
theorem chg_at {t s a p : Int} {w : Int → Int} {g : jMm} (h : ¬ gOn g p s) (ha : a ≠ 134) : gChg t w s g a p = g a p := by
  unfold gChg
  rw [if_neg (fun z => ha z.1), if_neg (fun z => h z.2.2.2)]
theorem chg_eq {t s a p : Int} {w : Int → Int} {g : jMm} (h : a ≠ 123) (h2 : a ≠ 126) (h3 : a ≠ 132) (h4 : a ≠ 134) : gChg t w s g a p = g a p := by
  simp [gChg, h, h2, h3, h4]
theorem chg_cnt {t s : Int} {w : Int → Int} {g : jMm} : gCnt (gChg t w s g) = gCnt g := by
  have e : gN (gChg t w s g) = gN g := by simp [gN, gChg]
  unfold gCnt
  rw [e]
  refine sm_congr _ (fun p p0 p1 => ?_)
  by_cases on : gOn g p s
  · have : gChg t w s g 123 p = 4 ∨ gChg t w s g 123 p = g 123 p := by
      unfold gChg
      rw [if_neg (by omega)]
      split
      · split
        · exact .inl rfl
        · right; rfl
      · exact .inr rfl
    rcases this with z | z
    · rw [z, on.1, if_neg (by decide), if_neg (by decide)]
    · rw [z]
  · rw [chg_at on (by decide)]
theorem chg_there {t s f : Int} {w : Int → Int} {g : jMm} : gThere (gChg t w s g) f = gThere g f := by
  have e : gN (gChg t w s g) = gN g := by simp [gN, gChg]
  unfold gThere
  rw [e]
  refine sm_congr _ (fun p p0 p1 => ?_)
  have e8 : gChg t w s g 128 p = g 128 p := chg_eq (by decide) (by decide) (by decide) (by decide)
  rw [e8]
  by_cases on : gOn g p s
  · have : gChg t w s g 123 p = 4 ∨ gChg t w s g 123 p = g 123 p := by
      unfold gChg
      rw [if_neg (by omega)]
      split
      · split
        · exact .inl rfl
        · right; rfl
      · exact .inr rfl
    rcases this with z | z
    · rw [z, on.1, if_neg (by omega), if_neg (by omega)]
    · rw [z]
  · rw [chg_at on (by decide)]
theorem pdS_chg {d t s : Int} {w : Int → Int} {M M' g : jMm} {T B : Int} (S : pdS d M g) (ok : gOK T B g) (s0 : 0 ≤ s) (s1 : s < g 114 1)
    (hM : ∀ a b, a ≠ d + 21 + 2 * s → (a ≠ d + 20 + 2 * s ∨ (b ≠ 5 ∧ b ≠ 2)) → (a < d + 6 ∨ d + 6 + g 114 5 ≤ a) → M' a b = M a b)
    (hP : ∀ p b, 0 ≤ p → p < g 114 5 → M' (d + 6 + p) b = if (b = 4 ∨ b = 9) ∧ gOn g p s ∧ w s = 0 then (if b = 4 then 3 else t) else M (d + 6 + p) b)
    (h5 : M' (d + 20 + 2 * s) 5 = gWeight (gChg t w s g) s) (h2 : M' (d + 20 + 2 * s) 2 = w s) (hX : pdX d M' (gChg t w s g) s) : pdS d M' (gChg t w s g) := by
  obtain ⟨⟨⟨d1, d2, d3, d4, d5, d6, d7, d8, d9, d10⟩, sf, sp⟩, X⟩ := S
  have hk := ok.1.1.2.1
  have hn := ok.1.1.2.2.2.1
  have e1 : gChg t w s g 114 1 = g 114 1 := same_chg.1 1 (by decide)
  have e5 : gChg t w s g 114 5 = g 114 5 := same_chg.1 5 (by decide)
  have e114 : ∀ b, gChg t w s g 114 b = g 114 b := fun b => chg_eq (by decide) (by decide) (by decide) (by decide)
  refine ⟨⟨⟨?_, ?_, ?_, ?_, ?_, ?_, ?_, fun j j1 j2 => ?_, ?_, ?_⟩, fun s' s0' s1' => ?_, fun p p0 p1 => ?_⟩, fun s' s0' s1' => ?_⟩
  · rw [hM _ _ (by omega) (.inl (by omega)) (.inl (by omega)), e114]; exact d1
  · rw [hM _ _ (by omega) (.inl (by omega)) (.inl (by omega)), e114]; exact d2
  · rw [hM _ _ (by omega) (.inl (by omega)) (.inl (by omega)), chg_cnt]; exact d3
  · rw [hM _ _ (by omega) (.inl (by omega)) (.inl (by omega)), e114]; exact d4
  · rw [hM _ _ (by omega) (.inl (by omega)) (.inl (by omega)), e114]; exact d5
  · rw [hM _ _ (by omega) (.inl (by omega)) (.inl (by omega)), e114]; exact d6
  · rw [hM _ _ (by omega) (.inl (by omega)) (.inl (by omega)), e114]; exact d7
  · rw [hM _ _ (by omega) (.inl (by omega)) (.inl (by omega)), chg_eq (by decide) (by decide) (by decide) (by decide)]; exact d8 j j1 j2
  · rw [hM _ _ (by omega) (.inl (by omega)) (.inl (by omega)), chg_there]; exact d9
  · rw [hM _ _ (by omega) (.inl (by omega)) (.inl (by omega)), chg_there]; exact d10
  · rw [e1] at s1'
    obtain ⟨f1, f2, f3, f4, f5⟩ := sf s' s0' s1'
    unfold pdF
    rw [(same_chg.2 _).2.1, (same_chg.2 _).2.2.2, chg_eq (a := 135) (by decide) (by decide) (by decide) (by decide)]
    by_cases c : s' = s
    · subst c
      rw [h5, h2, hM _ 1 (by omega) (.inr (by decide)) (.inr (by omega)), hM _ 3 (by omega) (.inr (by decide)) (.inr (by omega)), hM _ 4 (by omega) (.inr (by decide)) (.inr (by omega))]
      refine ⟨f1, ?_, f3, f4, rfl⟩
      simp [gChg]
    · have e34 : gChg t w s g 134 s' = g 134 s' := by
        unfold gChg
        rw [if_neg (fun z => c z.2)]
        split
        · split
          · rw [if_neg (by omega), if_neg (by omega)]
          · rw [if_neg (by omega)]
        · rfl
      rw [chg_weight (.inl c), e34]
      have hr : ∀ b, M' (d + 20 + 2 * s') b = M (d + 20 + 2 * s') b := fun b => hM _ _ (by omega) (.inl (by omega)) (.inr (by omega))
      rw [hr, hr, hr, hr, hr]
      exact ⟨f1, f2, f3, f4, f5⟩
  · rw [e5] at p1
    obtain ⟨p1', p2, p3, p4, p5, p6, p7, p8, p9, p10⟩ := sp p p0 p1
    have rd : ∀ b, b ≠ 4 → b ≠ 9 → M' (d + 6 + p) b = M (d + 6 + p) b := fun b h1 h2 => by rw [hP p b p0 p1, if_neg (by omega)]
    unfold pdP
    rw [rd 0 (by decide) (by decide), rd 1 (by decide) (by decide), rd 2 (by decide) (by decide), rd 3 (by decide) (by decide), rd 5 (by decide) (by decide), rd 6 (by decide) (by decide), rd 7 (by decide) (by decide), rd 8 (by decide) (by decide), rd 10 (by decide) (by decide), (same_chg.2 _).2.2.1, (same_chg.2 _).2.2.1, chg_eq (a := 124) (by decide) (by decide) (by decide) (by decide), chg_eq (a := 128) (by decide) (by decide) (by decide) (by decide), chg_eq (a := 129) (by decide) (by decide) (by decide) (by decide), chg_eq (a := 130) (by decide) (by decide) (by decide) (by decide), chg_eq (a := 131) (by decide) (by decide) (by decide) (by decide), chg_eq (a := 200) (by decide) (by decide) (by decide) (by decide)]
    have a4 := hP p 4 p0 p1
    have a9 := hP p 9 p0 p1
    by_cases on : gOn g p s
    · have gp := (ok.2.1 p p0 p1).2.2.2.2.1 on.1
      have w134 : g 134 s ≠ 0 := by have := gp.2.2.2.2.2.2.1; rw [on.2] at this; exact this
      by_cases z : w s = 0
      · have g3 : gChg t w s g 123 p = 4 := by
          unfold gChg
          rw [if_neg (by omega), if_pos ⟨by omega, p0, p1, on⟩, if_pos z]; rfl
        have g2 : gChg t w s g 132 p = t := by
          unfold gChg
          rw [if_neg (by omega), if_pos ⟨by omega, p0, p1, on⟩, if_pos z]; rfl
        rw [if_pos (show ((4 : Int) = 4 ∨ (4 : Int) = 9) ∧ _ from ⟨.inl rfl, on, z⟩)] at a4
        rw [if_pos (show ((9 : Int) = 4 ∨ (9 : Int) = 9) ∧ _ from ⟨.inr rfl, on, z⟩)] at a9
        rw [g3, g2, a4, a9]
        exact ⟨p1', p2, p3, p4, rfl, p6, p7, fun q => absurd q (by decide), rfl, p10⟩
      · have g3 : gChg t w s g 123 p = g 123 p := by
          unfold gChg
          rw [if_neg (by omega)]
          split
          · rw [if_neg (by omega)]
          · rfl
        have g2 : gChg t w s g 132 p = g 132 p := by
          unfold gChg
          rw [if_neg (by omega)]
          split
          · rw [if_neg (by omega)]
          · rfl
        rw [if_neg (fun q => z q.2.2)] at a4 a9
        rw [g3, g2, a4, a9]
        exact ⟨p1', p2, p3, p4, p5, p6, p7, p8, p9, p10⟩
    · rw [if_neg (fun q => on q.2.1)] at a4 a9
      rw [chg_at on (by decide), chg_at on (by decide), a4, a9]
      exact ⟨p1', p2, p3, p4, p5, p6, p7, p8, p9, p10⟩
  · rw [e1] at s1'
    by_cases c : s' = s
    · subst c; exact hX
    · refine pdX_fr (X s' s0' s1') (fun b => hM _ _ (by omega) (.inl (by omega)) (.inr (by omega))) same_chg (fun p x y p0 p1 => ?_)
      unfold gAt
      rw [chg_eq (a := 124) (by decide) (by decide) (by decide) (by decide), chg_eq (a := 125) (by decide) (by decide) (by decide) (by decide), chg_eq (a := 127) (by decide) (by decide) (by decide) (by decide)]
      by_cases on : gOn g p s
      · have z : ¬ g 125 p = s' := fun z => c (by rw [← z, on.2])
        exact ⟨fun q => absurd q.1.2 z, fun q => absurd q.1.2 z⟩
      · rw [chg_at on (by decide), chg_at on (by decide)]
theorem pd_turn1 {d t s : Int} {w : Int → Int} {M g : jMm} {L : jLo} {N : jLo → jMm → Prop} {R : Int → jMm → Prop} (hd : isDay d) (S : pdS d M g) {T B : Int} (ok : gOK T B g) (s0 : 0 ≤ s) (s1 : s < g 114 1) (w0 : 0 ≤ M d 11) (hw : w s = wy (M d 11) s) (l0 : L 0 = d) (l1 : L 1 = t) (l2 : L 2 = s) (hN : ∀ L' M', L' 0 = d → L' 1 = t → L' 2 = s → pdS d M' (gChg t w s g) → pdFr d M M' → N L' M') : (tSeq (tSet 3 (xAr (xGr (xV 0) 1) (xV 2))) (tSeq (tSet 4 (xCall f_X6_wayOf (xsC (xGf (xV 0) 11) (xsC (xV 2) (xsN))))) (tSeq (tIf (kZ (fun x y => x = y) (xV 4)) (tDo f_X0_letAllThrough (xsC (xV 0) (xsC (xV 2) (xsC (xV 1) (xsN))))) (tIf (kR (fun x y => x ≠ y) (xV 4) (xGf (xV 3) 2)) (tDo f_X1_turnRound (xsC (xV 3) (xsN))) tSkip)) (tPut (xV 3) 2 (xV 4))))) L M N R := by
  have hk := ok.1.1.2.1
  have hn0 := ok.1.1.2.2.1
  have hn := ok.1.1.2.2.2.1
  have s3 : s < 3 := by omega
  obtain ⟨bl, b3, b10⟩ := pd_bound S ok s0 s1
  obtain ⟨f1, f2, f3, f4, f5⟩ := S.1.2.1 s s0 s1
  have X := S.2 s s0 s1
  refine sq_ (st_v (v := d + 20 + 2 * s) (fun Q => ?_) (sq_ (st_v (v := w s) (fun Q => ?_) ?_)))
  · simp only [xAr, xGr, xV, l0, l2, drf1 hd, dln2 hd, dfs hd s0 s3, s0, s3, true_and, and_self]
  · simp only [xCall, xsC, xsN, xGf, xV, jup, l0, l2, reduceIte, Nat.reduceEqDiff, pd_wayOf w0 s0 s3, hw]
  generalize hL : jup (jup L 3 (d + 20 + 2 * s)) 4 (w s) = L2
  have i0 : L2 0 = d := by rw [← hL]; exact l0
  have i1 : L2 1 = t := by rw [← hL]; exact l1
  have i2 : L2 2 = s := by rw [← hL]; exact l2
  have i3 : L2 3 = d + 20 + 2 * s := by rw [← hL]; rfl
  have i4 : L2 4 = w s := by rw [← hL]; rfl
  have wr := wy_r (w := M d 11) (s := s)
  have nobody : g 134 s = 0 → ∀ p, 0 ≤ p → p < g 114 5 → ¬ gOn g p s := fun z p p0 p1 on => by
    have := ((ok.2.1 p p0 p1).2.2.2.2.1 on.1).2.2.2.2.2.2.1
    rw [on.2] at this
    exact this z
  have endf : ∀ M1, pdS d (jwr M1 (d + 20 + 2 * s) 2 (w s)) (gChg t w s g) → pdFr d M (jwr M1 (d + 20 + 2 * s) 2 (w s)) → tPut (xV 3) 2 (xV 4) L2 M1 N R := fun M1 S1 F1 => by
    have := hN L2 _ i0 i1 i2 S1 F1
    simp only [tPut, xV, i3, i4]
    exact this
  refine sq_ (if_pc (w s = 0) (fun T F => ?_) (fun c => ?_) (fun c => ?_))
  · simp only [kZ, xV, i4]
  · refine do3 ?_
    rw [i0, i1, i2]
    refine pd_letAll hd hn0 hn s0 s3 S.1.1.2.1 (fun p p0 p1 => ?_) (fun M1 h1 h2 h3 => ?_)
    · obtain ⟨-, -, -, -, q5, q6, -⟩ := S.1.2.2 p p0 p1
      have gp := ok.2.1 p p0 p1
      refine ⟨by rw [q5]; exact (ph_eq gp.1.1 gp.1.2.1).2.2.1, fun z => by rw [q6]; exact (gp.2.2.2.2.1 z).2.2.2.2.2.2.2.1⟩
    · have gone : ∀ p, 0 ≤ p → p < g 114 5 → ¬ gOn (gChg t w s g) p s := fun p p0 p1 z => by
        by_cases on : gOn g p s
        · have w134 : g 134 s ≠ 0 := fun q => nobody q p p0 p1 on
          have g3 : gChg t w s g 123 p = 4 := by
            unfold gChg
            rw [if_neg (by omega), if_pos ⟨by omega, p0, p1, on⟩, if_pos c]; rfl
          rw [gOn, g3] at z
          exact absurd z.1 (by decide)
        · unfold gOn at z
          rw [chg_at on (by decide), chg_at on (by decide)] at z
          exact on z
      refine endf M1 (pdS_chg S ok s0 s1 (fun a b ha hb hab => ?_) (fun p b p0 p1 => ?_) ?_ ?_ ?_) ?_
      · rw [jw0 (by omega), h1 a b ha (by omega)]
        unfold mThr
        rw [if_neg (by omega)]
      · rw [jw0 (by omega), h1 _ b (by omega) (.inl (by omega))]
        have ep : d + 6 + p - (d + 6) = p := by omega
        unfold mThr
        rw [ep]
        by_cases z : (b = 4 ∨ b = 9) ∧ d + 6 ≤ d + 6 + p ∧ d + 6 + p < d + 6 + g 114 5 ∧ gOn g p s
        · have z2 : (b = 4 ∨ b = 9) ∧ gOn g p s ∧ w s = 0 := ⟨z.1, z.2.2.2, c⟩
          rw [if_pos z, if_pos z2]
        · rw [if_neg z, if_neg (fun q => z ⟨q.1, by omega, by omega, q.2.1⟩)]
      · rw [jw0 (by omega), h3]
        have en : gN (gChg t w s g) = gN g := by simp [gN, gChg]
        refine (sm_zero _ (fun p p0 p1 => ?_)).symm
        rw [en] at p1
        rw [if_neg (gone p p0 (gN_lt p1 p0))]
      · exact jw1 ⟨rfl, rfl⟩
      · intro x y x0 x1 y0 y1
        rw [(same_chg.2 _).2.1] at x1
        rw [jw0 (by omega), h2 _ (by omega) (by omega)]
        refine ⟨by decide, fun p p0 => ⟨fun q => by omega, fun q => ?_⟩⟩
        rw [same_chg.1 5 (by decide)] at q
        exact absurd q.2.1 (gone p p0 q.1)
      · have : ∀ a b, a ≠ d + 21 + 2 * s → (a ≠ d + 20 + 2 * s ∨ b ≠ 5) → (a < d + 6 ∨ d + 20 ≤ a) → M1 a b = M a b := fun a b ha hb hab => by
          rw [h1 a b ha hb]
          unfold mThr
          rw [if_neg (by omega)]
        refine pdFr_wr ⟨fun a b h => this a b (by omega) (by omega) (by omega), fun b h => this _ _ (by omega) (by omega) (by omega), fun b => this _ _ (by omega) (by omega) (by omega)⟩ (by unfold pdCell; omega)
  · refine if_pc (w s ≠ g 134 s) (fun T F => ?_) (fun c2 => ?_) (fun c2 => ?_)
    · simp only [kR, xGf, xV, i3, i4, f2]
    · refine do1 ?_
      rw [i3]
      refine pd_turnRound hd s0 s3 bl (by omega) (by omega) (fun M1 h1 h2 => ?_)
      have at2 : ∀ p x y, 0 ≤ p → p < g 114 5 → 0 ≤ x → x < g 116 (3 * s) → (gAt (gChg t w s g) p s x y ↔ gAt g p s (g 116 (3 * s) - 1 - x) y) := fun p x y p0 p1 x0 x1 => by
        by_cases on : gOn g p s
        · have w134 : g 134 s ≠ 0 := fun q => nobody q p p0 p1 on
          have g3 : gChg t w s g 123 p = g 123 p := by
            unfold gChg
            rw [if_neg (by omega), if_pos ⟨by omega, p0, p1, on⟩, if_neg c, if_neg (by omega)]
          have g6 : gChg t w s g 126 p = g 116 (3 * s) - 1 - g 126 p := by
            unfold gChg
            rw [if_neg (by omega), if_pos ⟨by omega, p0, p1, on⟩, if_neg c, if_pos rfl]
          unfold gAt
          rw [g3, g6, chg_eq (a := 124) (by decide) (by decide) (by decide) (by decide), chg_eq (a := 125) (by decide) (by decide) (by decide) (by decide), chg_eq (a := 127) (by decide) (by decide) (by decide) (by decide)]
          exact ⟨fun z => ⟨z.1, by omega, z.2.2⟩, fun z => ⟨z.1, by omega, z.2.2⟩⟩
        · unfold gAt
          rw [chg_at on (by decide), chg_at on (by decide)]
          exact ⟨fun z => absurd z.1 on, fun z => absurd z.1 on⟩
      refine endf M1 (pdS_chg S ok s0 s1 (fun a b ha hb hab => ?_) (fun p b p0 p1 => ?_) ?_ ?_ ?_) ?_
      · rw [jw0 (by omega), h1 a b ha]
      · rw [jw0 (by omega), h1 _ _ (by omega), if_neg (fun z => c z.2.2)]
      · rw [jw0 (by omega), h1 _ _ (by omega), f5, chg_weight (.inr (.inl c))]
      · exact jw1 ⟨rfl, rfl⟩
      · intro x y x0 x1 y0 y1
        rw [(same_chg.2 _).2.1] at x1
        rw [jw0 (by omega), h2 x y x0 x1 y0 y1, same_chg.1 5 (by decide)]
        obtain ⟨w1, w2⟩ := X (g 116 (3 * s) - 1 - x) y (by omega) (by omega) y0 y1
        refine ⟨w1, fun p p0 => ?_⟩
        rw [w2 p p0]
        exact ⟨fun q => ⟨q.1, (at2 p x y p0 q.1 x0 x1).mpr q.2⟩, fun q => ⟨q.1, (at2 p x y p0 q.1 x0 x1).mp q.2⟩⟩
      · refine pdFr_wr ⟨fun a b h => h1 a b (by omega), fun b h => h1 _ _ (by omega), fun b => h1 _ _ (by omega)⟩ (by unfold pdCell; omega)
    · have c3 : g 134 s = w s := by omega
      refine endf M (pdS_chg S ok s0 s1 (fun a b ha hb hab => ?_) (fun p b p0 p1 => ?_) ?_ ?_ ?_) ?_
      · rw [jw0 (by omega)]
      · rw [jw0 (by omega), if_neg (fun z => c z.2.2)]
      · rw [jw0 (by omega), f5, chg_weight (.inr (.inl c))]
      · exact jw1 ⟨rfl, rfl⟩
      · refine pdX_fr X (fun b => jw0 (by omega)) same_chg (fun p x y p0 p1 => ?_)
        have e : ∀ a, a ≠ 134 → gChg t w s g a p = g a p := fun a ha => by
          unfold gChg
          rw [if_neg (fun z => ha z.1), if_neg (fun z => z.1 c3)]
        unfold gAt
        rw [e 123 (by decide), e 124 (by decide), e 125 (by decide), e 126 (by decide), e 127 (by decide)]
      · exact pdFr_wr pdFr_rfl (by unfold pdCell; omega)
