/-! the program: weigh -/
theorem load_hit {s p : Int} {g : jMm} (c : gTr s g) (z : g 122 s = 2 ∧ 0 ≤ p ∧ p < g 114 5 ∧ gOn g p s ∧ g 124 p = 1) : gLoad s g 124 p = 0 ∧ gLoad s g 200 p = 1 := by
  constructor <;> (unfold gLoad; rw [if_neg (by omega), if_neg (by omega), if_pos c, if_neg (by omega), if_pos z]; rfl)
theorem load_weight {s s' : Int} {g : jMm} : gWeight (gLoad s g) s' = gWeight g s' := by
  have e : gN (gLoad s g) = gN g := by simp [gN, gLoad]
  unfold gWeight
  rw [e]
  refine sm_congr _ (fun p p0 p1 => ?_)
  have e3 : gLoad s g 123 p = g 123 p := by simp [gLoad]
  have e5 : gLoad s g 125 p = g 125 p := by simp [gLoad]
  have e4 : wt (gLoad s g 124 p) = wt (g 124 p) := by
    by_cases c : gTr s g
    · by_cases z : g 122 s = 2 ∧ 0 ≤ p ∧ p < g 114 5 ∧ gOn g p s ∧ g 124 p = 1
      · have := (load_hit c z).1
        rw [this, z.2.2.2.2]; decide
      · have : gLoad s g 124 p = g 124 p := by
          unfold gLoad
          rw [if_neg (by omega), if_neg (by omega), if_pos c, if_neg (by omega), if_neg z]
        rw [this]
    · have : gLoad s g 124 p = g 124 p := by simp [gLoad, c]
      rw [this]
  unfold gOn
  rw [e3, e5, e4]
theorem load_fr {s a b : Int} {g : jMm} (ha : a ≠ 114) (h4 : a ≠ 124) (h5 : a ≠ 135) (h2 : a ≠ 200) : gLoad s g a b = g a b := by
  simp [gLoad, ha, h4, h5, h2]
theorem load_kind {s p : Int} {g : jMm} : gLoad s g 124 p = 2 ↔ g 124 p = 2 := by
  by_cases c : gTr s g
  · by_cases z : g 122 s = 2 ∧ 0 ≤ p ∧ p < g 114 5 ∧ gOn g p s ∧ g 124 p = 1
    · have := (load_hit c z).1
      rw [this, z.2.2.2.2]; decide
    · have : gLoad s g 124 p = g 124 p := by
        unfold gLoad
        rw [if_neg (by omega), if_neg (by omega), if_pos c, if_neg (by omega), if_neg z]
      rw [this]
  · have : gLoad s g 124 p = g 124 p := by simp [gLoad, c]
    rw [this]
theorem pdS_load {d s : Int} {M M' g : jMm} {T B : Int} (S : pdS d M g) (ok : gOK T B g) (s0 : 0 ≤ s) (s1 : s < g 114 1)
    (hD : ∀ b, b ≠ 13 → b ≠ 15 → M' d b = M d b) (h13 : M' d 13 = g 114 34 + gEn s g) (h15 : M' d 15 = if gTr s g then g 114 33 + 1 else g 114 33) (h3 : ∀ b, M' (d + 3) b = M (d + 3) b) (h5 : ∀ b, M' (d + 5) b = M (d + 5) b)
    (hf : ∀ s' b, 0 ≤ s' → s' < 3 → (s' ≠ s ∨ b ≠ 4) → M' (d + 20 + 2 * s') b = M (d + 20 + 2 * s') b) (hf4 : M' (d + 20 + 2 * s) 4 = if gTr s g then g 115 4 else if g 135 s > 0 then g 135 s - 1 else g 135 s) (hx : ∀ s' b, 0 ≤ s' → s' < 3 → M' (d + 21 + 2 * s') b = M (d + 21 + 2 * s') b)
    (hp : ∀ p b, 0 ≤ p → p < 14 → M' (d + 6 + p) b = if (b = 2 ∨ b = 10) ∧ gTr s g ∧ g 122 s = 2 ∧ p < g 114 5 ∧ gOn g p s ∧ g 124 p = 1 then (if b = 2 then 0 else 1) else M (d + 6 + p) b) : pdS d M' (gLoad s g) := by
  obtain ⟨⟨⟨d1, d2, d3, d4, d5, d6, d7, d8, d9, d10⟩, sf, sp⟩, X⟩ := S
  have hk := ok.1.1.2.1
  have hn := ok.1.1.2.2.2.1
  have e1 : gLoad s g 114 1 = g 114 1 := same_load.1 1 (by decide)
  have e5 : gLoad s g 114 5 = g 114 5 := same_load.1 5 (by decide)
  have eN : gN (gLoad s g) = gN g := by show (_ : Int).toNat = _; rw [e5]
  have e123 : gLoad s g 123 = g 123 := funext fun b => load_fr (by decide) (by decide) (by decide) (by decide)
  have e128 : gLoad s g 128 = g 128 := funext fun b => load_fr (by decide) (by decide) (by decide) (by decide)
  refine ⟨⟨⟨?_, ?_, ?_, ?_, ?_, ?_, ?_, fun j j1 j2 => ?_, ?_, ?_⟩, fun s' s0' s1' => ?_, fun p p0 p1 => ?_⟩, fun s' s0' s1' => ?_⟩
  · rw [hD _ (by decide) (by decide), e1]; exact d1
  · rw [hD _ (by decide) (by decide), e5]; exact d2
  · rw [hD _ (by decide) (by decide)]; unfold gCnt at d3 ⊢; rw [eN, e123]; exact d3
  · rw [h13]; simp [gLoad]
  · rw [hD _ (by decide) (by decide), d5]; simp [gLoad]
  · rw [h15]; simp [gLoad]
  · rw [h3, same_load.1 16 (by decide)]; exact d7
  · rw [h3, (same_load.2 _).1]; exact d8 j j1 j2
  · rw [h5]; unfold gThere at d9 ⊢; rw [eN, e123, e128]; exact d9
  · rw [h5]; unfold gThere at d10 ⊢; rw [eN, e123, e128]; exact d10
  · rw [e1] at s1'
    obtain ⟨f1, f2, f3, f4, f5⟩ := sf s' s0' s1'
    unfold pdF
    rw [load_weight, (same_load.2 _).2.1, (same_load.2 _).2.2.2, load_fr (a := 134) (by decide) (by decide) (by decide) (by decide)]
    rw [hf s' 1 s0' (by omega) (.inr (by decide)), hf s' 2 s0' (by omega) (.inr (by decide)), hf s' 3 s0' (by omega) (.inr (by decide)), hf s' 5 s0' (by omega) (.inr (by decide))]
    refine ⟨f1, f2, f3, ?_, f5⟩
    by_cases c : s' = s
    · subst c; rw [hf4]; simp [gLoad]
    · rw [hf s' 4 s0' (by omega) (.inl c), f4]; simp [gLoad, c]
  · rw [e5] at p1
    obtain ⟨p1', p2, p3, p4, p5, p6, p7, p8, p9, p10⟩ := sp p p0 p1
    have rd : ∀ b, b ≠ 2 → b ≠ 10 → M' (d + 6 + p) b = M (d + 6 + p) b := fun b h1 h2 => by rw [hp p b p0 (by omega), if_neg (by omega)]
    unfold pdP
    rw [rd 0 (by decide) (by decide), rd 1 (by decide) (by decide), rd 3 (by decide) (by decide), rd 4 (by decide) (by decide), rd 5 (by decide) (by decide), rd 6 (by decide) (by decide), rd 7 (by decide) (by decide), rd 8 (by decide) (by decide), rd 9 (by decide) (by decide), (same_load.2 _).2.2.1, (same_load.2 _).2.2.1, load_fr (a := 123) (by decide) (by decide) (by decide) (by decide), load_fr (a := 128) (by decide) (by decide) (by decide) (by decide), load_fr (a := 129) (by decide) (by decide) (by decide) (by decide), load_fr (a := 130) (by decide) (by decide) (by decide) (by decide), load_fr (a := 131) (by decide) (by decide) (by decide) (by decide), load_fr (a := 132) (by decide) (by decide) (by decide) (by decide)]
    by_cases z : gTr s g ∧ g 122 s = 2 ∧ p < g 114 5 ∧ gOn g p s ∧ g 124 p = 1
    · have z' : g 122 s = 2 ∧ 0 ≤ p ∧ p < g 114 5 ∧ gOn g p s ∧ g 124 p = 1 := ⟨z.2.1, p0, z.2.2.1, z.2.2.2⟩
      have g4 := (load_hit z.1 z').1
      have g2 := (load_hit z.1 z').2
      have a2 := hp p 2 p0 (by omega)
      have a10 := hp p 10 p0 (by omega)
      rw [if_pos (show ((2 : Int) = 2 ∨ (2 : Int) = 10) ∧ _ from ⟨.inl rfl, z⟩)] at a2
      rw [if_pos (show ((10 : Int) = 2 ∨ (10 : Int) = 10) ∧ _ from ⟨.inr rfl, z⟩)] at a10
      rw [g4, g2, a2, a10]
      refine ⟨p1', p2, rfl, ?_, p5, p6, p7, p8, p9, rfl⟩
      rw [p4, z.2.2.2.2]; decide
    · have z' : gTr s g → ¬ (g 122 s = 2 ∧ 0 ≤ p ∧ p < g 114 5 ∧ gOn g p s ∧ g 124 p = 1) := fun a w => z ⟨a, w.1, w.2.2.1, w.2.2.2⟩
      have g4 : gLoad s g 124 p = g 124 p := by
        unfold gLoad
        rw [if_neg (by omega), if_neg (by omega)]
        split
        · rename_i c
          rw [if_neg (by omega), if_neg (z' c)]
        · rfl
      have g2 : gLoad s g 200 p = g 200 p := by
        unfold gLoad
        rw [if_neg (by omega), if_neg (by omega)]
        split
        · rename_i c
          rw [if_neg (by omega), if_neg (z' c)]
        · rfl
      rw [g4, g2, hp p 2 p0 (by omega), hp p 10 p0 (by omega), if_neg (fun w => z w.2), if_neg (fun w => z w.2)]
      exact ⟨p1', p2, p3, p4, p5, p6, p7, p8, p9, p10⟩
  · rw [e1] at s1'
    refine pdX_fr (X s' s0' s1') (fun b => hx s' b s0' (by omega)) same_load (fun p x y _ _ => ?_)
    unfold gAt
    rw [load_fr (a := 123) (by decide) (by decide) (by decide) (by decide), load_fr (a := 125) (by decide) (by decide) (by decide) (by decide), load_fr (a := 126) (by decide) (by decide) (by decide) (by decide), load_fr (a := 127) (by decide) (by decide) (by decide) (by decide), load_kind]
theorem pd_weigh {d s : Int} {M g : jMm} {Q : Int → jMm → Prop} (hd : isDay d) (S : pdS d M g) {T B : Int} (ok : gOK T B g) (hB : B ≤ 100000) (s0 : 0 ≤ s) (s1 : s < g 114 1) (hq : ∀ M', pdS d M' (gLoad s g) → pdFr d M M' → Q 0 M') : f_X0_weigh [d, s] M Q := by
  unfold f_X0_weigh
  have v := ok.1
  have hk := v.1.2.1
  have hn0 := v.1.2.2.1
  have hn := v.1.2.2.2.1
  have s3 : s < 3 := by omega
  have hc := ok.2.2.2.2
  have he := en_le (s := s) v
  have v4 := v.2.2.2
  have w0 := weight_le (g := g) (s := s) hn0 hn
  have gs := ok.2.2.1 s s0 s3
  unfold gSt at gs
  have hp0 : 0 ≤ gWeight g s * g 115 6 := Int.mul_nonneg w0.1 (by omega)
  have hp1 : gWeight g s * g 115 6 ≤ 56 * 10 := Int.mul_le_mul w0.2 (by omega) (by omega) (by decide)
  obtain ⟨f1, f2, f3, f4, f5⟩ := S.1.2.1 s s0 s1
  have dd := S.1.1
  have e13 : M d 13 = g 114 34 := dd.2.2.2.1
  have e15 : M d 15 = g 114 33 := dd.2.2.2.2.2.1
  have set := dd.2.2.2.2.2.2.2.1
  have b6 : M (d + 3) 6 = g 115 6 := set 6 (by decide) (by decide)
  have b5 : M (d + 3) 5 = g 115 5 := set 5 (by decide) (by decide)
  have b3 : M (d + 3) 3 = g 115 3 := set 3 (by decide) (by decide)
  have b4 : M (d + 3) 4 = g 115 4 := set 4 (by decide) (by decide)
  refine mt_ (sq_ (st_v (v := d + 20 + 2 * s) (fun Q => ?_) ?_))
  · simp only [xAr, xGr, xV, jIn, drf1 hd, dln2 hd, dfs hd s0 s3, s0, s3, reduceIte, Nat.reduceEqDiff, true_and, and_self]
  -- energy
  refine sq_cut (fun L' M1 => L' 0 = d ∧ L' 1 = s ∧ L' 2 = d + 20 + 2 * s ∧ M1 d 13 = g 114 34 + gEn s g ∧ ∀ a b, (a ≠ d ∨ b ≠ 13) → M1 a b = M a b) (fun N1 hN1 => ?_) ?_
  · refine if_pc (g 134 s > 0 ∧ ¬ g 135 s > 0) (fun T F => propext ?_) (fun c => ?_) (fun c => ?_)
    · by_cases c1 : g 134 s > 0 <;> by_cases c2 : g 135 s > 0
      · have z : ¬ g 135 s = 0 := by omega
        simp [-Int.not_lt, -Int.not_le, kZ, xCall, xsC, xsN, xV, jup, pd_moves, f2, f4, c1, c2, z]
      · have z : g 135 s = 0 := by omega
        have z2 : ¬ g 134 s = 0 := by omega
        simp [-Int.not_lt, -Int.not_le, kZ, xCall, xsC, xsN, xV, jup, pd_moves, f2, f4, c1, c2, z, z2]
      · have z2 : g 134 s = 0 := by omega
        simp [-Int.not_lt, -Int.not_le, kZ, xCall, xsC, xsN, xV, jup, pd_moves, f2, f4, c1, c2, z2]
      · have z2 : g 134 s = 0 := by omega
        simp [-Int.not_lt, -Int.not_le, kZ, xCall, xsC, xsN, xV, jup, pd_moves, f2, f4, c1, c2, z2]
    · have hE : gEn s g = (if g 134 s = 1 then g 115 5 + gWeight g s else if g 115 5 - gWeight g s * g 115 6 / 10 < 0 then 0 else g 115 5 - gWeight g s * g 115 6 / 10) := by
        unfold gEn; rw [if_pos c]
      have hdv : 0 ≤ gWeight g s * g 115 6 / 10 ∧ gWeight g s * g 115 6 / 10 ≤ 56 := by omega
      have irE' : ir (g 114 34 + gEn s g) := ⟨by omega, by omega⟩
      have i1 : ir (gWeight g s * g 115 6) := ⟨by omega, by omega⟩
      have i2 : ir (-gWeight g s) := ⟨by omega, by omega⟩
      have i3 : ir (g 115 5 - gWeight g s * g 115 6 / 10) := ⟨by omega, by omega⟩
      have i4 : ir (g 115 5 - -gWeight g s) := ⟨by omega, by omega⟩
      have fin : N1 (jup (jup (jIn [0, 1] [d, s]) 2 (d + 20 + 2 * s)) 3 (if g 134 s = 2 then gWeight g s * g 115 6 / 10 else -gWeight g s)) (jwr M d 13 (g 114 34 + gEn s g)) := hN1 _ _ ⟨rfl, rfl, rfl, jw1 ⟨rfl, rfl⟩, fun a b h => jw0 h⟩
      refine sq_ (set_sel (u := gWeight g s * g 115 6 / 10) (v := -gWeight g s) (g 134 s = 2) (fun T F => ?_) (fun c2 Q => ?_) (fun c2 Q => ?_) ?_)
      · simp only [kR, xGf, xV, xC, jup, jIn, f2, reduceIte, Nat.reduceEqDiff]
      · simp (disch := omega) only [xBin, boDiv, boMul, xAl, xGf, xGr, xV, xC, jup, jIn, drf2 hd, dln3 hd, f5, b6, ixE, irE, reduceIte, Nat.reduceEqDiff]
        exact andT ⟨hp0, by decide⟩
      · simp (disch := omega) only [xNeg, xGf, xV, jup, jIn, f5, irE, reduceIte, Nat.reduceEqDiff]
      · have hmx : max 0 (g 115 5 - (if g 134 s = 2 then gWeight g s * g 115 6 / 10 else -gWeight g s)) = gEn s g := by
          rw [hE]
          by_cases c2 : g 134 s = 2
          · rw [if_pos c2, if_neg (by omega)]
            split <;> omega
          · rw [if_neg c2, if_pos (by omega)]; omega
        have i5 : ir (g 115 5 - (if g 134 s = 2 then gWeight g s * g 115 6 / 10 else -gWeight g s)) := by split <;> assumption
        have i7 : (0 : Int) ≤ 5 ∧ (5 : Int) < 7 := by decide
        generalize hW : (if g 134 s = 2 then gWeight g s * g 115 6 / 10 else -gWeight g s) = W at *
        simp only [tPutO, xBin, boAdd, boSub, boMax, xAl, xGr, xV, xC, jup, jIn, drf2 hd, dln3 hd, b5, e13, reduceIte, Nat.reduceEqDiff]
        refine ⟨i7, i5, ?_⟩
        rw [hmx]
        exact ⟨irE', fin⟩
    · refine hN1 _ _ ⟨rfl, rfl, rfl, ?_, fun a b _ => rfl⟩
      have : gEn s g = 0 := by unfold gEn; rw [if_neg c]
      rw [this, e13]; omega
  rintro L1 M1 ⟨l0, l1, l2, h13, hM1⟩
  have m4 : M1 (d + 20 + 2 * s) 4 = g 135 s := by rw [hM1 _ _ (.inl (by omega))]; exact f4
  have m5 : M1 (d + 20 + 2 * s) 5 = gWeight g s := by rw [hM1 _ _ (.inl (by omega))]; exact f5
  have mb3 : M1 (d + 3) 3 = g 115 3 := by rw [hM1 _ _ (.inl (by omega))]; exact b3
  have mb4 : M1 (d + 3) 4 = g 115 4 := by rw [hM1 _ _ (.inl (by omega))]; exact b4
  have m15 : M1 d 15 = g 114 33 := by rw [hM1 _ _ (.inr (by decide))]; exact e15
  have m3 : M1 (d + 20 + 2 * s) 3 = g 122 s := by rw [hM1 _ _ (.inl (by omega))]; exact f3
  have frM : pdFr d M M1 := ⟨fun a b h => hM1 a b (.inl (by omega)), fun b h => hM1 _ _ (.inr (by omega)), fun b => hM1 _ _ (.inl (by omega))⟩
  refine sq_ (if_pc (g 135 s > 0) (fun T F => ?_) (fun c => ?_) (fun c => ?_))
  · simp only [kZ, xGf, xV, l2, m4]
  · have i1 : ir (g 135 s - 1) := ⟨by omega, by omega⟩
    have nt : ¬ gTr s g := fun z => z.1 c
    simp only [tPutO, xV, xC, boSub, l2, m4]
    refine ⟨i1, hq _ ?_ (pdFr_wr frM (by unfold pdCell; omega))⟩
    refine pdS_load S ok s0 s1 (fun b h1 h2 => ?_) ?_ ?_ (fun b => ?_) (fun b => ?_) (fun s' b s0' s1' h => ?_) ?_ (fun s' b s0' s1' => ?_) (fun p b p0 p1 => ?_)
    · rw [jw0 (by omega), hM1 _ _ (.inr h1)]
    · rw [jw0 (by omega), h13]
    · rw [jw0 (by omega), if_neg nt, m15]
    · rw [jw0 (by omega), hM1 _ _ (.inl (by omega))]
    · rw [jw0 (by omega), hM1 _ _ (.inl (by omega))]
    · rw [jw0 (by omega), hM1 _ _ (.inl (by omega))]
    · rw [jw1 ⟨rfl, rfl⟩, if_neg nt, if_pos c]
    · rw [jw0 (by omega), hM1 _ _ (.inl (by omega))]
    · rw [jw0 (by omega), hM1 _ _ (.inl (by omega)), if_neg (fun z => nt z.2.1)]
  · refine if_pc (gTr s g) (fun T F => propext ?_) (fun ct => ?_) (fun ct => ?_)
    · have i3 : (0 : Int) ≤ 3 ∧ (3 : Int) < 7 := by decide
      by_cases c2 : gWeight g s > g 115 3 <;> simp [-Int.not_lt, -Int.not_le, kR, xGf, xAl, xGr, xV, xC, l0, l2, drf2 hd, dln3 hd, m5, mb3, gTr, c, c2]
    · have i33 : ir (g 114 33 + 1) := ⟨by omega, by omega⟩
      have r15 : jwr M1 (d + 20 + 2 * s) 4 (g 115 4) d 15 = g 114 33 := by rw [jw0 (by omega)]; exact m15
      have r3 : jwr (jwr M1 (d + 20 + 2 * s) 4 (g 115 4)) d 15 (g 114 33 + 1) (d + 20 + 2 * s) 3 = g 122 s := by rw [jw0 (by omega), jw0 (by omega)]; exact m3
      have i4 : (0 : Int) ≤ 4 ∧ (4 : Int) < 7 := by decide
      refine sq_ ?_
      show (tPut (xV 2) 4 (xAl (xGr (xV 0) 2) (xC 4)) L1 M1 _ _)
      simp only [tPut, xAl, xGr, xV, xC, l0, l2, drf2 hd, dln3 hd, mb4]
      refine ⟨i4, sq_ ?_⟩
      show (tPutO boAdd (xV 0) 15 (xC 1) L1 _ _ _)
      simp only [tPutO, xV, xC, boAdd, l0, r15]
      refine ⟨i33, ?_⟩
      have F3 : pdFr d M (jwr (jwr M1 (d + 20 + 2 * s) 4 (g 115 4)) d 15 (g 114 33 + 1)) := by
        refine pdFr_wr (pdFr_wr frM ?_) ?_ <;> unfold pdCell <;> omega
      have hM3 : ∀ a b, (a ≠ d ∨ (b ≠ 13 ∧ b ≠ 15)) → (a ≠ d + 20 + 2 * s ∨ b ≠ 4) → jwr (jwr M1 (d + 20 + 2 * s) 4 (g 115 4)) d 15 (g 114 33 + 1) a b = M a b := fun a b h1 h2 => by
        rw [jw0 (by omega), jw0 (by omega)]; exact hM1 a b (by omega)
      have h13' : jwr (jwr M1 (d + 20 + 2 * s) 4 (g 115 4)) d 15 (g 114 33 + 1) d 13 = g 114 34 + gEn s g := by rw [jw0 (by omega), jw0 (by omega)]; exact h13
      have h15' : jwr (jwr M1 (d + 20 + 2 * s) 4 (g 115 4)) d 15 (g 114 33 + 1) d 15 = g 114 33 + 1 := jw1 ⟨rfl, rfl⟩
      have h4' : jwr (jwr M1 (d + 20 + 2 * s) 4 (g 115 4)) d 15 (g 114 33 + 1) (d + 20 + 2 * s) 4 = g 115 4 := by rw [jw0 (by omega), jw1 ⟨rfl, rfl⟩]
      generalize jwr (jwr M1 (d + 20 + 2 * s) 4 (g 115 4)) d 15 (g 114 33 + 1) = M3 at *
      refine if_pc (g 122 s = 2) (fun T F => ?_) (fun c2 => ?_) (fun c2 => ?_)
      · simp only [kR, xGf, xV, xC, l2, r3]
      · refine do2 ?_
        rw [l0, l1]
        refine pd_fall hd hn0 hn ?_ (fun p p0 p1 => ?_) ?_
        · rw [hM3 _ _ (.inr (by decide)) (.inl (by omega))]; exact dd.2.1
        · obtain ⟨-, -, q3, -, q5, q6, -⟩ := S.1.2.2 p p0 p1
          have gp := ok.2.1 p p0 p1
          have phj := ph_eq gp.1.1 gp.1.2.1
          rw [hM3 _ _ (.inl (by omega)) (.inl (by omega)), hM3 _ _ (.inl (by omega)) (.inl (by omega)), hM3 _ _ (.inl (by omega)) (.inl (by omega))]
          refine ⟨q3, ?_, fun z => ?_⟩
          · rw [q5]; exact phj.2.2.1
          · rw [q6]; exact (gp.2.2.2.2.1 z).2.2.2.2.2.2.2.1
        · have hF : ∀ a b, (a < d + 6 ∨ d + 6 + g 114 5 ≤ a) → mFall d s (g 114 5) g M3 a b = M3 a b := fun a b h => by unfold mFall; rw [if_neg (by omega)]
          refine hq _ (pdS_load S ok s0 s1 (fun b h1 h2 => ?_) ?_ ?_ (fun b => ?_) (fun b => ?_) (fun s' b s0' s1' h => ?_) ?_ (fun s' b s0' s1' => ?_) (fun p b p0 p1 => ?_)) ?_
          · rw [hF _ _ (.inl (by omega)), hM3 _ _ (.inr ⟨h1, h2⟩) (.inl (by omega))]
          · rw [hF _ _ (.inl (by omega)), h13']
          · rw [hF _ _ (.inl (by omega)), h15', if_pos ct]
          · rw [hF _ _ (.inl (by omega)), hM3 _ _ (.inl (by omega)) (.inl (by omega))]
          · rw [hF _ _ (.inl (by omega)), hM3 _ _ (.inl (by omega)) (.inl (by omega))]
          · rw [hF _ _ (.inr (by omega)), hM3 _ _ (.inl (by omega)) (by omega)]
          · rw [hF _ _ (.inr (by omega)), h4', if_pos ct]
          · rw [hF _ _ (.inr (by omega)), hM3 _ _ (.inl (by omega)) (.inl (by omega))]
          · have ep : d + 6 + p - (d + 6) = p := by omega
            unfold mFall
            rw [ep]
            by_cases z : (b = 2 ∨ b = 10) ∧ d + 6 ≤ d + 6 + p ∧ d + 6 + p < d + 6 + g 114 5 ∧ gOn g p s ∧ g 124 p = 1
            · have z2 : (b = 2 ∨ b = 10) ∧ gTr s g ∧ g 122 s = 2 ∧ p < g 114 5 ∧ gOn g p s ∧ g 124 p = 1 := ⟨z.1, ct, c2, by omega, z.2.2.2⟩
              rw [if_pos z, if_pos z2]
            · rw [if_neg z, if_neg (fun w => z ⟨w.1, by omega, by omega, w.2.2.2.2⟩), hM3 _ _ (.inl (by omega)) (.inl (by omega))]
          · refine pdFr_tr F3 ⟨fun a b h => hF a b (by omega), fun b h => hF _ _ (by omega), fun b => hF _ _ (by omega)⟩
      · refine hq _ (pdS_load S ok s0 s1 (fun b h1 h2 => ?_) h13' (by rw [h15', if_pos ct]) (fun b => ?_) (fun b => ?_) (fun s' b s0' s1' h => ?_) (by rw [h4', if_pos ct]) (fun s' b s0' s1' => ?_) (fun p b p0 p1 => ?_)) F3
        · rw [hM3 _ _ (.inr ⟨h1, h2⟩) (.inl (by omega))]
        · rw [hM3 _ _ (.inl (by omega)) (.inl (by omega))]
        · rw [hM3 _ _ (.inl (by omega)) (.inl (by omega))]
        · rw [hM3 _ _ (.inl (by omega)) (by omega)]
        · rw [hM3 _ _ (.inl (by omega)) (.inl (by omega))]
        · rw [hM3 _ _ (.inl (by omega)) (.inl (by omega)), if_neg (fun z => c2 z.2.2.1)]
    · refine hq _ (pdS_load S ok s0 s1 (fun b h1 h2 => ?_) h13 (by rw [if_neg ct, m15]) (fun b => ?_) (fun b => ?_) (fun s' b s0' s1' h => ?_) (by rw [if_neg ct, if_neg c, m4]) (fun s' b s0' s1' => ?_) (fun p b p0 p1 => ?_)) frM
      · exact hM1 _ _ (.inr h1)
      · exact hM1 _ _ (.inl (by omega))
      · exact hM1 _ _ (.inl (by omega))
      · exact hM1 _ _ (.inl (by omega))
      · exact hM1 _ _ (.inl (by omega))
      · rw [hM1 _ _ (.inl (by omega)), if_neg (fun z => ct z.2.1)]
