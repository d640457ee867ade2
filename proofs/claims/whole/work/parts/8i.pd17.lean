/-! the program: a day is loaded -/
def pLn (d : Int) (M P : jMm) (wo n c : Int) : Prop := (0 ≤ c ∧ c ≤ n) ∧ (∀ i, 0 ≤ i → i < c → 0 ≤ M (d + 4) i ∧ M (d + 4) i < n ∧ M (d + 4) i ≠ wo) ∧ (∀ p, 0 ≤ p → p < n → p ≠ wo → ∃ i, 0 ≤ i ∧ i < c ∧ M (d + 4) i = p) ∧ (∀ i j, 0 ≤ i → i < j → j < c → P 117 (3 * M (d + 4) i) < P 117 (3 * M (d + 4) j) ∨ (P 117 (3 * M (d + 4) i) = P 117 (3 * M (d + 4) j) ∧ M (d + 4) i < M (d + 4) j))
def pFl (d : Int) (M P : jMm) (ways paces : Int → Int) (s : Int) : Prop := M (d + 20 + 2 * s) 1 = P 116 (3 * s) ∧ M (d + 20 + 2 * s) 2 = ways s ∧ M (d + 20 + 2 * s) 3 = paces s ∧ M (d + 20 + 2 * s) 4 = 0 ∧ M (d + 20 + 2 * s) 5 = 0 ∧ ∀ b, 0 ≤ b → b < 20 → M (d + 21 + 2 * s) b = -1
def pRi (d : Int) (M P : jMm) (p : Int) : Prop := M (d + 6 + p) 0 = P 117 (3 * p) ∧ M (d + 6 + p) 1 = P 117 (3 * p + 1) ∧ M (d + 6 + p) 2 = P 117 (3 * p + 2) ∧ M (d + 6 + p) 3 = wt (P 117 (3 * p + 2)) ∧ M (d + 6 + p) 4 = 4 ∧ M (d + 6 + p) 5 = -4 ∧ M (d + 6 + p) 6 = -4 ∧ M (d + 6 + p) 9 = -4 ∧ M (d + 6 + p) 10 = 0
def pHd (d : Int) (M P : jMm) (r : Int) : Prop := M d 5 = P 114 1 ∧ M d 6 = P 114 5 ∧ M d 8 = 0 ∧ M d 9 = 0 ∧ M d 12 = 0 ∧ M d 13 = 0 ∧ M d 14 = 0 ∧ M d 15 = 0 ∧ M (d + 3) 0 = r ∧ (∀ j, 1 ≤ j → j ≤ 6 → M (d + 3) j = P 115 j) ∧ M (d + 5) 0 = 0 ∧ M (d + 5) 1 = 0
def pdB (d : Int) (M P : jMm) (r wo : Int) (ways paces : Int → Int) : Prop := pHd d M P r ∧ (∀ s, 0 ≤ s → s < P 114 1 → pFl d M P ways paces s) ∧ (∀ p, 0 ≤ p → p < P 114 5 → pRi d M P p) ∧ pLn d M P wo (P 114 5) (M d 7)
theorem pdB_Z {d r wo c : Int} {w ways paces : Int → Int} {M P : jMm} (B : pdB d M P r wo ways paces) (pl : gPl P) (h10 : M d 10 = c) (hw : c > 0 → 0 ≤ M d 11 ∧ ∀ s, 0 ≤ s → s < P 114 1 → w s = wy (M d 11) s) : pdZ d c w (gBegin P r wo ways paces) 0 M := by
  obtain ⟨⟨d1, d2, d3, d4, d5, d6, d7, d8, d9, d10, d11, d12⟩, bf, bp, ⟨n0, n1⟩, b1, b2, b3⟩ := B
  have hn := pl.1.2.2.2
  have e5 : gBegin P r wo ways paces 114 5 = P 114 5 := by simp [gBegin]
  have e1 : gBegin P r wo ways paces 114 1 = P 114 1 := by simp [gBegin]
  have e17 : gBegin P r wo ways paces 114 17 = wo := by simp [gBegin]
  have e117 : ∀ b, gBegin P r wo ways paces 117 b = P 117 b := fun b => by simp [gBegin]
  have e123 : ∀ b, gBegin P r wo ways paces 123 b = 0 := fun b => by simp [gBegin]
  have z1 : gCnt (gBegin P r wo ways paces) = 0 := sm_zero _ (fun p _ _ => by rw [e123, if_neg (by decide)])
  have z2 : ∀ f, gThere (gBegin P r wo ways paces) f = 0 := fun f => sm_zero _ (fun p _ _ => by rw [e123, if_neg (by omega)])
  have z3 : ∀ s, gWeight (gBegin P r wo ways paces) s = 0 := fun s => sm_zero _ (fun p _ _ => by
    rw [if_neg]
    intro z
    rw [gOn, e123] at z
    exact absurd z.1 (by decide))
  have z4 : gSum 0 (gBegin P r wo ways paces) = 0 := sm_zero _ (fun p _ _ => by
    rw [e123, if_neg (by decide)]
    simp [gBegin])
  refine ⟨⟨⟨⟨?_, ?_, ?_, ?_, ?_, ?_, ?_, fun j j1 j2 => ?_, ?_, ?_⟩, fun s s0 s1 => ?_, fun p p0 p1 => ?_⟩, fun s s0 s1 => ?_⟩, ⟨⟨?_, ?_, ?_⟩, fun i i0 i7 => ?_, fun p p0 p1 pw => ?_, fun i j i0 ij j7 => ?_, fun i i0 i7 => ?_⟩, ?_, h10, fun c0 => ?_⟩
  · show M d 5 = gBegin P r wo ways paces 114 1; rw [e1]; exact d1
  · show M d 6 = gBegin P r wo ways paces 114 5; rw [e5]; exact d2
  · show M d 9 = gCnt (gBegin P r wo ways paces); rw [z1]; exact d4
  · show M d 13 = gBegin P r wo ways paces 114 34; rw [d6]; simp [gBegin]
  · show M d 14 = gBegin P r wo ways paces 114 32; rw [d7]; simp [gBegin]
  · show M d 15 = gBegin P r wo ways paces 114 33; rw [d8]; simp [gBegin]
  · show M (d + 3) 0 = gBegin P r wo ways paces 114 16; rw [d9]; simp [gBegin]
  · show M (d + 3) j = gBegin P r wo ways paces 115 j; rw [d10 j j1 j2]; simp [gBegin]
  · show M (d + 5) 0 = gThere (gBegin P r wo ways paces) 0; rw [z2]; exact d11
  · show M (d + 5) 1 = gThere (gBegin P r wo ways paces) 1; rw [z2]; exact d12
  · have s1 : s < gBegin P r wo ways paces 114 1 := s1
    rw [e1] at s1
    obtain ⟨f1, f2, f3, f4, f5, f6⟩ := bf s s0 s1
    show pdF d M (gBegin P r wo ways paces) s
    unfold pdF
    rw [z3, f1, f2, f3, f4, f5]
    simp [gBegin]
  · have p1 : p < gBegin P r wo ways paces 114 5 := p1
    rw [e5] at p1
    obtain ⟨q1, q2, q3, q4, q5, q6, q7, q8, q9⟩ := bp p p0 p1
    show pdP d M (gBegin P r wo ways paces) p
    unfold pdP
    rw [q1, q2, q3, q4, q5, q6, q7, q8, q9]
    simp [gBegin]
    decide
  · have s1 : s < gBegin P r wo ways paces 114 1 := s1
    rw [e1] at s1
    obtain ⟨f1, f2, f3, f4, f5, f6⟩ := bf s s0 s1
    have vs := pl.2.2.1 s s0 s1
    intro x y x0 x1 y0 y1
    have x1 : x < gBegin P r wo ways paces 116 (3 * s) := x1
    have e116 : gBegin P r wo ways paces 116 (3 * s) = P 116 (3 * s) := by simp [gBegin]
    rw [e116] at x1
    rw [f6 _ (by omega) (by omega)]
    refine ⟨by decide, fun p p0 => ⟨fun q => by omega, fun q => ?_⟩⟩
    have : gBegin P r wo ways paces 123 p = 2 := q.2.1.1
    rw [e123] at this
    exact absurd this (by decide)
  · rw [d3]; decide
  · rw [d3]; exact n0
  · omega
  · show 0 ≤ M (d + 4) i ∧ M (d + 4) i < gBegin P r wo ways paces 114 5 ∧ M (d + 4) i ≠ gBegin P r wo ways paces 114 17
    rw [e5, e17]; exact b1 i i0 i7
  · have p1 : p < gBegin P r wo ways paces 114 5 := p1
    have pw : p ≠ gBegin P r wo ways paces 114 17 := pw
    rw [e5] at p1
    rw [e17] at pw
    exact b2 p p0 p1 pw
  · show gBegin P r wo ways paces 117 _ < gBegin P r wo ways paces 117 _ ∨ (gBegin P r wo ways paces 117 _ = gBegin P r wo ways paces 117 _ ∧ _)
    rw [e117, e117]; exact b3 i j i0 ij j7
  · show i < M d 8 ↔ gBegin P r wo ways paces 117 _ < ((0 : Nat) : Int)
    obtain ⟨q0, q1, -⟩ := b1 i i0 i7
    have := pl.2.1 _ q0 q1
    rw [e117, d3]
    constructor
    · intro z; omega
    · intro z; omega
  · show M d 12 = gSum ((0 : Nat) : Int) (gBegin P r wo ways paces)
    rw [d5]; exact z4.symm
  · rw [e1]; exact hw c0
theorem pd_lineUp {d p c wo : Int} {M P : jMm} {Q : Int → jMm → Prop} (hd : isDay d) (p0 : 0 ≤ p) (p1 : p < 14) (h7 : M d 7 = c) (Ln : pLn d M P wo p c) (tk : ∀ q, 0 ≤ q → q ≤ p → M (d + 6 + q) 0 = P 117 (3 * q)) (pw : p ≠ wo) (hq : ∀ M', (∀ a b, a ≠ d + 4 → (a ≠ d ∨ b ≠ 7) → M' a b = M a b) → M' d 7 = c + 1 → pLn d M' P wo (p + 1) (c + 1) → Q 0 M') : f_X0_lineUp [d, p] M Q := by
  unfold f_X0_lineUp
  obtain ⟨⟨c0, c1⟩, L1, L2, L3⟩ := Ln
  refine mt_ (sq_ (st_v (v := c) (fun Q => by simp [xGf, xV, jIn, h7]) (sq_ ?_)))
  refine wh_rule (fun k L M1 => L 0 = d ∧ L 1 = p ∧ L 2 = (k : Int) ∧ (k : Int) ≤ c ∧ (∀ a b, a ≠ d + 4 → M1 a b = M a b) ∧ (∀ i : Int, 0 ≤ i → i < k → M1 (d + 4) i = M (d + 4) i) ∧ (∀ i : Int, (k : Int) < i → i ≤ c → M1 (d + 4) i = M (d + 4) (i - 1)) ∧ ∀ i, (k : Int) ≤ i → i < c → P 117 (3 * M (d + 4) i) > P 117 (3 * p)) ?_ (k := c.toNat) ⟨rfl, rfl, by show c = _; omega, by omega, fun _ _ _ => rfl, fun _ _ _ => rfl, fun i h0 h1 => by omega, fun i h0 h1 => by omega⟩
  rintro k L M1 ⟨l0, l1, l2, kc, hf, h1, h2, h3⟩ N' hN'
  have hp : M1 (d + 6 + p) 0 = P 117 (3 * p) := by rw [hf _ _ (by omega)]; exact tk p p0 (Int.le_refl _)
  have fin : (k = 0 ∨ ¬ P 117 (3 * M (d + 4) ((k : Int) - 1)) > P 117 (3 * p)) → (tSeq (tAst (xGr (xV 0) 3) (xV 2) (xV 1)) (tSeq (tPutO boAdd (xV 0) 7 (xC 1)) (tRet0))) L M1 (fun _ _ => False) Q := fun hx => by
    have i7 : ir (c + 1) := ⟨by omega, by omega⟩
    have r7 : jwr M1 (d + 4) k p d 7 = c := by rw [jw0 (by omega), hf _ _ (by omega)]; exact h7
    have ik : 0 ≤ (k : Int) ∧ (k : Int) < 14 := by omega
    simp only [tSeq, tAst, tPutO, tRet0, xGr, xV, xC, boAdd, l0, l1, l2, drf3 hd, dln4 hd, ik, r7, i7, true_and, and_self]
    have rd : ∀ i, 0 ≤ i → i ≤ c → (jwr (jwr M1 (d + 4) k p) d 7 (c + 1)) (d + 4) i = if i < k then M (d + 4) i else if i = k then p else M (d + 4) (i - 1) := fun i i0 i1 => by
      rw [jw0 (by omega)]
      by_cases e : i = k
      · rw [jw1 ⟨rfl, e⟩, if_neg (by omega), if_pos e]
      · rw [jw0 (by omega)]
        by_cases e2 : i < k
        · rw [if_pos e2]; exact h1 i i0 e2
        · rw [if_neg e2, if_neg e]; exact h2 i (by omega) i1
    refine hq _ (fun a b ha hb => ?_) (jw1 ⟨rfl, rfl⟩) ⟨⟨by omega, by omega⟩, fun i i0 i1 => ?_, fun q q0 q1 qw => ?_, fun i j i0 ij jc => ?_⟩
    · rw [jw0 hb, jw0 (by omega)]; exact hf a b ha
    · rw [rd i i0 (by omega)]
      by_cases e2 : i < k
      · rw [if_pos e2]
        have := L1 i i0 (by omega)
        exact ⟨this.1, by omega, this.2.2⟩
      · by_cases e : i = k
        · rw [if_neg e2, if_pos e]; exact ⟨p0, by omega, pw⟩
        · rw [if_neg e2, if_neg e]
          have := L1 (i - 1) (by omega) (by omega)
          exact ⟨this.1, by omega, this.2.2⟩
    · by_cases e : q = p
      · refine ⟨k, by omega, by omega, ?_⟩
        rw [rd k (by omega) kc, if_neg (by omega), if_pos rfl, e]
      · obtain ⟨i, i0, i1, ib⟩ := L2 q q0 (by omega) qw
        by_cases e2 : i < k
        · refine ⟨i, i0, by omega, ?_⟩
          rw [rd i i0 (by omega), if_pos e2, ib]
        · refine ⟨i + 1, by omega, by omega, ?_⟩
          rw [rd (i + 1) (by omega) (by omega), if_neg (by omega), if_neg (by omega), show i + 1 - 1 = i by omega, ib]
    · rw [rd i i0 (by omega), rd j (by omega) (by omega)]
      by_cases ei : i < k
      · rw [if_pos ei]
        by_cases ej : j < k
        · rw [if_pos ej]; exact L3 i j i0 ij (by omega)
        · rw [if_neg ej]
          by_cases ek : j = k
          · rw [if_pos ek]
            have bnd := L1 i i0 (by omega)
            rcases hx with z | z
            · omega
            · by_cases el : i = (k : Int) - 1
              · rw [el] at bnd ⊢
                omega
              · have := L3 i ((k : Int) - 1) i0 (by omega) (by omega)
                omega
          · rw [if_neg ek]; exact L3 i (j - 1) i0 (by omega) (by omega)
      · rw [if_neg ei]
        by_cases ek : i = k
        · rw [if_pos ek, if_neg (by omega), if_neg (by omega)]
          have := h3 (j - 1) (by omega) (by omega)
          exact .inl (by omega)
        · rw [if_neg ek, if_neg (by omega), if_neg (by omega)]
          exact L3 (i - 1) (j - 1) (by omega) (by omega) (by omega)
  have cnd : ∀ T F : jMm → Prop, (0 < k → P 117 (3 * M (d + 4) ((k : Int) - 1)) > P 117 (3 * p) → T M1) → ((k = 0 ∨ ¬ P 117 (3 * M (d + 4) ((k : Int) - 1)) > P 117 (3 * p)) → F M1) → (kAnd (kZ (fun x y => x > y) (xV 2)) (kR (fun x y => x > y) (xGf (xAr (xGr (xV 0) 0) (xAl (xGr (xV 0) 3) (xBin boSub (xV 2) (xC 1)))) 0) (xGf (xAr (xGr (xV 0) 0) (xV 1)) 0))) L M1 T F := fun T F hT hF => by
    by_cases ck : k = 0
    · subst ck
      simp only [kAnd, kZ, xV, l2]
      exact ⟨fun z => absurd z (by decide), fun _ => hF (.inl rfl)⟩
    · have k1 : (0 : Int) ≤ (k : Int) - 1 ∧ (k : Int) - 1 < 14 := by omega
      obtain ⟨q0, q1, -⟩ := L1 ((k : Int) - 1) (by omega) (by omega)
      have i1 : ir ((k : Int) - 1) := ⟨by omega, by omega⟩
      have e1 := h1 ((k : Int) - 1) (by omega) (by omega)
      have q14 : M (d + 4) ((k : Int) - 1) < 14 := by omega
      have e2 : M1 (d + 6 + M (d + 4) ((k : Int) - 1)) 0 = P 117 (3 * M (d + 4) ((k : Int) - 1)) := by rw [hf _ _ (by omega)]; exact tk _ q0 (by omega)
      simp only [kAnd, kZ, kR, xGf, xAr, xAl, xGr, xBin, boSub, xV, xC, l0, l1, l2, drf0 hd, drf3 hd, dln1 hd, dln4 hd, i1, k1, e1, drr hd q0 q14, drr hd p0 p1, q0, q14, p0, p1, e2, hp, true_and, and_self]
      exact ⟨fun z => ⟨fun y => hT (by omega) y, fun y => hF (.inr y)⟩, fun z => absurd (show (k : Int) > 0 by omega) z⟩
  refine cnd _ _ (fun k0 kt => ?_) fin
  obtain ⟨k', rfl⟩ : ∃ k', k = k' + 1 := ⟨k - 1, by omega⟩
  have ek : ((k' + 1 : Nat) : Int) - 1 = k' := by omega
  have ek2 : ((k' + 1 : Nat) : Int) + -1 = k' := by omega
  rw [ek] at kt
  have ik : 0 ≤ (k' : Int) ∧ (k' : Int) < 14 := by omega
  have ik2 : 0 ≤ ((k' + 1 : Nat) : Int) ∧ ((k' + 1 : Nat) : Int) < 14 := by omega
  have i1 : ir (k' : Int) := ⟨by omega, by omega⟩
  have e1 := h1 (k' : Int) (by omega) (by omega)
  simp only [tSeq, tAst, tInc, xAl, xGr, xBin, boSub, xV, xC, l0, l2, drf3 hd, dln4 hd, ek, ek2, i1, ik, ik2, e1, true_and, and_self]
  refine hN' k' _ _ (by omega) ⟨l0, l1, rfl, by omega, fun a b ha => ?_, fun i i0 i1 => ?_, fun i i0 i1 => ?_, fun i i0 i1 => ?_⟩
  · rw [jw0 (by omega)]; exact hf a b ha
  · rw [jw0 (by omega)]; exact h1 i i0 (by omega)
  · by_cases e : i = ((k' + 1 : Nat) : Int)
    · rw [jw1 ⟨rfl, e⟩, e, ek]
    · rw [jw0 (.inr e)]; exact h2 i (by omega) i1
  · by_cases e : i = k'
    · rw [e]; exact kt
    · exact h3 i (by omega) i1
