/-- the told plan in the program's places -/
def pRel (M P : jMm) : Prop := M 1 3 = P 114 1 ∧ M 1 4 = P 114 5 ∧ M 1 5 = P 114 3 ∧ M 1 6 = P 114 4 ∧ (∀ j, 0 ≤ j → j ≤ 6 → M 10 j = P 115 j) ∧ (∀ s, 0 ≤ s → s < P 114 1 → M 3 s = P 116 (3 * s) ∧ M 4 s = P 116 (3 * s + 1) ∧ M 5 s = P 116 (3 * s + 2)) ∧ (∀ p, 0 ≤ p → p < P 114 5 → M 7 p = P 117 (3 * p) ∧ M 8 p = P 117 (3 * p + 1) ∧ M 9 p = P 117 (3 * p + 2))
theorem pRel_fr {M M' P : jMm} (h : pRel M P) (e : ∀ a b, a ≤ 10 → M' a b = M a b) : pRel M' P := by
  unfold pRel at h ⊢
  simp only [e 1 _ (by decide), e 3 _ (by decide), e 4 _ (by decide), e 5 _ (by decide), e 7 _ (by decide), e 8 _ (by decide), e 9 _ (by decide), e 10 _ (by decide)]
  exact h
theorem prf1 : s_rf 1 0 = 2 ∧ s_rf 1 1 = 6 ∧ s_rf 1 2 = 10 ∧ s_rf 2 0 = 3 ∧ s_rf 2 1 = 4 ∧ s_rf 2 2 = 5 ∧ s_rf 6 0 = 7 ∧ s_rf 6 1 = 8 ∧ s_rf 6 2 = 9 := by decide +kernel
theorem pln1 : s_len 2 = 3 ∧ s_len 3 = 3 ∧ s_len 4 = 3 ∧ s_len 5 = 3 ∧ s_len 6 = 3 ∧ s_len 7 = 14 ∧ s_len 8 = 14 ∧ s_len 9 = 14 ∧ s_len 10 = 7 := by decide +kernel
theorem sv6 : s_sv 6 0 = 2 ∧ s_sv 6 1 = 2 ∧ s_sv 6 2 = 4 ∧ s_sv 6 3 = 1 ∧ s_sv 6 4 = 2 := by decide +kernel
theorem pd_weightOf {k : Int} {M : jMm} {Q : Int → jMm → Prop} (k0 : 0 ≤ k) (k4 : k ≤ 4) : f_X6_weightOf [k] M Q = Q (wt k) M := by
  rw [q_X6_weightOf, if_pos ⟨k0, k4⟩]
  obtain ⟨e0, e1, e2, e3, e4⟩ := sv6
  have : s_sv 6 k = wt k := by
    obtain rfl | rfl | rfl | rfl | rfl : k = 0 ∨ k = 1 ∨ k = 2 ∨ k = 3 ∨ k = 4 := by omega
    · rw [e0]; rfl
    · rw [e1]; rfl
    · rw [e2]; rfl
    · rw [e3]; rfl
    · rw [e4]; rfl
  rw [this]
theorem pd_begin1 {d s len way pace : Int} {M : jMm} {Q : Int → jMm → Prop} (hd : isDay d) (s0 : 0 ≤ s) (s1 : s < 3) (h3 : 3 ≤ len) (h10 : len ≤ 10) (hq : ∀ M', (∀ a b, a ≠ d + 20 + 2 * s → a ≠ d + 21 + 2 * s → M' a b = M a b) → M' (d + 20 + 2 * s) 1 = len → M' (d + 20 + 2 * s) 2 = way → M' (d + 20 + 2 * s) 3 = pace → M' (d + 20 + 2 * s) 4 = 0 → M' (d + 20 + 2 * s) 5 = 0 → (∀ b, 0 ≤ b → b < 20 → M' (d + 21 + 2 * s) b = -1) → Q 0 M') : f_X1_begin [d + 20 + 2 * s, len, way, pace] M Q := by
  unfold f_X1_begin
  have hlen : s_len (d + 21 + 2 * s) = 20 := dfl hd s0 s1
  have hsp : s_rf (d + 20 + 2 * s) 0 = d + 21 + 2 * s := dfp hd s0 s1
  have hmx : max 1 (min len 10) = len := by omega
  have emp : ∀ (M : jMm) (K : Int → jMm → Prop), (∀ M', (∀ a b, a ≠ d + 21 + 2 * s → (a ≠ d + 20 + 2 * s ∨ b ≠ 5) → M' a b = M a b) → (∀ b, 0 ≤ b → b < 20 → M' (d + 21 + 2 * s) b = -1) → M' (d + 20 + 2 * s) 5 = 0 → K 0 M') → f_X1_empty [d + 20 + 2 * s] M K := fun M K hK => by
    unfold f_X1_empty
    refine mt_ (sq_ (seqG (x := d + 21 + 2 * s) (y := -1) (fun Q => ?_) (fun Q => rfl) ?_))
    · simp [xGr, xV, jIn, hsp]
    refine pd_fill (by omega) (by omega) (hK _ (fun a b h1 h2 => ?_) (fun b b0 b1 => ?_) ?_)
    · show jwr _ (d + 20 + 2 * s) 5 0 a b = _
      rw [jw0 h2, if_neg (fun z => h1 z.1)]
    · show jwr _ (d + 20 + 2 * s) 5 0 (d + 21 + 2 * s) b = _
      rw [jw0 (by omega), if_pos ⟨rfl, b0, by omega⟩]
    · show jwr _ (d + 20 + 2 * s) 5 0 (d + 20 + 2 * s) 5 = _
      rw [jw1 ⟨rfl, rfl⟩]
  generalize hE : f_X1_empty = E at *
  simp only [jMeth, tSeq, tPut, tDo, tRet0, xBin, boMax, boMin, xCall, xsC, xsN, xV, xC, jIn, hmx, reduceIte, Nat.reduceEqDiff]
  refine emp _ _ (fun M' h1 h2 h3 => hq M' (fun a b ha hb => ?_) ?_ ?_ ?_ ?_ h3 h2)
  · rw [h1 a b hb (by omega), jw0 (by omega), jw0 (by omega), jw0 (by omega), jw0 (by omega)]
  · rw [h1 _ _ (by omega) (.inr (by decide)), jw0 (by omega), jw0 (by omega), jw0 (by omega), jw1 ⟨rfl, rfl⟩]
  · rw [h1 _ _ (by omega) (.inr (by decide)), jw0 (by omega), jw0 (by omega), jw1 ⟨rfl, rfl⟩]
  · rw [h1 _ _ (by omega) (.inr (by decide)), jw0 (by omega), jw1 ⟨rfl, rfl⟩]
  · rw [h1 _ _ (by omega) (.inr (by decide)), jw1 ⟨rfl, rfl⟩]
theorem pd_begin3 {d p tick floor kind : Int} {M P : jMm} {Q : Int → jMm → Prop} (k0 : 0 ≤ kind) (k4 : kind ≤ 4) (h1 : tick = P 117 (3 * p)) (h2 : floor = P 117 (3 * p + 1)) (h3 : kind = P 117 (3 * p + 2)) (hq : ∀ M', (∀ a b, a ≠ d + 6 + p → M' a b = M a b) → pRi d M' P p → Q 0 M') : f_X3_begin [d + 6 + p, tick, floor, kind] M Q := by
  unfold f_X3_begin
  have w : ∀ M Q, f_X6_weightOf [kind] M Q = Q (wt kind) M := fun M Q => pd_weightOf k0 k4
  generalize hF : f_X6_weightOf = F at *
  simp only [jMeth, tSeq, tPut, tPutZ, tRet0, xCall, xsC, xsN, xV, xC, jIn, w, reduceIte, Nat.reduceEqDiff]
  refine ⟨.inl trivial, hq _ (fun a b ha => ?_) ?_⟩
  · rw [jw0 (by omega), jw0 (by omega), jw0 (by omega), jw0 (by omega), jw0 (by omega), jw0 (by omega), jw0 (by omega), jw0 (by omega), jw0 (by omega), jw0 (by omega), jw0 (by omega)]
  · unfold pRi
    rw [← h1, ← h2, ← h3]
    refine ⟨?_, ?_, ?_, ?_, ?_, ?_, ?_, ?_, ?_⟩
    · rw [jw0 (by omega), jw0 (by omega), jw0 (by omega), jw0 (by omega), jw0 (by omega), jw0 (by omega), jw0 (by omega), jw0 (by omega), jw0 (by omega), jw0 (by omega), jw1 ⟨rfl, rfl⟩]
    · rw [jw0 (by omega), jw0 (by omega), jw0 (by omega), jw0 (by omega), jw0 (by omega), jw0 (by omega), jw0 (by omega), jw0 (by omega), jw0 (by omega), jw1 ⟨rfl, rfl⟩]
    · rw [jw0 (by omega), jw0 (by omega), jw0 (by omega), jw0 (by omega), jw0 (by omega), jw0 (by omega), jw0 (by omega), jw0 (by omega), jw1 ⟨rfl, rfl⟩]
    · rw [jw0 (by omega), jw0 (by omega), jw0 (by omega), jw0 (by omega), jw0 (by omega), jw0 (by omega), jw0 (by omega), jw1 ⟨rfl, rfl⟩]
    · rw [jw0 (by omega), jw0 (by omega), jw0 (by omega), jw0 (by omega), jw0 (by omega), jw0 (by omega), jw1 ⟨rfl, rfl⟩]
    · rw [jw0 (by omega), jw0 (by omega), jw0 (by omega), jw0 (by omega), jw0 (by omega), jw1 ⟨rfl, rfl⟩]
    · rw [jw0 (by omega), jw0 (by omega), jw0 (by omega), jw0 (by omega), jw1 ⟨rfl, rfl⟩]
    · rw [jw0 (by omega), jw1 ⟨rfl, rfl⟩]
    · rw [jw1 ⟨rfl, rfl⟩]
theorem do4e {f : jMd} {e0 e1 e2 e3 : jEx} {x0 x1 x2 x3 : Int} {L : jLo} {M : jMm} {N : jLo → jMm → Prop} {R : Int → jMm → Prop} (h0 : ∀ Q, e0 L M Q = Q x0 M) (h1 : ∀ Q, e1 L M Q = Q x1 M) (h2 : ∀ Q, e2 L M Q = Q x2 M) (h3 : ∀ Q, e3 L M Q = Q x3 M) (h : f [x0, x1, x2, x3] M (fun _ M1 => N L M1)) : tDo f (xsC e0 (xsC e1 (xsC e2 (xsC e3 xsN)))) L M N R := by
  show e0 L M (fun v0 M1 => e1 L M1 (fun v1 M2 => e2 L M2 (fun v2 M3 => e3 L M3 (fun v3 M4 => f [v0, v1, v2, v3] M4 (fun _ M5 => N L M5)))))
  rw [h0, h1, h2, h3]; exact h
theorem do3e {f : jMd} {e0 e1 e2 : jEx} {x0 x1 x2 : Int} {L : jLo} {M : jMm} {N : jLo → jMm → Prop} {R : Int → jMm → Prop} (h0 : ∀ Q, e0 L M Q = Q x0 M) (h1 : ∀ Q, e1 L M Q = Q x1 M) (h2 : ∀ Q, e2 L M Q = Q x2 M) (h : f [x0, x1, x2] M (fun _ M1 => N L M1)) : tDo f (xsC e0 (xsC e1 (xsC e2 xsN))) L M N R := by
  show e0 L M (fun v0 M1 => e1 L M1 (fun v1 M2 => e2 L M2 (fun v2 M3 => f [v0, v1, v2] M3 (fun _ M5 => N L M5))))
  rw [h0, h1, h2]; exact h
theorem pu {o e : jEx} {j k v : Int} {L : jLo} {M : jMm} {N : jLo → jMm → Prop} {R : Int → jMm → Prop} (ho : ∀ Q : Int → jMm → Prop, o L M Q = Q k M) (he : ∀ Q : Int → jMm → Prop, e L M Q = Q v M) (h : N L (jwr M k j v)) : tPut o j e L M N R := by
  show o L M (fun k M => e L M (fun v M => N L (jwr M k j v)))
  rw [ho, he]; exact h
theorem pd_turnAt {d t w : Int} {M : jMm} {Q : Int → jMm → Prop} : f_X0_turnAt [d, t, w] M Q = Q 0 (jwr (jwr M d 10 t) d 11 w) := by
  unfold f_X0_turnAt
  apply propext
  simp [jMeth, jIn, jup, tSeq, tIf, tSkip, tSet, tInc, tPut, tPutZ, tPutO, tAst, tAstO, tDo, tRet, tRetZ, tRet0, kAnd, kOr, kNot, kZ, kR, xV, xC, xGf, xGr, xAl, xAr, xSt, xLen, xBin, xUn, xNeg, xTern, xCall, xsC, xsN, boAdd, boSub, boMul, boDiv, boRem, boMax, boMin, boOr, boAnd, boShl, boShr]
theorem pd_load {d ab wo : Int} {M P : jMm} {Q : Int → jMm → Prop} (hd : isDay d) (pl : gPl P) (rel : pRel M P) (hab : ∀ p, 0 ≤ p → (p = ab ↔ p = wo)) (hq : ∀ M', pdB d M' P (P 115 0) wo (fun s => P 116 (3 * s + 1)) (fun s => P 116 (3 * s + 2)) → M' d 10 = P 114 3 → M' d 11 = P 114 4 → oFr d M M' → Q 0 M') : f_X0_load [d, 1, ab] M Q := by
  unfold f_X0_load
  obtain ⟨r1, r2, r3, r4, r5, r6, r7⟩ := rel
  obtain ⟨g1, g2, g3, g4, g5, g6, g7, g8, g9⟩ := prf1
  obtain ⟨u2, u3, u4, u5, u6, u7, u8, u9, u10⟩ := pln1
  obtain ⟨⟨k0, k3, n0, n14⟩, pp, ps, -⟩ := pl
  have dd : d = 28 ∨ d = 54 ∨ d = 80 := hd
  have d28 : 28 ≤ d := by omega
  refine mt_ (sq_cut (fun L M1 => L 0 = d ∧ L 1 = 1 ∧ L 2 = ab ∧ M1 = jwR M (d + 3) 0 7 (fun q => M 10 (q - 0 + 0))) (fun N1 hN1 => ?_) ?_)
  · have i1 : (0 : Int) ≤ 0 ∧ (0 : Int) ≤ 0 ∧ (0 : Int) ≤ 7 ∧ (0 : Int) + 7 ≤ 7 ∧ (0 : Int) + 7 ≤ 7 := by decide
    simp only [tCopy, xGr, xLen, xV, xC, jIn, drf2 hd, dln3 hd, g3, u10, reduceIte, Nat.reduceEqDiff]
    exact ⟨i1, hN1 _ _ ⟨rfl, rfl, rfl, rfl⟩⟩
  rintro L M1 ⟨l0, l1, l2, hM1⟩
  have m3 : ∀ j, 0 ≤ j → j ≤ 6 → M1 (d + 3) j = P 115 j := fun j h0 h1 => by
    rw [hM1]; unfold jwR
    rw [if_pos ⟨rfl, h0, by omega⟩]
    show M 10 (j - 0 + 0) = _
    rw [show j - 0 + 0 = j by omega]
    exact r5 j h0 h1
  have m1 : ∀ a b, a ≠ d + 3 → M1 a b = M a b := fun a b h => by
    rw [hM1]; unfold jwR; rw [if_neg (fun z => h z.1)]
  have l5 := dln5 hd
  refine sq_ (seqG (x := d + 5) (y := 0) (fun Q => by simp only [xGr, xV, l0, drf4 hd]) (fun Q => rfl) ?_)
  refine pd_fill (by omega) (by omega) ?_
  generalize hM2 : (fun a b => if a = d + 5 ∧ 0 ≤ b ∧ b < s_len (d + 5) then (0 : Int) else M1 a b) = M2
  have m2 : ∀ a b, a ≠ d + 5 → M2 a b = M1 a b := fun a b h => by rw [← hM2]; exact if_neg (fun z => h z.1)
  have m25 : ∀ b, 0 ≤ b → b < 2 → M2 (d + 5) b = 0 := fun b h0 h1 => by rw [← hM2]; exact if_pos ⟨rfl, h0, by omega⟩
  have p1 : ∀ b, M2 1 b = M 1 b := fun b => by rw [m2 _ _ (by omega), m1 _ _ (by omega)]
  refine sq_ (pu (k := d) (v := P 114 1) (fun Q => by show Q (L 0) _ = _; rw [l0]) (fun Q => by show Q (M2 (L 1) 3) _ = _; rw [l1, p1, r1]) ?_)
  refine sq_ (pu (k := d) (v := P 114 5) (fun Q => by show Q (L 0) _ = _; rw [l0]) (fun Q => by show Q (jwr M2 d 5 (P 114 1) (L 1) 4) _ = _; rw [l1, jw0 (by omega), p1, r2]) ?_)
  refine sq_ (pu (k := d) (v := 0) (fun Q => by show Q (L 0) _ = _; rw [l0]) (fun Q => rfl) ?_)
  refine sq_ (pu (k := d) (v := 0) (fun Q => by show Q (L 0) _ = _; rw [l0]) (fun Q => rfl) ?_)
  refine sq_ (pu (k := d) (v := 0) (fun Q => by show Q (L 0) _ = _; rw [l0]) (fun Q => rfl) ?_)
  refine sq_ (pu (k := d) (v := 0) (fun Q => by show Q (L 0) _ = _; rw [l0]) (fun Q => rfl) ?_)
  refine sq_ (pu (k := d) (v := 0) (fun Q => by show Q (L 0) _ = _; rw [l0]) (fun Q => rfl) ?_)
  refine sq_ (pu (k := d) (v := 0) (fun Q => by show Q (L 0) _ = _; rw [l0]) (fun Q => rfl) ?_)
  refine sq_ (pu (k := d) (v := 0) (fun Q => by show Q (L 0) _ = _; rw [l0]) (fun Q => rfl) ?_)
  generalize hM3 : (jwr (jwr (jwr (jwr (jwr (jwr (jwr (jwr (jwr M2 d 5 (P 114 1)) d 6 (P 114 5)) d 7 0) d 8 0) d 9 0) d 12 0) d 13 0) d 14 0) d 15 0) = M3
  have m30 : ∀ a b, a ≠ d → M3 a b = M2 a b := fun a b h => by rw [← hM3, jw0 (by omega), jw0 (by omega), jw0 (by omega), jw0 (by omega), jw0 (by omega), jw0 (by omega), jw0 (by omega), jw0 (by omega), jw0 (by omega)]
  have z5 : M3 d 5 = P 114 1 := by rw [← hM3, jw0 (by omega), jw0 (by omega), jw0 (by omega), jw0 (by omega), jw0 (by omega), jw0 (by omega), jw0 (by omega), jw0 (by omega), jw1 ⟨rfl, rfl⟩]
  have z6 : M3 d 6 = P 114 5 := by rw [← hM3, jw0 (by omega), jw0 (by omega), jw0 (by omega), jw0 (by omega), jw0 (by omega), jw0 (by omega), jw0 (by omega), jw1 ⟨rfl, rfl⟩]
  have z7 : M3 d 7 = 0 := by rw [← hM3, jw0 (by omega), jw0 (by omega), jw0 (by omega), jw0 (by omega), jw0 (by omega), jw0 (by omega), jw1 ⟨rfl, rfl⟩]
  have z8 : M3 d 8 = 0 := by rw [← hM3, jw0 (by omega), jw0 (by omega), jw0 (by omega), jw0 (by omega), jw0 (by omega), jw1 ⟨rfl, rfl⟩]
  have z9 : M3 d 9 = 0 := by rw [← hM3, jw0 (by omega), jw0 (by omega), jw0 (by omega), jw0 (by omega), jw1 ⟨rfl, rfl⟩]
  have z12 : M3 d 12 = 0 := by rw [← hM3, jw0 (by omega), jw0 (by omega), jw0 (by omega), jw1 ⟨rfl, rfl⟩]
  have z13 : M3 d 13 = 0 := by rw [← hM3, jw0 (by omega), jw0 (by omega), jw1 ⟨rfl, rfl⟩]
  have z14 : M3 d 14 = 0 := by rw [← hM3, jw0 (by omega), jw1 ⟨rfl, rfl⟩]
  have z15 : M3 d 15 = 0 := by rw [← hM3, jw1 ⟨rfl, rfl⟩]
  refine sq_ (do3e (x0 := d) (x1 := P 114 3) (x2 := P 114 4) (fun Q => by show Q (L 0) _ = _; rw [l0]) (fun Q => ?_) (fun Q => ?_) ?_)
  · show Q (M3 (L 1) 5) M3 = _
    rw [l1, m30 _ _ (by omega), p1, r3]
  · show Q (M3 (L 1) 6) M3 = _
    rw [l1, m30 _ _ (by omega), p1, r4]
  rw [pd_turnAt]
  generalize hM4 : jwr (jwr M3 d 10 (P 114 3)) d 11 (P 114 4) = M4
  have m40 : ∀ a b, (a ≠ d ∨ (b ≠ 10 ∧ b ≠ 11)) → M4 a b = M3 a b := fun a b h => by rw [← hM4, jw0 (by omega), jw0 (by omega)]
  have y10 : M4 d 10 = P 114 3 := by rw [← hM4, jw0 (by omega), jw1 ⟨rfl, rfl⟩]
  have y11 : M4 d 11 = P 114 4 := by rw [← hM4, jw1 ⟨rfl, rfl⟩]
  have lo : ∀ a b, a ≤ 10 → M4 a b = M a b := fun a b h => by rw [m40 _ _ (.inl (by omega)), m30 _ _ (by omega), m2 _ _ (by omega), m1 _ _ (by omega)]
  have o4 : oFr d M M4 := fun a b h => by rw [m40 _ _ (.inl (by omega)), m30 _ _ (by omega), m2 _ _ (by omega), m1 _ _ (by omega)]
  have head : ∀ M5 : jMm, (∀ a b, (a = d + 3 ∨ a = d + 5 ∨ (a = d ∧ b ≠ 7)) → M5 a b = M4 a b) → pHd d M5 P (P 115 0) ∧ M5 d 10 = P 114 3 ∧ M5 d 11 = P 114 4 := fun M5 h => by
    have c : ∀ b, b ≠ 7 → b ≠ 10 → b ≠ 11 → M5 d b = M3 d b := fun b h1 h2 h3 => by rw [h _ _ (.inr (.inr ⟨rfl, h1⟩)), m40 _ _ (.inr ⟨h2, h3⟩)]
    have c3 : ∀ j, 0 ≤ j → j ≤ 6 → M5 (d + 3) j = P 115 j := fun j h0 h1 => by rw [h _ _ (.inl rfl), m40 _ _ (.inl (by omega)), m30 _ _ (by omega), m2 _ _ (by omega), m3 j h0 h1]
    have c5 : ∀ j, 0 ≤ j → j < 2 → M5 (d + 5) j = 0 := fun j h0 h1 => by rw [h _ _ (.inr (.inl rfl)), m40 _ _ (.inl (by omega)), m30 _ _ (by omega), m25 j h0 h1]
    refine ⟨⟨?_, ?_, ?_, ?_, ?_, ?_, ?_, ?_, c3 0 (by decide) (by decide), fun j j1 j2 => c3 j (by omega) j2, c5 0 (by decide) (by decide), c5 1 (by decide) (by decide)⟩, ?_, ?_⟩
    · rw [c 5 (by decide) (by decide) (by decide)]; exact z5
    · rw [c 6 (by decide) (by decide) (by decide)]; exact z6
    · rw [c 8 (by decide) (by decide) (by decide)]; exact z8
    · rw [c 9 (by decide) (by decide) (by decide)]; exact z9
    · rw [c 12 (by decide) (by decide) (by decide)]; exact z12
    · rw [c 13 (by decide) (by decide) (by decide)]; exact z13
    · rw [c 14 (by decide) (by decide) (by decide)]; exact z14
    · rw [c 15 (by decide) (by decide) (by decide)]; exact z15
    · rw [h _ _ (.inr (.inr ⟨rfl, by decide⟩))]; exact y10
    · rw [h _ _ (.inr (.inr ⟨rfl, by decide⟩))]; exact y11
  have e7 : M4 d 7 = 0 := by rw [m40 _ _ (.inr ⟨by decide, by decide⟩)]; exact z7
  clear hM4 hM3 hM2 hM1 m40 m30 m2 m1 m25 m3 y10 y11 z5 z6 z7 z8 z9 z12 z13 z14 z15 p1
  refine sq_cut (fun L' M5 => L' 0 = d ∧ L' 1 = 1 ∧ L' 2 = ab ∧ (∀ a b, (a < d + 20 ∨ d + 26 ≤ a) → M5 a b = M4 a b) ∧ ∀ s, 0 ≤ s → s < P 114 1 → pFl d M5 P (fun s => P 116 (3 * s + 1)) (fun s => P 116 (3 * s + 2)) s) (fun N1 hN1 => ?_) ?_
  · refine sq_ (st_c ?_)
    have ek : (((P 114 1).toNat : Nat) : Int) = P 114 1 := by omega
    refine up0 (P 114 1).toNat (fun j L' M5 => L' 0 = d ∧ L' 1 = 1 ∧ L' 2 = ab ∧ (∀ a b, (a < d + 20 ∨ d + 26 ≤ a) → M5 a b = M4 a b) ∧ ∀ s : Int, 0 ≤ s → s < j → pFl d M5 P (fun s => P 116 (3 * s + 1)) (fun s => P 116 (3 * s + 2)) s) rfl (by omega) ⟨l0, l1, l2, fun _ _ _ => rfl, fun s h0 h1 => by omega⟩ ?_ ?_ ?_
    · rintro j L' M5 Q' ⟨i0, -, -, hf, -⟩ hq'
      show Q' (M5 (L' 0) 5) M5
      rw [i0, hf _ _ (by omega), (head M4 (fun _ _ _ => rfl)).1.1, ← ek]; exact hq'
    · rintro j L' M5 N2 hj hi ⟨i0, i1, i2, hf, hs⟩ hN2
      have j0 : (0 : Int) ≤ j := by omega
      have j1 : (j : Int) < P 114 1 := by omega
      have j3 : (j : Int) < 3 := by omega
      have v := ps j j0 j1
      obtain ⟨w1, w2, w3⟩ := r6 j j0 j1
      have rd : ∀ a b, a ≤ 10 → M5 a b = M a b := fun a b h => by rw [hf _ _ (.inl (by omega)), lo _ _ h]
      refine do4e (x0 := d + 20 + 2 * j) (x1 := P 116 (3 * j)) (x2 := P 116 (3 * j + 1)) (x3 := P 116 (3 * j + 2)) (fun Q => ?_) (fun Q => ?_) (fun Q => ?_) (fun Q => ?_) ?_
      · simp only [xAr, xGr, xV, i0, hi, drf1 hd, dln2 hd, dfs hd j0 j3, j0, j3, true_and, and_self]
      · have i03 : (0 : Int) ≤ 0 ∧ (0 : Int) < 3 := by decide
        simp only [xAl, xAr, xGr, xV, xC, i1, hi, g1, g4, u2, u3, i03, j0, j3, rd 3 _ (by decide), w1, true_and, and_self]
      · have i03 : (0 : Int) ≤ 1 ∧ (1 : Int) < 3 := by decide
        simp only [xAl, xAr, xGr, xV, xC, i1, hi, g1, g5, u2, u4, i03, j0, j3, rd 4 _ (by decide), w2, true_and, and_self]
      · have i03 : (0 : Int) ≤ 2 ∧ (2 : Int) < 3 := by decide
        simp only [xAl, xAr, xGr, xV, xC, i1, hi, g1, g6, u2, u5, i03, j0, j3, rd 5 _ (by decide), w3, true_and, and_self]
      refine pd_begin1 hd j0 j3 v.1 v.2 (fun M6 h1 h2 h3 h4 h5 h6 h7 => hN2 _ _ hi ⟨i0, i1, i2, fun a b hab => ?_, fun s s0 s1 => ?_⟩)
      · rw [h1 _ _ (by omega) (by omega)]; exact hf a b hab
      · by_cases e : s = j
        · subst e; exact ⟨h2, h3, h4, h5, h6, h7⟩
        · have := hs s s0 (by omega)
          unfold pFl at this ⊢
          have ee : ∀ b, M6 (d + 20 + 2 * s) b = M5 (d + 20 + 2 * s) b := fun b => h1 _ _ (by omega) (by omega)
          have ef : ∀ b, M6 (d + 21 + 2 * s) b = M5 (d + 21 + 2 * s) b := fun b => h1 _ _ (by omega) (by omega)
          simp only [ee, ef]; exact this
    · rintro L' M5 hi ⟨i0, i1, i2, hf, hs⟩
      exact hN1 _ _ ⟨i0, i1, i2, hf, fun s s0 s1 => hs s s0 (by omega)⟩
  rintro L5 M5 ⟨i0, i1, i2, hf5, hs5⟩
  refine sq_ (sq_ (st_c ?_))
  have en : (((P 114 5).toNat : Nat) : Int) = P 114 5 := by omega
  refine up0 (P 114 5).toNat (fun j L' M6 => L' 0 = d ∧ L' 1 = 1 ∧ L' 2 = ab ∧ (∀ a b, (a < d + 4 ∨ a = d + 5 ∨ d + 20 ≤ a) → (a ≠ d ∨ b ≠ 7) → M6 a b = M5 a b) ∧ (∀ p : Int, 0 ≤ p → p < j → pRi d M6 P p) ∧ pLn d M6 P wo j (M6 d 7)) rfl (by omega) ⟨i0, i1, i2, fun _ _ _ _ => rfl, fun s h0 h1 => by omega, ?_⟩ ?_ ?_ ?_
  · have : M5 d 7 = 0 := by rw [hf5 _ _ (.inl (by omega))]; exact e7
    rw [this]
    exact ⟨⟨by decide, by decide⟩, fun i a b => by omega, fun i a b => by omega, fun i j a b c => by omega⟩
  · rintro j L' M6 Q' ⟨k0', -, -, hf, -⟩ hq'
    show Q' (M6 (L' 0) 6) M6
    rw [k0', hf _ _ (.inl (by omega)) (.inr (by decide)), hf5 _ _ (.inl (by omega)), (head M4 (fun _ _ _ => rfl)).1.2.1, ← en]; exact hq'
  · rintro j L' M6 N2 hj hi ⟨a0, a1, a2, hf, hp, hln⟩ hN2
    have j0 : (0 : Int) ≤ j := by omega
    have j1 : (j : Int) < P 114 5 := by omega
    have j14 : (j : Int) < 14 := by omega
    have v := pp j j0 j1
    obtain ⟨w1, w2, w3⟩ := r7 j j0 j1
    have rd : ∀ a b, a ≤ 10 → M6 a b = M a b := fun a b h => by rw [hf _ _ (.inl (by omega)) (.inl (by omega)), hf5 _ _ (.inl (by omega)), lo _ _ h]
    have ex : ((j + 1 : Nat) : Int) = (j : Int) + 1 := by omega
    refine sq_ (do4e (x0 := d + 6 + j) (x1 := P 117 (3 * j)) (x2 := P 117 (3 * j + 1)) (x3 := P 117 (3 * j + 2)) (fun Q => ?_) (fun Q => ?_) (fun Q => ?_) (fun Q => ?_) ?_)
    · simp only [xAr, xGr, xV, a0, hi, drf0 hd, dln1 hd, drr hd j0 j14, j0, j14, true_and, and_self]
    · have i03 : (0 : Int) ≤ 0 ∧ (0 : Int) < 3 := by decide
      simp only [xAl, xAr, xGr, xV, xC, a1, hi, g2, g7, u6, u7, i03, j0, j14, rd 7 _ (by decide), w1, true_and, and_self]
    · have i03 : (0 : Int) ≤ 1 ∧ (1 : Int) < 3 := by decide
      simp only [xAl, xAr, xGr, xV, xC, a1, hi, g2, g8, u6, u8, i03, j0, j14, rd 8 _ (by decide), w2, true_and, and_self]
    · have i03 : (0 : Int) ≤ 2 ∧ (2 : Int) < 3 := by decide
      simp only [xAl, xAr, xGr, xV, xC, a1, hi, g2, g9, u6, u9, i03, j0, j14, rd 9 _ (by decide), w3, true_and, and_self]
    refine pd_begin3 v.2.2.2.2.1 v.2.2.2.2.2 rfl rfl rfl (fun M7 h1 h2 => ?_)
    have hln7 : pLn d M7 P wo j (M7 d 7) := by
      rw [h1 d 7 (by omega)]
      unfold pLn at hln ⊢
      have : ∀ b, M7 (d + 4) b = M6 (d + 4) b := fun b => h1 _ _ (by omega)
      simp only [this]; exact hln
    have hp7 : ∀ p : Int, 0 ≤ p → p < (j : Int) + 1 → pRi d M7 P p := fun p p0 p1 => by
      by_cases e : p = j
      · rw [e]; exact h2
      · have := hp p p0 (by omega)
        unfold pRi at this ⊢
        have ee : ∀ b, M7 (d + 6 + p) b = M6 (d + 6 + p) b := fun b => h1 _ _ (by omega)
        simp only [ee]; exact this
    have hf7 : ∀ a b, (a < d + 4 ∨ a = d + 5 ∨ d + 20 ≤ a) → (a ≠ d ∨ b ≠ 7) → M7 a b = M5 a b := fun a b ha hb => by rw [h1 _ _ (by omega)]; exact hf a b ha hb
    refine if_pc ((j : Int) ≠ ab) (fun T F => ?_) (fun c => ?_) (fun c => ?_)
    · simp only [kR, xV, hi, a2]
    · refine do2 ?_
      rw [a0, hi]
      refine pd_lineUp hd j0 j14 rfl hln7 (fun q q0 q1 => (hp7 q q0 (by omega)).1) (fun z => c ((hab _ j0).mpr z)) (fun M8 h8 h87 h8l => hN2 _ _ hi ⟨a0, a1, a2, fun a b ha hb => ?_, fun p p0 p1 => ?_, ?_⟩)
      · rw [h8 _ _ (by omega) hb]; exact hf7 a b ha hb
      · have := hp7 p p0 (by omega)
        unfold pRi at this ⊢
        have ee : ∀ b, M8 (d + 6 + p) b = M7 (d + 6 + p) b := fun b => h8 _ _ (by omega) (.inl (by omega))
        simp only [ee]; exact this
      · rw [h87, ex]; exact h8l
    · have cj : (j : Int) = wo := (hab _ j0).mp (Classical.not_not.mp c)
      refine hN2 _ _ hi ⟨a0, a1, a2, hf7, fun p p0 p1 => hp7 p p0 (by omega), ?_⟩
      rw [ex]
      obtain ⟨⟨b1, b2⟩, b3, b4, b5⟩ := hln7
      refine ⟨⟨b1, by omega⟩, fun i i0 i1 => ?_, fun p p0 p1 pw => ?_, b5⟩
      · have := b3 i i0 i1
        exact ⟨this.1, by omega, this.2.2⟩
      · exact b4 p p0 (by omega) pw
  · rintro L' M6 hi ⟨a0, a1, a2, hf, hp, hln⟩
    rw [en] at hln
    obtain ⟨h1, h2, h3⟩ := head M6 (fun a b hab => by
      rw [hf _ _ (by omega) (by omega), hf5 _ _ (.inl (by omega))])
    refine hq M6 ⟨h1, fun s s0 s1 => ?_, fun p p0 p1 => hp p p0 (by omega), hln⟩ h2 h3 (fun a b hab => ?_)
    · have := hs5 s s0 s1
      unfold pFl at this ⊢
      have ee : ∀ b, M6 (d + 20 + 2 * s) b = M5 (d + 20 + 2 * s) b := fun b => hf _ _ (.inr (.inr (by omega))) (.inl (by omega))
      have ef : ∀ b, M6 (d + 21 + 2 * s) b = M5 (d + 21 + 2 * s) b := fun b => hf _ _ (.inr (.inr (by omega))) (.inl (by omega))
      simp only [ee, ef]; exact this
    · rw [hf _ _ (by omega) (.inl (by omega)), hf5 _ _ (by omega)]
      exact o4 a b hab
