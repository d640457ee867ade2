/-! the program: the change -/
def wy (w s : Int) : Int := w / s_sv 7 s % 3
theorem sv7 : s_sv 7 0 = 1 ∧ s_sv 7 1 = 3 ∧ s_sv 7 2 = 9 ∧ s_sv 7 3 = 27 ∧ s_slen 7 = 4 := by decide +kernel
theorem wy_r {w s : Int} : 0 ≤ wy w s ∧ wy w s ≤ 2 := by unfold wy; omega
theorem pd_wayOf {w s : Int} {M : jMm} {Q : Int → jMm → Prop} (hw : 0 ≤ w) (s0 : 0 ≤ s) (s1 : s < 3) : f_X6_wayOf [w, s] M Q = Q (wy w s) M := by
  unfold f_X6_wayOf
  obtain ⟨e0, e1, e2, -, e4⟩ := sv7
  have hb : bt 0 s 2 = 1 := by unfold bt; rw [if_pos (by omega)]
  have s4 : s < 4 := by omega
  have hp : 0 < s_sv 7 s := by
    obtain rfl | rfl | rfl : s = 0 ∨ s = 1 ∨ s = 2 := by omega
    · rw [e0]; decide
    · rw [e1]; decide
    · rw [e2]; decide
  have hd : 0 ≤ w / s_sv 7 s := Int.ediv_nonneg hw (by omega)
  apply propext
  simp [jMeth, jIn, jup, tSeq, tIf, tSkip, tSet, tInc, tPut, tPutZ, tPutO, tAst, tAstO, tDo, tRet, tRetZ, tRet0, kAnd, kOr, kNot, kZ, kR, xV, xC, xGf, xGr, xAl, xAr, xSt, xLen, xBin, xUn, xNeg, xTern, xCall, xsC, xsN, boAdd, boSub, boMul, boDiv, boRem, boMax, boMin, boOr, boAnd, boShl, boShr, q_X6_isBetween, hb, s0, s4, e4, hw, hp, hd, wy]
theorem pd_fill {k v : Int} {M : jMm} {Q : Int → jMm → Prop} (h0 : 0 ≤ s_len k) (h1 : s_len k ≤ 1000) (hq : Q 0 (fun a b => if a = k ∧ 0 ≤ b ∧ b < s_len k then v else M a b)) : f_J_fill [k, v] M Q := by
  unfold f_J_fill
  refine mt_ (sq_ (st_c (sq_ (st_v (v := s_len k) (fun Q => by simp [xLen, xV, jIn, jup]) (sq_ ?_)))))
  have el : (((s_len k).toNat : Nat) : Int) = s_len k := by omega
  refine up0 (s_len k).toNat (fun j L M' => L 0 = k ∧ L 1 = v ∧ L 3 = s_len k ∧ M' = fun a b => if a = k ∧ 0 ≤ b ∧ b < (j : Int) then v else M a b) rfl (by omega) ⟨rfl, rfl, rfl, ?_⟩ ?_ ?_ ?_
  · funext a b
    rw [if_neg (by omega)]
  · rintro j L M' Q ⟨-, -, l3, -⟩ hq
    show Q (L 3) M'
    rw [l3, ← el]; exact hq
  · rintro j L M' N1 hj hi ⟨l0, l1, l3, hM⟩ hN
    simp only [tAst, xV, l0, l1, hi]
    refine ⟨⟨by omega, by omega⟩, hN _ _ hi ⟨l0, l1, l3, ?_⟩⟩
    rw [hM]
    funext a b
    unfold jwr
    by_cases c : a = k ∧ b = (j : Int)
    · rw [if_pos c, if_pos (by omega)]
    · rw [if_neg c]
      show (if a = k ∧ 0 ≤ b ∧ b < (j : Int) then v else M a b) = _
      by_cases c2 : a = k ∧ 0 ≤ b ∧ b < (j : Int)
      · rw [if_pos c2, if_pos (by omega)]
      · rw [if_neg c2, if_neg (by omega)]
  · rintro L M' hi ⟨-, -, -, hM⟩
    rw [el] at hM
    rw [hM]; exact hq
def mThr (d s t j : Int) (g M : jMm) : jMm := fun a b => if (b = 4 ∨ b = 9) ∧ d + 6 ≤ a ∧ a < d + 6 + j ∧ gOn g (a - (d + 6)) s then (if b = 4 then 3 else t) else M a b
theorem pd_letAll {d s t : Int} {M g : jMm} {Q : Int → jMm → Prop} (hd : isDay d) (hn0 : 0 ≤ g 114 5) (hn : g 114 5 ≤ 14) (s0 : 0 ≤ s) (s1 : s < 3) (e6 : M d 6 = g 114 5) (hp : ∀ p, 0 ≤ p → p < g 114 5 → (M (d + 6 + p) 4 = 2 ↔ g 123 p = 2) ∧ (g 123 p = 2 → M (d + 6 + p) 5 = g 125 p))
    (hq : ∀ M', (∀ a b, a ≠ d + 21 + 2 * s → (a ≠ d + 20 + 2 * s ∨ b ≠ 5) → M' a b = mThr d s t (g 114 5) g M a b) → (∀ b, 0 ≤ b → b < 20 → M' (d + 21 + 2 * s) b = -1) → M' (d + 20 + 2 * s) 5 = 0 → Q 0 M') : f_X0_letAllThrough [d, s, t] M Q := by
  unfold f_X0_letAllThrough
  have en := gN_eq hn0
  refine mt_ (sq_cut (fun L M' => L 0 = d ∧ L 1 = s ∧ M' = mThr d s t (g 114 5) g M) (fun N1 hN1 => ?_) ?_)
  · refine sq_ (st_c ?_)
    refine up0 (gN g) (fun j L M' => L 0 = d ∧ L 1 = s ∧ L 2 = t ∧ M' = mThr d s t j g M) rfl (by omega) ⟨rfl, rfl, rfl, ?_⟩ ?_ ?_ ?_
    · funext a b
      unfold mThr
      rw [if_neg (by omega)]
    · rintro j L M' Q ⟨l0, -, -, rfl⟩ hq
      show Q (mThr d s t j g M (L 0) 6) _
      have : mThr d s t j g M (L 0) 6 = M d 6 := by rw [l0]; unfold mThr; rw [if_neg (by omega)]
      rw [this, e6, ← en]; exact hq
    · rintro j L M' N2 hj hi ⟨l0, l1, l2, hM⟩ hN
      have p1 : (j : Int) < g 114 5 := by omega
      have j0 : (0 : Int) ≤ j := by omega
      have j14 : (j : Int) < 14 := by omega
      obtain ⟨q2, q3⟩ := hp j j0 p1
      have rd : ∀ b, M' (d + 6 + j) b = M (d + 6 + j) b := fun b => by rw [hM]; unfold mThr; rw [if_neg (by omega)]
      have ej : d + 6 + (j : Int) - (d + 6) = j := by omega
      have ex : ((j + 1 : Nat) : Int) = (j : Int) + 1 := by omega
      refine if_pc (gOn g j s) (fun T F => propext ?_) (fun c => ?_) (fun c => ?_)
      · by_cases c1 : g 123 j = 2
        · have e1 := q2.mpr c1
          have e2 := q3 c1
          by_cases c2 : g 125 j = s <;> simp [kAnd, kR, xV, xC, xGf, xAr, xGr, l0, l1, hi, drf0 hd, dln1 hd, drr hd j0 j14, j14, rd, e1, e2, gOn, c1, c2]
        · have e1 : ¬ M (d + 6 + j) 4 = 2 := fun z => c1 (q2.mp z)
          simp [kAnd, kR, xV, xC, xGf, xAr, xGr, l0, l1, hi, drf0 hd, dln1 hd, drr hd j0 j14, j14, rd, e1, gOn, c1]
      · refine seqG (x := d + 6 + j) (y := t) (fun Q => ?_) (fun Q => ?_) ?_
        · simp [xAr, xGr, xV, l0, hi, drf0 hd, dln1 hd, drr hd j0 j14, j14]
        · simp [xV, l2]
        rw [pd_goThrough]
        refine hN _ _ hi ⟨l0, l1, l2, ?_⟩
        rw [ex, hM]
        funext a b
        by_cases ca : a = d + 6 + j
        · subst ca
          by_cases b10 : b = 9
          · subst b10
            rw [jw1 ⟨rfl, rfl⟩]
            unfold mThr
            rw [ej, if_pos ⟨.inr rfl, by omega, by omega, c⟩]; rfl
          · by_cases b2 : b = 4
            · subst b2
              rw [jw0 (by omega), jw1 ⟨rfl, rfl⟩]
              unfold mThr
              rw [ej, if_pos ⟨.inl rfl, by omega, by omega, c⟩]; rfl
            · rw [jw0 (by omega), jw0 (by omega)]
              unfold mThr
              rw [if_neg (by omega), if_neg (by omega)]
        · rw [jw0 (by omega), jw0 (by omega)]
          unfold mThr
          by_cases z : (b = 4 ∨ b = 9) ∧ d + 6 ≤ a ∧ a < d + 6 + (j : Int) ∧ gOn g (a - (d + 6)) s
          · have z2 : (b = 4 ∨ b = 9) ∧ d + 6 ≤ a ∧ a < d + 6 + ((j : Int) + 1) ∧ gOn g (a - (d + 6)) s := ⟨z.1, z.2.1, by omega, z.2.2.2⟩
            rw [if_pos z, if_pos z2]
          · rw [if_neg z, if_neg (fun w => z ⟨w.1, w.2.1, by omega, w.2.2.2⟩)]
      · refine hN _ _ hi ⟨l0, l1, l2, ?_⟩
        rw [ex, hM]
        funext a b
        unfold mThr
        by_cases z : (b = 4 ∨ b = 9) ∧ d + 6 ≤ a ∧ a < d + 6 + (j : Int) ∧ gOn g (a - (d + 6)) s
        · have z2 : (b = 4 ∨ b = 9) ∧ d + 6 ≤ a ∧ a < d + 6 + ((j : Int) + 1) ∧ gOn g (a - (d + 6)) s := ⟨z.1, z.2.1, by omega, z.2.2.2⟩
          rw [if_pos z, if_pos z2]
        · rw [if_neg z, if_neg (fun w => ?_)]
          by_cases ca : a = d + 6 + j
          · subst ca
            rw [ej] at w
            exact c w.2.2.2
          · exact z ⟨w.1, w.2.1, by omega, w.2.2.2⟩
    · rintro L M' hi ⟨l0, l1, -, rfl⟩
      rw [en]
      exact hN1 L _ ⟨l0, l1, rfl⟩
  rintro L M1 ⟨l0, l1, rfl⟩
  have hlen : s_len (d + 21 + 2 * s) = 20 := dfl hd s0 s1
  have hsp : s_rf (d + 20 + 2 * s) 0 = d + 21 + 2 * s := dfp hd s0 s1
  have emp : ∀ (M : jMm) (K : Int → jMm → Prop), (∀ M', (∀ a b, a ≠ d + 21 + 2 * s → (a ≠ d + 20 + 2 * s ∨ b ≠ 5) → M' a b = M a b) → (∀ b, 0 ≤ b → b < 20 → M' (d + 21 + 2 * s) b = -1) → M' (d + 20 + 2 * s) 5 = 0 → K 0 M') → f_X1_empty [d + 20 + 2 * s] M K := fun M K hK => by
    unfold f_X1_empty
    refine mt_ (sq_ (seqG (x := d + 21 + 2 * s) (y := -1) (fun Q => ?_) (fun Q => rfl) ?_))
    · simp [xGr, xV, jIn, hsp]
    refine pd_fill (by omega) (by omega) (hK _ (fun a b h1 h2 => ?_) (fun b b0 b1 => ?_) ?_)
    · show jwr _ (d + 20 + 2 * s) 5 0 a b = _
      rw [jw0 h2, if_neg (fun z => h1 z.1)]
    · show jwr _ (d + 20 + 2 * s) 5 0 (d + 21 + 2 * s) b = _
      rw [jw0 (by omega), if_pos ⟨rfl, b0, by omega⟩]
    · show jwr _ (d + 20 + 2 * s) 5 0 (d + 20 + 2 * s) 5 = _
      rw [jw1 ⟨rfl, rfl⟩]
  show tDo f_X1_empty (xsC (xAr (xGr (xV 0) 1) (xV 1)) (xsN)) L _ _ _
  have dog : ∀ (f : jMd) (N : jLo → jMm → Prop) (R : Int → jMm → Prop) M, f [d + 20 + 2 * s] M (fun _ M1 => N L M1) → tDo f (xsC (xAr (xGr (xV 0) 1) (xV 1)) (xsN)) L M N R := fun f N R M h => by
    simp only [tDo, xsC, xsN, xAr, xGr, xV, l0, l1, drf1 hd, dln2 hd, dfs hd s0 s1, s0, s1, true_and, and_self]
    exact h
  exact dog _ _ _ _ (emp _ _ hq)
theorem pd_turnRound {d s len : Int} {M : jMm} {Q : Int → jMm → Prop} (hd : isDay d) (s0 : 0 ≤ s) (s1 : s < 3) (hl : M (d + 20 + 2 * s) 1 = len) (l1 : 1 ≤ len) (l10 : len ≤ 10) (hq : ∀ M', (∀ a b, a ≠ d + 21 + 2 * s → M' a b = M a b) → (∀ x y, 0 ≤ x → x < len → 0 ≤ y → y ≤ 1 → M' (d + 21 + 2 * s) (2 * x + y) = M (d + 21 + 2 * s) (2 * (len - 1 - x) + y)) → Q 0 M') : f_X1_turnRound [d + 20 + 2 * s] M Q := by
  unfold f_X1_turnRound
  refine mt_ (sq_ (sq_ (sq_ (st_c (st_v (v := len - 1) (fun Q => ?_) ?_)))))
  · have i1 : ir (len - 1) := ⟨by omega, by omega⟩
    simp only [xBin, boSub, xGf, xV, xC, jIn, jup, hl, i1, true_and, reduceIte, Nat.reduceEqDiff]
  refine wh_rule (fun m L M1 => L 0 = d + 20 + 2 * s ∧ 0 ≤ L 1 ∧ L 1 + L 2 = len - 1 ∧ m = (L 2 + 1 - L 1).toNat ∧ L 1 ≤ L 2 + 1 ∧ (∀ a b, a ≠ d + 21 + 2 * s → M1 a b = M a b) ∧ ∀ x y, 0 ≤ x → x < len → 0 ≤ y → y ≤ 1 → M1 (d + 21 + 2 * s) (2 * x + y) = if x < L 1 ∨ L 2 < x then M (d + 21 + 2 * s) (2 * (len - 1 - x) + y) else M (d + 21 + 2 * s) (2 * x + y)) ?_ (k := len.toNat) ⟨rfl, by show (0 : Int) ≤ 0; decide, by show (0 : Int) + (len - 1) = _; omega, by show len.toNat = (len - 1 + 1 - 0).toNat; omega, by show (0 : Int) ≤ len - 1 + 1; omega, fun _ _ _ => rfl, fun x y x0 x1 _ _ => by rw [if_neg]; show ¬ (x < 0 ∨ len - 1 < x); omega⟩
  rintro m L M1 ⟨l0, la, lb, lm, lc, hf, hx⟩ N' hN'
  refine ⟨fun hc => ?_, fun hc => ?_⟩
  · have hc : L 1 < L 2 := hc
    have len1 : M1 (d + 20 + 2 * s) 1 = len := by rw [hf _ _ (by omega)]; exact hl
    refine sq_cut (fun L' M2 => L' 0 = d + 20 + 2 * s ∧ L' 1 = L 1 ∧ L' 2 = L 2 ∧ (∀ a b, a ≠ d + 21 + 2 * s → M2 a b = M a b) ∧ ∀ x y, 0 ≤ x → x < len → 0 ≤ y → y ≤ 1 → M2 (d + 21 + 2 * s) (2 * x + y) = if x = L 1 then M1 (d + 21 + 2 * s) (2 * L 2 + y) else if x = L 2 then M1 (d + 21 + 2 * s) (2 * L 1 + y) else M1 (d + 21 + 2 * s) (2 * x + y)) (fun N1 hN1 => ?_) ?_
    · refine sq_ (st_c ?_)
      refine le_rule 1 0 (fun k L' M2 => L' 0 = d + 20 + 2 * s ∧ L' 1 = L 1 ∧ L' 2 = L 2 ∧ (∀ a b, a ≠ d + 21 + 2 * s → M2 a b = M a b) ∧ ∀ x y, 0 ≤ x → x < len → 0 ≤ y → y ≤ 1 → M2 (d + 21 + 2 * s) (2 * x + y) = if x = L 1 ∧ y < k then M1 (d + 21 + 2 * s) (2 * L 2 + y) else if x = L 2 ∧ y < k then M1 (d + 21 + 2 * s) (2 * L 1 + y) else M1 (d + 21 + 2 * s) (2 * x + y)) rfl (by decide) (by decide) (by decide) ⟨l0, rfl, rfl, hf, fun x y _ _ y0 _ => by rw [if_neg (by omega), if_neg (by omega)]⟩ (fun _ _ _ _ _ h => h) ?_ ?_
      · rintro k L' M2 N2 k0 k1 hi ⟨i0, i1, i2, hf2, hx2⟩ hN2
        have len2 : M2 (d + 20 + 2 * s) 1 = len := by rw [hf2 _ _ (by omega)]; exact hl
        have w1 : ∀ Q, f_X1_who [d + 20 + 2 * s, L 1, k] M2 Q = Q (M1 (d + 21 + 2 * s) (2 * L 1 + k)) M2 := fun Q => by
          rw [pd_who hd s0 s1 (by omega), if_pos (by omega), hx2 _ _ la (by omega) k0 k1, if_neg (by omega), if_neg (by omega)]
        have w2 : ∀ Q, f_X1_who [d + 20 + 2 * s, L 2, k] M2 Q = Q (M1 (d + 21 + 2 * s) (2 * L 2 + k)) M2 := fun Q => by
          rw [pd_who hd s0 s1 (by omega), if_pos (by omega), hx2 _ _ (by omega) (by omega) k0 k1, if_neg (by omega), if_neg (by omega)]
        have p1 : ∀ (v : Int) Q, f_X1_put [d + 20 + 2 * s, L 1, k, v] M2 Q = Q 0 (jwr M2 (d + 21 + 2 * s) (2 * L 1 + k) v) := fun v Q => pd_put hd s0 s1 (by omega) la (by omega) k0 k1
        have p2 : ∀ (u v : Int) Q, f_X1_put [d + 20 + 2 * s, L 2, k, v] (jwr M2 (d + 21 + 2 * s) (2 * L 1 + k) u) Q = Q 0 (jwr (jwr M2 (d + 21 + 2 * s) (2 * L 1 + k) u) (d + 21 + 2 * s) (2 * L 2 + k) v) := fun u v Q => pd_put hd s0 s1 (by rw [jw0 (by omega)]; omega) (by omega) (by rw [jw0 (by omega)]; omega) k0 k1
        simp only [tSeq, tSet, tDo, xCall, xsC, xsN, xV, jup, i0, i1, i2, hi, w1, w2, p1, p2, reduceIte, Nat.reduceEqDiff]
        refine hN2 _ _ hi ⟨i0, i1, i2, fun a b hab => ?_, fun x y x0 x1 y0 y1 => ?_⟩
        · rw [jw0 (by omega), jw0 (by omega)]; exact hf2 a b hab
        · by_cases cy : y = k
          · subst cy
            by_cases c1 : x = L 1
            · subst c1
              rw [jw0 (by omega), jw1 ⟨rfl, rfl⟩, if_pos (by omega)]
            · by_cases c2 : x = L 2
              · subst c2
                rw [jw1 ⟨rfl, rfl⟩, if_neg (by omega), if_pos (by omega)]
              · rw [jw0 (by omega), jw0 (by omega), hx2 x y x0 x1 y0 y1, if_neg (by omega), if_neg (by omega), if_neg (by omega), if_neg (by omega)]
          · rw [jw0 (by omega), jw0 (by omega), hx2 x y x0 x1 y0 y1]
            by_cases c1 : x = L 1 ∧ y < k
            · rw [if_pos c1, if_pos (by omega)]
            · by_cases c2 : x = L 2 ∧ y < k
              · rw [if_neg c1, if_pos c2, if_neg (by omega), if_pos (by omega)]
              · rw [if_neg c1, if_neg c2, if_neg (by omega), if_neg (by omega)]
      · rintro L' M2 hi ⟨i0, i1, i2, hf2, hx2⟩
        refine hN1 _ _ ⟨i0, i1, i2, hf2, fun x y x0 x1 y0 y1 => ?_⟩
        rw [hx2 x y x0 x1 y0 y1]
        by_cases c1 : x = L 1
        · rw [if_pos ⟨c1, by omega⟩, if_pos c1]
        · by_cases c2 : x = L 2
          · rw [if_neg (fun z => c1 z.1), if_pos ⟨c2, by omega⟩, if_neg c1, if_pos c2]
          · rw [if_neg (fun z => c1 z.1), if_neg (fun z => c2 z.1), if_neg c1, if_neg c2]
    · rintro L' M2 ⟨i0, i1, i2, hf2, hx2⟩
      refine ⟨⟨by rw [i1]; omega, by rw [i1]; omega⟩, ?_⟩
      have e2 : jup L' 1 (L' 1 + 1) 2 = L 2 := i2
      refine ⟨⟨by rw [e2]; omega, by rw [e2]; omega⟩, hN' (L 2 + 1 - L 1 - 2).toNat _ M2 (by omega) ⟨i0, ?_, ?_, ?_, ?_, hf2, fun x y x0 x1 y0 y1 => ?_⟩⟩
      · show 0 ≤ L' 1 + 1; omega
      · show L' 1 + 1 + (L' 2 + -1) = len - 1; omega
      · show _ = (L' 2 + -1 + 1 - (L' 1 + 1)).toNat
        rw [i1, i2]; omega
      · show L' 1 + 1 ≤ L' 2 + -1 + 1; omega
      · show _ = if x < L' 1 + 1 ∨ L' 2 + -1 < x then _ else _
        rw [i1, i2, hx2 x y x0 x1 y0 y1]
        by_cases c1 : x = L 1
        · subst c1
          rw [if_pos rfl, if_pos (by omega), hx _ _ (by omega) (by omega) y0 y1, if_neg (by omega)]
          have : len - 1 - L 1 = L 2 := by omega
          rw [this]
        · by_cases c2 : x = L 2
          · subst c2
            rw [if_neg c1, if_pos rfl, if_pos (by omega), hx _ _ (by omega) (by omega) y0 y1, if_neg (by omega)]
            have : len - 1 - L 2 = L 1 := by omega
            rw [this]
          · rw [if_neg c1, if_neg c2, hx _ _ x0 x1 y0 y1]
            by_cases c3 : x < L 1 ∨ L 2 < x
            · rw [if_pos c3, if_pos (by omega)]
            · rw [if_neg c3, if_neg (by omega)]
  · have hc : ¬ L 1 < L 2 := hc
    refine hq _ hf (fun x y x0 x1 y0 y1 => ?_)
    rw [hx x y x0 x1 y0 y1]
    by_cases c : x < L 1 ∨ L 2 < x
    · rw [if_pos c]
    · rw [if_neg c]
      have : len - 1 - x = x := by omega
      rw [this]
