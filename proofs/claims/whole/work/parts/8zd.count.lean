/-! pairs: count -/
def gUps (P : jMm) (m : Nat) : Int := sm (fun p => if P 117 (3 * p + 1) = 0 then 1 else 0) m
theorem ups_b {P : jMm} {m : Nat} (h : m ≤ 14) : 0 ≤ gUps P m ∧ gUps P m ≤ 14 := by
  have a : 0 ≤ gUps P m := sm_nonneg _ (fun p _ _ => by split <;> omega)
  have b : gUps P m ≤ 1 * m := sm_le 1 _ (fun p _ _ => by split <;> omega)
  omega
def cntA (P : jMm) (w : Int) : Int := if w = 0 then P 114 1 else if w = 1 then P 114 5 else if w = 2 then gUps P (P 114 5).toNat else -1
theorem qa_count {w : Int} {M : jMm} {Q : Int → jMm → Prop} (n0 : 0 ≤ M 114 5) (n14 : M 114 5 ≤ 14) (hq : Q (cntA M w) M) : f_X7_count [114, w] M Q := by
  unfold f_X7_count
  have en : (((M 114 5).toNat : Nat) : Int) = M 114 5 := by omega
  refine mt_ (sq_ (st_c (sq_ (sq_ (st_c ?_)))))
  refine up0 (M 114 5).toNat (fun j L M1 => M1 = M ∧ L 0 = 114 ∧ L 1 = w ∧ L 2 = gUps M j) rfl (by omega) ⟨rfl, rfl, rfl, rfl⟩ ?_ ?_ ?_
  · rintro j L M1 Q1 ⟨rfl, l0, -, -⟩ hQ
    show Q1 (M1 (L 0) 5) M1
    rw [l0, ← en]; exact hQ
  · rintro j L M1 N1 hj hi ⟨rfl, l0, l1, l2⟩ hN
    have ub := ups_b (P := M1) (m := j) (by omega)
    have i1 : ir (3 * (j : Int)) := ⟨by omega, by omega⟩
    have i2 : ir (3 * (j : Int) + 1) := ⟨by omega, by omega⟩
    have j1 : 0 ≤ 3 * (j : Int) + 1 ∧ 3 * (j : Int) + 1 < 42 := by omega
    have i3 : ir (gUps M1 j + 1) := ⟨by omega, by omega⟩
    have i4 : ir (gUps M1 j) := ⟨by omega, by omega⟩
    refine st_v (v := gUps M1 (j + 1)) (fun Q => propext ?_) (hN _ _ hi ⟨rfl, l0, l1, rfl⟩)
    have e : gUps M1 (j + 1) = gUps M1 j + (if M1 117 (3 * (j : Int) + 1) = 0 then 1 else 0) := rfl
    by_cases c : M1 117 (3 * (j : Int) + 1) = 0
    · rw [if_pos c] at e
      rw [e]
      simp [xBin, boAdd, boMul, xTern, kZ, xAl, xGr, xV, xC, l0, l2, hi, mrf6, mln117, i1, i2, i3, j1, c]
    · rw [if_neg c] at e
      rw [e]
      simp [xBin, boAdd, boMul, xTern, kZ, xAl, xGr, xV, xC, l0, l2, hi, mrf6, mln117, i1, i2, i4, j1, c]
  · rintro L M1 - ⟨rfl, l0, l1, l2⟩
    unfold cntA at hq
    refine rt_ ?_
    by_cases c0 : w = 0
    · rw [if_pos c0] at hq
      simp [xTern, kZ, kR, xGf, xV, xC, l0, l1, c0]; exact hq
    · rw [if_neg c0] at hq
      by_cases c1 : w = 1
      · rw [if_pos c1] at hq
        simp [xTern, kZ, kR, xGf, xV, xC, l0, l1, c1]; exact hq
      · rw [if_neg c1] at hq
        by_cases c2 : w = 2
        · rw [if_pos c2] at hq
          simp [xTern, kZ, kR, xGf, xV, xC, l1, l2, c2]; exact hq
        · rw [if_neg c2] at hq
          simp [xTern, kZ, kR, xGf, xV, xC, l1, c0, c1, c2]; exact hq
theorem q_countUp {M : jMm} {Q : Int → jMm → Prop} (pl : iPl M) (rl : pRel M M) : f_X2_countUp [1] M Q = Q (gUps M (M 114 5).toNat) M := by
  refine dt_eq dt_f_X2_countUp (fun Q hq => ?_) Q
  unfold f_X2_countUp
  have n0 := pl.1.1.2.2.1
  have n14 := pl.1.1.2.2.2
  obtain ⟨r1, r2, r3, r4, r5, r6, r7⟩ := rl
  obtain ⟨g1, g2, g3, g4, g5, g6, g7, g8, g9⟩ := prf1
  obtain ⟨u2, u3, u4, u5, u6, u7, u8, u9, u10⟩ := pln1
  have en : (((M 114 5).toNat : Nat) : Int) = M 114 5 := by omega
  refine mt_ (sq_ (st_c (sq_ (sq_ (st_c ?_)))))
  refine up0 (M 114 5).toNat (fun j L M1 => M1 = M ∧ L 0 = 1 ∧ L 1 = gUps M j) rfl (by omega) ⟨rfl, rfl, rfl⟩ ?_ ?_ ?_
  · rintro j L M1 Q1 ⟨rfl, l0, -⟩ hQ
    show Q1 (M1 (L 0) 4) M1
    rw [l0, r2, ← en]; exact hQ
  · rintro j L M1 N1 hj hi ⟨rfl, l0, l1⟩ hN
    have ub := ups_b (P := M1) (m := j) (by omega)
    have j0 : (0 : Int) ≤ j := by omega
    have j14 : (j : Int) < 14 := by omega
    have i3 : ir (gUps M1 j + 1) := ⟨by omega, by omega⟩
    have i4 : ir (gUps M1 j) := ⟨by omega, by omega⟩
    have q8 := (r7 j j0 (by omega)).2.1
    refine st_v (v := gUps M1 (j + 1)) (fun Q => propext ?_) (hN _ _ hi ⟨rfl, l0, rfl⟩)
    have e : gUps M1 (j + 1) = gUps M1 j + (if M1 117 (3 * (j : Int) + 1) = 0 then 1 else 0) := rfl
    by_cases c : M1 117 (3 * (j : Int) + 1) = 0
    · rw [if_pos c] at e
      rw [e]
      simp [xBin, boAdd, xTern, kZ, xAl, xAr, xGr, xV, xC, l0, l1, hi, g2, g8, u6, u8, q8, i3, j0, j14, c]
    · rw [if_neg c] at e
      rw [e]
      simp [xBin, boAdd, xTern, kZ, xAl, xAr, xGr, xV, xC, l0, l1, hi, g2, g8, u6, u8, q8, i4, j0, j14, c]
  · rintro L M1 - ⟨rfl, l0, l1⟩
    show Q (L 1) M1
    rw [l1]; exact hq
theorem y_count {w : Int} : yPair Inv f_X6_count f_X7_count [w] := by
  intro M Q I hq
  unfold f_X6_count
  obtain ⟨⟨pl, rl⟩, -⟩ := id I
  have n0 := pl.1.1.2.2.1
  have n14 := pl.1.1.2.2.2
  have fin : ∀ v, v = cntA M w → f_X7_count [114, w] M (fun b M2 => Q v b M2) := fun v hv => qa_count n0 n14 (by rw [hv]; exact hq _ _ I)
  unfold cntA at fin
  have r1 := rl.1
  have r2 := rl.2.1
  generalize f_X7_count = X7 at *
  refine mt_ (sw_ (v := w) (fun Q => rfl) ?_)
  by_cases c0 : w = 0
  · simp only [if_pos c0] at fin
    refine swY c0 (rt_ ?_)
    show X7 [114, w] M (fun b M2 => Q (M (s_rf 0 0) 3) b M2)
    exact fin _ (by rw [rf_0_0]; exact r1)
  · simp only [if_neg c0] at fin
    refine swN c0 ?_
    by_cases c1 : w = 1
    · simp only [if_pos c1] at fin
      refine swY c1 (rt_ ?_)
      show X7 [114, w] M (fun b M2 => Q (M (s_rf 0 0) 4) b M2)
      exact fin _ (by rw [rf_0_0]; exact r2)
    · simp only [if_neg c1] at fin
      refine swN c1 ?_
      by_cases c2 : w = 2
      · simp only [if_pos c2] at fin
        refine swY c2 (rt_ ?_)
        show f_X2_countUp [s_rf 0 0] M (fun v M1 => X7 [114, w] M1 (fun b M2 => Q v b M2))
        rw [rf_0_0, q_countUp pl rl]
        exact fin _ rfl
      · simp only [if_neg c2] at fin
        refine swN c2 (swE (rt_ ?_))
        exact fin _ rfl
