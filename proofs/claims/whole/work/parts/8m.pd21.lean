/-! what a day answers -/
def gThr (g : jMm) (t : Int) : Int := sm (fun p => if g 132 p ≥ 0 ∧ g 132 p ≤ t then 1 else 0) (gN g)
def gLa (g : jMm) : Nat → Int
  | 0 => 0
  | m + 1 => if (if g 132 m < 0 then 100 else g 132 m) > gLa g m then (if g 132 m < 0 then 100 else g 132 m) else gLa g m
def gTot (g : jMm) : Int := sm (fun p => g 133 p) (gN g)
theorem own_ph {x k : Int} (x0 : 0 ≤ x) (x4 : x ≤ 4) (k0 : 0 ≤ k) (k3 : k ≤ 3) : ph x = k ↔ x = gOwn k := by
  obtain ⟨h0, h1, h2, h3, -⟩ := ph_eq x0 x4
  obtain rfl | rfl | rfl | rfl : k = 0 ∨ k = 1 ∨ k = 2 ∨ k = 3 := by omega
  · exact h0
  · exact h1
  · exact h2
  · exact h3
theorem pd_setOf {d k : Int} {M g : jMm} {Q : Int → jMm → Prop} (hd : isDay d) (S : pdS d M g) {T B : Int} (ok : gOK T B g) (k0 : 0 ≤ k) (k3 : k ≤ 3) : f_X0_setOf [d, k] M Q = Q (gBits g (gOwn k)) M := by
  refine dt_eq dt_f_X0_setOf (fun Q hq => ?_) Q
  unfold f_X0_setOf
  have hn0 := ok.1.1.2.2.1
  have hn := ok.1.1.2.2.2.1
  have en := gN_eq hn0
  refine mt_ (sq_ (st_c (sq_ (sq_ (st_c ?_)))))
  refine up0 (gN g) (fun j L M' => M' = M ∧ L 0 = d ∧ L 1 = k ∧ L 2 = gOr (fun p => if g 123 p = gOwn k then 1 else 0) j) rfl (by omega) ⟨rfl, rfl, rfl, rfl⟩ ?_ ?_ ?_
  · rintro j L M' Q ⟨rfl, l0, -⟩ hq
    show Q (M' (L 0) 6) M'
    rw [l0, S.1.1.2.1, ← en]; exact hq
  · rintro j L M' N1 hj hi ⟨rfl, l0, l1, l2⟩ hN
    have j0 : (0 : Int) ≤ j := by omega
    have p1 : (j : Int) < g 114 5 := by omega
    have j14 : (j : Int) < 14 := by omega
    have gp := ok.2.1 j j0 p1
    have e4 := (S.1.2.2 j j0 p1).2.2.2.2.1
    have op := own_ph gp.1.1 gp.1.2.1 k0 k3
    have k4 : N1 (jup L 2 (gOr (fun p => if g 123 p = gOwn k then 1 else 0) (j + 1))) M' := hN _ _ hi ⟨rfl, l0, l1, rfl⟩
    by_cases c : g 123 j = gOwn k
    · have c' : ph (g 123 j) = k := op.mpr c
      simp [gOr, c, ← l2] at k4
      simp [tSet, xBin, boOr, boShl, xTern, kR, xGf, xAr, xGr, xV, xC, l0, l1, hi, drf0 hd, dln1 hd, drr hd j0 j14, j14, e4, c']
      exact k4
    · have c' : ¬ ph (g 123 j) = k := fun z => c (op.mp z)
      simp [gOr, c, ← l2] at k4
      simp [tSet, xBin, boOr, boShl, xTern, kR, xGf, xAr, xGr, xV, xC, l0, l1, hi, drf0 hd, dln1 hd, drr hd j0 j14, j14, e4, c']
      exact k4
  · rintro L M' hi ⟨rfl, -, -, l2⟩
    show Q (L 2) M'
    rw [l2]; exact hq
theorem pd_setOfFallen {d : Int} {M g : jMm} {Q : Int → jMm → Prop} (hd : isDay d) (S : pdS d M g) {T B : Int} (ok : gOK T B g) : f_X0_setOfFallen [d] M Q = Q (gOr (g 200) (gN g)) M := by
  refine dt_eq dt_f_X0_setOfFallen (fun Q hq => ?_) Q
  unfold f_X0_setOfFallen
  have hn0 := ok.1.1.2.2.1
  have hn := ok.1.1.2.2.2.1
  have en := gN_eq hn0
  refine mt_ (sq_ (st_c (sq_ (sq_ (st_c ?_)))))
  refine up0 (gN g) (fun j L M' => M' = M ∧ L 0 = d ∧ L 1 = gOr (g 200) j) rfl (by omega) ⟨rfl, rfl, rfl⟩ ?_ ?_ ?_
  · rintro j L M' Q ⟨rfl, l0, -⟩ hq
    show Q (M' (L 0) 6) M'
    rw [l0, S.1.1.2.1, ← en]; exact hq
  · rintro j L M' N1 hj hi ⟨rfl, l0, l1⟩ hN
    have j0 : (0 : Int) ≤ j := by omega
    have p1 : (j : Int) < g 114 5 := by omega
    have j14 : (j : Int) < 14 := by omega
    have gp := (ok.2.1 j j0 p1).1.2.2.2.2
    have e10 := (S.1.2.2 j j0 p1).2.2.2.2.2.2.2.2.2
    have k4 : N1 (jup L 1 (gOr (g 200) (j + 1))) M' := hN _ _ hi ⟨rfl, l0, rfl⟩
    rcases gp with c | c
    · simp [gOr, c, ← l1] at k4
      simp [tSet, xBin, boOr, boShl, xTern, kZ, xGf, xAr, xGr, xV, xC, l0, hi, drf0 hd, dln1 hd, drr hd j0 j14, j14, e10, c]
      exact k4
    · simp [gOr, c, ← l1] at k4
      simp [tSet, xBin, boOr, boShl, xTern, kZ, xGf, xAr, xGr, xV, xC, l0, hi, drf0 hd, dln1 hd, drr hd j0 j14, j14, e10, c]
      exact k4
  · rintro L M' hi ⟨rfl, -, l1⟩
    show Q (L 1) M'
    rw [l1]; exact hq
theorem sv8 : s_sv 8 0 = 1 ∧ s_sv 8 1 = 10 ∧ s_sv 8 2 = 100 ∧ s_slen 8 = 3 := by decide +kernel
theorem pd_tripDigits {d : Int} {M g : jMm} {Q : Int → jMm → Prop} (hd : isDay d) (S : pdS d M g) {T B : Int} (ok : gOK T B g) : f_X0_tripDigits [d] M Q = Q (g 135 0 + 10 * g 135 1 + 100 * g 135 2) M := by
  refine dt_eq dt_f_X0_tripDigits (fun Q hq => ?_) Q
  unfold f_X0_tripDigits
  obtain ⟨e0, e1, e2, e3⟩ := sv8
  have ek := gK_eq ok.1.1.1
  have hk := ok.1.1.2.1
  have gs : ∀ s, 0 ≤ s → s < 3 → gSt g s := ok.2.2.1
  have gs0 := gs 0 (by decide) (by decide)
  have gs1 := gs 1 (by decide) (by decide)
  have gs2 := gs 2 (by decide) (by decide)
  unfold gSt at gs0 gs1 gs2
  refine mt_ (sq_ (st_c (sq_ (sq_ (st_c ?_)))))
  refine up0 (gK g) (fun j L M' => M' = M ∧ L 0 = d ∧ L 1 = if j = 0 then 0 else if j = 1 then g 135 0 else if j = 2 then g 135 0 + 10 * g 135 1 else g 135 0 + 10 * g 135 1 + 100 * g 135 2) rfl (by omega) ⟨rfl, rfl, rfl⟩ ?_ ?_ ?_
  · rintro j L M' Q ⟨rfl, l0, -⟩ hq
    show Q (M' (L 0) 5) M'
    rw [l0, S.1.1.1, ← ek]; exact hq
  · rintro j L M' N1 hj hi ⟨rfl, l0, l1⟩ hN
    have j0 : (0 : Int) ≤ j := by omega
    have j1 : (j : Int) < g 114 1 := by omega
    have j3 : (j : Int) < 3 := by omega
    have f4 := (S.1.2.1 j j0 j1).2.2.2.1
    have gj := gs j j0 j3
    unfold gSt at gj
    have l1b : 0 ≤ L 1 ∧ L 1 ≤ 99 := by
      obtain h | h | h : j = 0 ∨ j = 1 ∨ j = 2 := by omega
      · rw [l1, if_pos h]; omega
      · rw [l1, if_neg (by omega), if_pos h]; omega
      · rw [l1, if_neg (by omega), if_neg (by omega), if_pos h]; omega
    obtain rfl | rfl | rfl : j = 0 ∨ j = 1 ∨ j = 2 := by omega
    · have i1 : ir (g 135 0 * s_sv 8 0) := by rw [e0]; exact ⟨by omega, by omega⟩
      have i2 : ir (L 1 + g 135 0 * s_sv 8 0) := by rw [e0]; exact ⟨by omega, by omega⟩
      refine st_v (v := g 135 0) (fun Q => ?_) (hN _ _ hi ⟨rfl, l0, rfl⟩)
      have f4' : M' (d + 20 + 2 * 0) 4 = g 135 0 := f4
      have fs : s_rf (d + 2) 0 = d + 20 + 2 * 0 := dfs hd (by decide) (by decide)
      have hi' : L 2 = 0 := hi
      have l1' : L 1 = 0 := l1
      have i03 : (0 : Int) ≤ 0 ∧ (0 : Int) < 3 := by decide
      simp only [xBin, boAdd, boMul, xGf, xAr, xGr, xSt, xV, l0, hi', drf1 hd, dln2 hd, fs, i03, f4', e3, i1, i2, true_and, and_self]
      rw [l1', e0]
      have : 0 + g 135 0 * 1 = g 135 0 := by omega
      rw [this]
    · have i1 : ir (g 135 1 * s_sv 8 1) := by rw [e1]; exact ⟨by omega, by omega⟩
      have i2 : ir (L 1 + g 135 1 * s_sv 8 1) := by rw [e1]; exact ⟨by omega, by omega⟩
      refine st_v (v := g 135 0 + 10 * g 135 1) (fun Q => ?_) (hN _ _ hi ⟨rfl, l0, rfl⟩)
      have f4' : M' (d + 20 + 2 * 1) 4 = g 135 1 := f4
      have fs : s_rf (d + 2) 1 = d + 20 + 2 * 1 := dfs hd (by decide) (by decide)
      have hi' : L 2 = 1 := hi
      have l1' : L 1 = g 135 0 := l1
      have i03 : (0 : Int) ≤ 1 ∧ (1 : Int) < 3 := by decide
      simp only [xBin, boAdd, boMul, xGf, xAr, xGr, xSt, xV, l0, hi', drf1 hd, dln2 hd, fs, i03, f4', e3, i1, i2, true_and, and_self]
      rw [l1', e1]
      have : g 135 0 + g 135 1 * 10 = g 135 0 + 10 * g 135 1 := by omega
      rw [this]
    · have i1 : ir (g 135 2 * s_sv 8 2) := by rw [e2]; exact ⟨by omega, by omega⟩
      have i2 : ir (L 1 + g 135 2 * s_sv 8 2) := by rw [e2]; exact ⟨by omega, by omega⟩
      refine st_v (v := g 135 0 + 10 * g 135 1 + 100 * g 135 2) (fun Q => ?_) (hN _ _ hi ⟨rfl, l0, rfl⟩)
      have f4' : M' (d + 20 + 2 * 2) 4 = g 135 2 := f4
      have fs : s_rf (d + 2) 2 = d + 20 + 2 * 2 := dfs hd (by decide) (by decide)
      have hi' : L 2 = 2 := hi
      have l1' : L 1 = g 135 0 + 10 * g 135 1 := l1
      have i03 : (0 : Int) ≤ 2 ∧ (2 : Int) < 3 := by decide
      simp only [xBin, boAdd, boMul, xGf, xAr, xGr, xSt, xV, l0, hi', drf1 hd, dln2 hd, fs, i03, f4', e3, i1, i2, true_and, and_self]
      rw [l1', e2]
      have : g 135 0 + 10 * g 135 1 + g 135 2 * 100 = g 135 0 + 10 * g 135 1 + 100 * g 135 2 := by omega
      rw [this]
  · rintro L M' hi ⟨rfl, -, l1⟩
    show Q (L 1) M'
    have z0 := gs0.2.2.2.2
    have z1 := gs1.2.2.2.2
    have z2 := gs2.2.2.2.2
    have : L 1 = g 135 0 + 10 * g 135 1 + 100 * g 135 2 := by
      rw [l1]
      obtain h | h | h | h : gK g = 0 ∨ gK g = 1 ∨ gK g = 2 ∨ gK g = 3 := by omega
      · rw [if_pos h, z0 (by omega), z1 (by omega), z2 (by omega)]; rfl
      · rw [if_neg (by omega), if_pos h, z1 (by omega), z2 (by omega)]; omega
      · rw [if_neg (by omega), if_neg (by omega), if_pos h, z2 (by omega)]; omega
      · rw [if_neg (by omega), if_neg (by omega), if_neg (by omega)]
    rw [this]; exact hq
theorem thr_le {g : jMm} {t : Int} (hn0 : 0 ≤ g 114 5) (hn : g 114 5 ≤ 14) (m : Nat) (hm : m ≤ gN g) : 0 ≤ sm (fun p => if g 132 p ≥ 0 ∧ g 132 p ≤ t then 1 else 0) m ∧ sm (fun p => if g 132 p ≥ 0 ∧ g 132 p ≤ t then 1 else 0) m ≤ 14 := by
  have en := gN_eq hn0
  have a : 0 ≤ sm (fun p => if g 132 p ≥ 0 ∧ g 132 p ≤ t then 1 else 0) m := sm_nonneg _ (fun p _ _ => by split <;> omega)
  have b : sm (fun p => if g 132 p ≥ 0 ∧ g 132 p ≤ t then 1 else 0) m ≤ 1 * m := sm_le 1 _ (fun p _ _ => by split <;> omega)
  omega
theorem pd_countThrough {d t : Int} {M g : jMm} {Q : Int → jMm → Prop} (hd : isDay d) (S : pdS d M g) {T B : Int} (ok : gOK T B g) : f_X0_countThrough [d, t] M Q = Q (gThr g t) M := by
  refine dt_eq dt_f_X0_countThrough (fun Q hq => ?_) Q
  unfold f_X0_countThrough
  have hn0 := ok.1.1.2.2.1
  have hn := ok.1.1.2.2.2.1
  have en := gN_eq hn0
  refine mt_ (sq_ (st_c (sq_ (sq_ (st_c ?_)))))
  refine up0 (gN g) (fun j L M' => M' = M ∧ L 0 = d ∧ L 1 = t ∧ L 2 = sm (fun p => if g 132 p ≥ 0 ∧ g 132 p ≤ t then 1 else 0) j) rfl (by omega) ⟨rfl, rfl, rfl, rfl⟩ ?_ ?_ ?_
  · rintro j L M' Q ⟨rfl, l0, -⟩ hq
    show Q (M' (L 0) 6) M'
    rw [l0, S.1.1.2.1, ← en]; exact hq
  · rintro j L M' N1 hj hi ⟨rfl, l0, l1, l2⟩ hN
    have j0 : (0 : Int) ≤ j := by omega
    have p1 : (j : Int) < g 114 5 := by omega
    have j14 : (j : Int) < 14 := by omega
    have gp := ok.2.1 j j0 p1
    obtain ⟨-, -, -, -, e4, -, -, -, e9, -⟩ := S.1.2.2 j j0 p1
    have p4 := (ph_eq gp.1.1 gp.1.2.1).2.2.2.1
    have bnd := thr_le (t := t) hn0 hn j (by omega)
    have i1 : ir (L 2 + 1) := ⟨by omega, by omega⟩
    have i0 : ir (L 2) := ⟨by omega, by omega⟩
    have st4 := gp.2.2.2.2.2.2.1
    have st4n := gp.2.2.2.2.2.2.2
    have k4 : N1 (jup L 2 (sm (fun p => if g 132 p ≥ 0 ∧ g 132 p ≤ t then 1 else 0) (j + 1))) M' := hN _ _ hi ⟨rfl, l0, l1, rfl⟩
    by_cases c : g 123 j = 4
    · have c' : ph (g 123 j) = 3 := p4.mpr c
      have g0 := (st4 c).1
      by_cases c2 : g 132 j ≤ t
      · simp only [sm, ← l2, if_pos (show g 132 j ≥ 0 ∧ g 132 j ≤ t from ⟨g0, c2⟩)] at k4
        simp [tSet, xBin, boAdd, xTern, kAnd, kR, xGf, xAr, xGr, xV, xC, l0, l1, hi, drf0 hd, dln1 hd, drr hd j0 j14, j14, e4, e9, c', c2, i1]
        exact k4
      · simp only [sm, ← l2, if_neg (show ¬ (g 132 j ≥ 0 ∧ g 132 j ≤ t) from fun z => c2 z.2)] at k4
        simp [-Int.not_le, tSet, xBin, boAdd, xTern, kAnd, kR, xGf, xAr, xGr, xV, xC, l0, l1, hi, drf0 hd, dln1 hd, drr hd j0 j14, j14, e4, e9, c', c2, i0]
        simpa using k4
    · have c' : ¬ ph (g 123 j) = 3 := fun z => c (p4.mp z)
      have := st4n c
      simp only [sm, ← l2, if_neg (show ¬ (g 132 j ≥ 0 ∧ g 132 j ≤ t) from fun z => by omega)] at k4
      simp [tSet, xBin, boAdd, xTern, kAnd, kR, xGf, xAr, xGr, xV, xC, l0, l1, hi, drf0 hd, dln1 hd, drr hd j0 j14, j14, e4, e9, c', i0]
      simpa using k4
  · rintro L M' hi ⟨rfl, -, -, l2⟩
    show Q (L 2) M'
    rw [l2]; exact hq
theorem pd_lastThrough {d : Int} {M g : jMm} {Q : Int → jMm → Prop} (hd : isDay d) (S : pdS d M g) {T B : Int} (ok : gOK T B g) : f_X0_lastThrough [d] M Q = Q (gLa g (gN g)) M := by
  refine dt_eq dt_f_X0_lastThrough (fun Q hq => ?_) Q
  unfold f_X0_lastThrough
  have hn0 := ok.1.1.2.2.1
  have hn := ok.1.1.2.2.2.1
  have en := gN_eq hn0
  refine mt_ (sq_ (st_c (sq_ (sq_ (st_c ?_)))))
  refine up0 (gN g) (fun j L M' => M' = M ∧ L 0 = d ∧ L 1 = gLa g j) rfl (by omega) ⟨rfl, rfl, rfl⟩ ?_ ?_ ?_
  · rintro j L M' Q ⟨rfl, l0, -⟩ hq
    show Q (M' (L 0) 6) M'
    rw [l0, S.1.1.2.1, ← en]; exact hq
  · rintro j L M' N1 hj hi ⟨rfl, l0, l1⟩ hN
    have j0 : (0 : Int) ≤ j := by omega
    have p1 : (j : Int) < g 114 5 := by omega
    have j14 : (j : Int) < 14 := by omega
    have gp := ok.2.1 j j0 p1
    obtain ⟨-, -, -, -, e4, -, -, -, e9, -⟩ := S.1.2.2 j j0 p1
    have p4 := (ph_eq gp.1.1 gp.1.2.1).2.2.2.1
    have st4 := gp.2.2.2.2.2.2.1
    have st4n := gp.2.2.2.2.2.2.2
    refine st_v (v := gLa g (j + 1)) (fun Q => propext ?_) (hN _ _ hi ⟨rfl, l0, rfl⟩)
    have mx : ∀ v, v = (if g 132 j < 0 then 100 else g 132 j) → max (L 1) v = gLa g (j + 1) := fun v hv => by
      rw [l1, hv]
      show _ = (if (if g 132 j < 0 then 100 else g 132 j) > gLa g j then (if g 132 j < 0 then 100 else g 132 j) else gLa g j)
      generalize (if g 132 (j : Int) < 0 then (100 : Int) else g 132 j) = u
      split <;> omega
    by_cases c : g 123 j = 4
    · have c' : ph (g 123 j) = 3 := p4.mpr c
      have g0 := (st4 c).1
      have := mx (g 132 j) (by rw [if_neg (by omega)])
      simp [xBin, boMax, xTern, kR, xGf, xAr, xGr, xV, xC, l0, hi, drf0 hd, dln1 hd, drr hd j0 j14, j14, e4, e9, c', this]
    · have c' : ¬ ph (g 123 j) = 3 := fun z => c (p4.mp z)
      have n4 := st4n c
      have := mx 100 (by rw [if_pos (by omega)])
      simp [xBin, boMax, xTern, kR, xGf, xAr, xGr, xV, xC, l0, hi, drf0 hd, dln1 hd, drr hd j0 j14, j14, e4, e9, c', this]
  · rintro L M' hi ⟨rfl, -, l1⟩
    show Q (L 1) M'
    rw [l1]; exact hq
/-! the same, in the model -/
theorem mo_waits {M g : jMm} {Q : Int → jMm → Prop} (S : moS M g) (hn0 : 0 ≤ g 114 5) (hn : g 114 5 ≤ 14) (h33 : ∀ p, 0 ≤ p → p < g 114 5 → 0 ≤ g 133 p ∧ g 133 p ≤ 1000) : f_X7_waits [114] M Q = Q (gTot g) M := by
  refine dt_eq dt_f_X7_waits (fun Q hq => ?_) Q
  unfold f_X7_waits
  have en := gN_eq hn0
  refine mt_ (sq_ (st_c (sq_ (sq_ (st_c ?_)))))
  refine up0 (gN g) (fun j L M' => M' = M ∧ L 0 = 114 ∧ L 1 = sm (fun p => g 133 p) j) rfl (by omega) ⟨rfl, rfl, rfl⟩ ?_ ?_ ?_
  · rintro j L M' Q ⟨rfl, l0, -⟩ hq
    show Q (M' (L 0) 5) M'
    rw [l0, mo_n S, ← en]; exact hq
  · rintro j L M' N1 hj hi ⟨rfl, l0, l1⟩ hN
    have p1 : (j : Int) < g 114 5 := by omega
    have j0 : (0 : Int) ≤ j := by omega
    have j14 : (j : Int) < 14 := by omega
    have e33 : M' 133 j = g 133 j := (moS_get S j0 p1).2.2.2.2.2.1
    have b33 := h33 j j0 p1
    have a : 0 ≤ sm (fun p => g 133 p) j := sm_nonneg _ (fun p q0 q1 => (h33 p q0 (by omega)).1)
    have b : sm (fun p => g 133 p) j ≤ 1000 * j := sm_le 1000 _ (fun p q0 q1 => (h33 p q0 (by omega)).2)
    have i1 : ir (L 1 + g 133 j) := ⟨by omega, by omega⟩
    refine st_v (v := sm (fun p => g 133 p) (j + 1)) (fun Q => ?_) (hN _ _ hi ⟨rfl, l0, rfl⟩)
    simp only [xBin, boAdd, xAl, xGr, xV, l0, hi, mrf28, mln133, j0, j14, e33, i1, true_and, and_self]
    rw [l1]; rfl
  · rintro L M' hi ⟨rfl, -, l1⟩
    show Q (L 1) M'
    rw [l1]; exact hq
theorem mo_throughBy {t : Int} {M g : jMm} {Q : Int → jMm → Prop} (S : moS M g) (hn0 : 0 ≤ g 114 5) (hn : g 114 5 ≤ 14) : f_X7_throughBy [114, t] M Q = Q (gThr g t) M := by
  refine dt_eq dt_f_X7_throughBy (fun Q hq => ?_) Q
  unfold f_X7_throughBy
  have en := gN_eq hn0
  refine mt_ (sq_ (st_c (sq_ (sq_ (st_c ?_)))))
  refine up0 (gN g) (fun j L M' => M' = M ∧ L 0 = 114 ∧ L 1 = t ∧ L 2 = sm (fun p => if g 132 p ≥ 0 ∧ g 132 p ≤ t then 1 else 0) j) rfl (by omega) ⟨rfl, rfl, rfl, rfl⟩ ?_ ?_ ?_
  · rintro j L M' Q ⟨rfl, l0, -⟩ hq
    show Q (M' (L 0) 5) M'
    rw [l0, mo_n S, ← en]; exact hq
  · rintro j L M' N1 hj hi ⟨rfl, l0, l1, l2⟩ hN
    have j0 : (0 : Int) ≤ j := by omega
    have p1 : (j : Int) < g 114 5 := by omega
    have j14 : (j : Int) < 14 := by omega
    have e32 : M' 132 j = g 132 j := (moS_get S j0 p1).2.2.2.2.1
    have bnd := thr_le (t := t) hn0 hn j (by omega)
    have i1 : ir (L 2 + 1) := ⟨by omega, by omega⟩
    have i0 : ir (L 2) := ⟨by omega, by omega⟩
    have k4 : N1 (jup L 2 (sm (fun p => if g 132 p ≥ 0 ∧ g 132 p ≤ t then 1 else 0) (j + 1))) M' := hN _ _ hi ⟨rfl, l0, l1, rfl⟩
    by_cases c : g 132 j ≥ 0
    · by_cases c2 : g 132 j ≤ t
      · simp only [sm, ← l2, if_pos (show g 132 j ≥ 0 ∧ g 132 j ≤ t from ⟨c, c2⟩)] at k4
        have c' : 0 ≤ g 132 j := c
        simp [tSet, xBin, boAdd, xTern, kAnd, kR, kZ, xAl, xGr, xV, xC, l0, l1, hi, mrf27, mln132, j14, e32, c', c2, i1]
        exact k4
      · simp only [sm, ← l2, if_neg (show ¬ (g 132 j ≥ 0 ∧ g 132 j ≤ t) from fun z => c2 z.2)] at k4
        simp [-Int.not_le, tSet, xBin, boAdd, xTern, kAnd, kR, kZ, xAl, xGr, xV, xC, l0, l1, hi, mrf27, mln132, j14, e32, c, c2, i0]
        simpa using k4
    · simp only [sm, ← l2, if_neg (show ¬ (g 132 j ≥ 0 ∧ g 132 j ≤ t) from fun z => c z.1)] at k4
      simp [-Int.not_le, tSet, xBin, boAdd, xTern, kAnd, kR, kZ, xAl, xGr, xV, xC, l0, l1, hi, mrf27, mln132, j14, e32, c, i0]
      simpa using k4
  · rintro L M' hi ⟨rfl, -, -, l2⟩
    show Q (L 2) M'
    rw [l2]; exact hq
theorem mo_last {M g : jMm} {Q : Int → jMm → Prop} (S : moS M g) (hn0 : 0 ≤ g 114 5) (hn : g 114 5 ≤ 14) : f_X7_last [114] M Q = Q (gLa g (gN g)) M := by
  refine dt_eq dt_f_X7_last (fun Q hq => ?_) Q
  unfold f_X7_last
  have en := gN_eq hn0
  refine mt_ (sq_ (st_c (sq_ (sq_ (st_c ?_)))))
  refine up0 (gN g) (fun j L M' => M' = M ∧ L 0 = 114 ∧ L 1 = gLa g j) rfl (by omega) ⟨rfl, rfl, rfl⟩ ?_ ?_ ?_
  · rintro j L M' Q ⟨rfl, l0, -⟩ hq
    show Q (M' (L 0) 5) M'
    rw [l0, mo_n S, ← en]; exact hq
  · rintro j L M' N1 hj hi ⟨rfl, l0, l1⟩ hN
    have j0 : (0 : Int) ≤ j := by omega
    have p1 : (j : Int) < g 114 5 := by omega
    have j14 : (j : Int) < 14 := by omega
    have e32 : M' 132 j = g 132 j := (moS_get S j0 p1).2.2.2.2.1
    refine sq_ (set_sel (u := 100) (v := g 132 j) (g 132 j < 0) (fun T F => ?_) (fun _ Q => rfl) (fun _ Q => ?_) ?_)
    · simp [-Int.not_lt, kZ, xAl, xGr, xV, l0, hi, mrf27, mln132, j14, e32]
    · simp [xAl, xGr, xV, l0, hi, mrf27, mln132, j14, e32]
    generalize hu : (if g 132 (j : Int) < 0 then (100 : Int) else g 132 j) = u
    refine set_sel (u := u) (v := gLa g j) (u > gLa g j) (fun T F => ?_) (fun _ Q => ?_) (fun _ Q => ?_) (hN _ _ hi ⟨rfl, l0, ?_⟩)
    · simp [-Int.not_lt, kR, xV, jup, l1]
    · simp [xV, jup]
    · simp [xV, jup, l1]
    · show (if u > gLa g j then u else gLa g j) = (if (if g 132 j < 0 then 100 else g 132 j) > gLa g j then (if g 132 j < 0 then 100 else g 132 j) else gLa g j)
      rw [hu]
  · rintro L M' hi ⟨rfl, -, l1⟩
    show Q (L 1) M'
    rw [l1]; exact hq
