/-! pairs: copy -/
theorem qa_copy {a i b j n : Int} {M : jMm} {Q : Int → jMm → Prop} (hi : ir i) (hj : ir j) (hn : ir n) (z16 : ∀ s, 0 ≤ s → s < 4 → M 141 s ≤ 16)
    (k1 : (bt 0 a 3 = 0 ∨ bt 0 b 3 = 0) → Q (-1) M)
    (k2 : ¬ (bt 0 a 3 = 0 ∨ bt 0 b 3 = 0) → (M 140 a < 0 ∨ M 140 b < 0) → Q (-11) M)
    (k3 : ¬ (bt 0 a 3 = 0 ∨ bt 0 b 3 = 0) → ¬ (M 140 a < 0 ∨ M 140 b < 0) → M 140 a ≠ M 140 b → Q (-12) M)
    (k4 : ¬ (bt 0 a 3 = 0 ∨ bt 0 b 3 = 0) → ¬ (M 140 a < 0 ∨ M 140 b < 0) → M 140 a = M 140 b → (n < 0 ∨ (i < 0 ∨ i + n > M 141 a) ∨ (j < 0 ∨ j + n > M 141 b)) → Q (-13) M)
    (k5 : ¬ (bt 0 a 3 = 0 ∨ bt 0 b 3 = 0) → ¬ (M 140 a < 0 ∨ M 140 b < 0) → M 140 a = M 140 b → ¬ (n < 0 ∨ (i < 0 ∨ i + n > M 141 a) ∨ (j < 0 ∨ j + n > M 141 b)) → ∀ M', (∀ x y, x ≠ 143 → (x ≠ 142 ∨ y < 16 * b + j ∨ 16 * b + j + n ≤ y) → M' x y = M x y) → (∀ q, 0 ≤ q → q < n → M' 142 (16 * b + j + q) = M 142 (16 * a + i + q)) → Q n M') : f_X7_copy [114, a, i, b, j, n] M Q := by
  unfold f_X7_copy
  have x0 : jIn [0, 1, 2, 3, 4, 5] [114, a, i, b, j, n] 0 = 114 := rfl
  have x1 : jIn [0, 1, 2, 3, 4, 5] [114, a, i, b, j, n] 1 = a := rfl
  have x3 : jIn [0, 1, 2, 3, 4, 5] [114, a, i, b, j, n] 3 = b := rfl
  refine mt_ (sq_ (if_pc (bt 0 a 3 = 0 ∨ bt 0 b 3 = 0) (or_pc (nz_pc (c1 (fun Q => rfl) (fun Q => qm_isSheet))) (fun _ => nz_pc (c1 (fun Q => rfl) (fun Q => qm_isSheet)))) (fun c => rt_ (k1 c)) (fun c => sk_ ?_)))
  obtain ⟨a0, a1⟩ := bt_0 (fun z => c (.inl z))
  obtain ⟨b0, b1⟩ := bt_0 (fun z => c (.inr z))
  have a4 : a < 4 := by omega
  have b4 : b < 4 := by omega
  have za := z16 a a0 a4
  have zb := z16 b b0 b4
  refine sq_ (if_pc (M 140 a < 0 ∨ M 140 b < 0) (or_pc (kz_pc (r := fun x y => x < y) (alE x0 x1 mrf40 mln140 a0 a4)) (fun _ => kz_pc (r := fun x y => x < y) (alE x0 x3 mrf40 mln140 b0 b4))) (fun d => rt_ (k2 c d)) (fun d => sk_ ?_))
  refine sq_ (if_pc (M 140 a ≠ M 140 b) (kr_pc (r := fun x y => x ≠ y) (alE x0 x1 mrf40 mln140 a0 a4) (alE x0 x3 mrf40 mln140 b0 b4)) (fun e => rt_ (k3 c d e)) (fun e => sk_ ?_))
  have e : M 140 a = M 140 b := Classical.not_not.mp e
  have fd : ∀ s i, ir i → 0 ≤ s → s < 4 → ¬ M 140 s < 0 → (fz M s (M 140 s) i n < 0) = (i < 0 ∨ i + n > M 141 s) := fun s i _ _ _ h => by
    have x1 : fz M s (M 140 s) i n = if i < 0 ∨ i + n > M 141 s then -13 else 0 := by
      unfold fz
      rw [if_neg h, if_neg (fun z => z rfl)]
    rw [x1]
    by_cases y : i < 0 ∨ i + n > M 141 s
    · rw [if_pos y]; exact propext ⟨fun _ => y, fun _ => by decide⟩
    · rw [if_neg y]; exact propext ⟨fun z => absurd z (by decide), fun z => absurd z y⟩
  have ca : ∀ Q1 : Int → jMm → Prop, xCall f_X7_finds (xsC (xV 0) (xsC (xV 1) (xsC (xAl (xGr (xV 0) 40) (xV 1)) (xsC (xV 2) (xsC (xV 5) xsN))))) (jIn [0, 1, 2, 3, 4, 5] [114, a, i, b, j, n]) M Q1 = Q1 (fz M a (M 140 a) i n) M := fun Q1 => by
    show xAl (xGr (xV 0) 40) (xV 1) (jIn [0, 1, 2, 3, 4, 5] [114, a, i, b, j, n]) M (fun v M1 => f_X7_finds [114, a, v, i, n] M1 Q1) = _
    rw [alE x0 x1 mrf40 mln140 a0 a4, qm_finds a0 a4 hi hn]
  have cb : ∀ Q1 : Int → jMm → Prop, xCall f_X7_finds (xsC (xV 0) (xsC (xV 3) (xsC (xAl (xGr (xV 0) 40) (xV 3)) (xsC (xV 4) (xsC (xV 5) xsN))))) (jIn [0, 1, 2, 3, 4, 5] [114, a, i, b, j, n]) M Q1 = Q1 (fz M b (M 140 b) j n) M := fun Q1 => by
    show xAl (xGr (xV 0) 40) (xV 3) (jIn [0, 1, 2, 3, 4, 5] [114, a, i, b, j, n]) M (fun v M1 => f_X7_finds [114, b, v, j, n] M1 Q1) = _
    rw [alE x0 x3 mrf40 mln140 b0 b4, qm_finds b0 b4 hj hn]
  have fa := fd a i hi a0 a4 (fun z => d (.inl z))
  have fb := fd b j hj b0 b4 (fun z => d (.inr z))
  refine sq_ (if_pc ((n < 0 ∨ fz M a (M 140 a) i n < 0) ∨ fz M b (M 140 b) j n < 0) (or_pc (or_pc (kz_pc (r := fun x y => x < y) (u := n) (fun Q => rfl)) (fun _ => kz_pc (r := fun x y => x < y) ca)) (fun _ => kz_pc (r := fun x y => x < y) cb)) (fun f => rt_ (k4 c d e ?_)) (fun f => sk_ ?_))
  · rw [fa, fb] at f
    omega
  rw [fa, fb] at f
  have f' : ¬ (n < 0 ∨ (i < 0 ∨ i + n > M 141 a) ∨ (j < 0 ∨ j + n > M 141 b)) := by omega
  have k6 := k5 c d e f'
  have en : ((n.toNat : Nat) : Int) = n := by omega
  refine sq_cut (fun L M1 => (∀ x, x ≠ 6 → L x = jIn [0, 1, 2, 3, 4, 5] [114, a, i, b, j, n] x) ∧ (∀ x y, x ≠ 143 → M1 x y = M x y) ∧ ∀ q, 0 ≤ q → q < n → M1 143 q = M 142 (16 * a + i + q)) (fun N1 hN1 => ?_) ?_
  · refine sq_ (st_c ?_)
    refine up0 n.toNat (fun m L M1 => (∀ x, x ≠ 6 → L x = jIn [0, 1, 2, 3, 4, 5] [114, a, i, b, j, n] x) ∧ (∀ x y, x ≠ 143 → M1 x y = M x y) ∧ ∀ q : Int, 0 ≤ q → q < m → M1 143 q = M 142 (16 * a + i + q)) rfl (by omega) ⟨fun x h => by simp [jup, h], fun _ _ _ => rfl, fun q _ _ => by omega⟩ ?_ ?_ (fun L M1 _ h => hN1 L M1 ⟨h.1, h.2.1, fun q q0 q1 => h.2.2 q q0 (by omega)⟩)
    · rintro m L M1 Q1 ⟨le, -, -⟩ hQ
      show Q1 (L 5) M1
      rw [le 5 (by decide)]
      show Q1 n M1
      rw [← en]; exact hQ
    · rintro m L M1 N2 hm hi6 ⟨le, F, hz⟩ hN
      have mn : (m : Int) < n := by omega
      have y0 : L 0 = 114 := le 0 (by decide)
      have y1 : L 1 = a := le 1 (by decide)
      have y2 : L 2 = i := le 2 (by decide)
      have i1 : ir (16 * a) := ⟨by omega, by omega⟩
      have i2 : ir (16 * a + i) := ⟨by omega, by omega⟩
      have i3 : ir (16 * a + i + m) := ⟨by omega, by omega⟩
      have j1 : 0 ≤ 16 * a + i + (m : Int) ∧ 16 * a + i + (m : Int) < 64 := by omega
      have m16 : (m : Int) < 16 := by omega
      have k := hN L (jwr M1 143 m (M 142 (16 * a + i + m))) hi6 ⟨fun x h => by simp [jup, h]; exact le x h, fun x y h => by rw [jw0 (.inl h)]; exact F x y h, fun q q0 q1 => ?_⟩
      · simp [tAst, xBin, boAdd, boMul, xAl, xGr, xV, xC, y0, y1, y2, hi6, mrf42, mrf43, mln142, mln143, i1, i2, i3, j1, m16, F 142 _ (by decide)]
        exact k
      · by_cases ee : q = m
        · rw [ee, jw1 ⟨rfl, rfl⟩]
        · rw [jw0 (.inr ee)]; exact hz q q0 (by omega)
  · rintro L M1 ⟨le, F, hz⟩
    refine sq_ (sq_ (st_c ?_))
    refine up0 n.toNat (fun m L M2 => (∀ x, x ≠ 6 → L x = jIn [0, 1, 2, 3, 4, 5] [114, a, i, b, j, n] x) ∧ (∀ x y, (x ≠ 142 ∨ y < 16 * b + j ∨ 16 * b + j + n ≤ y) → M2 x y = M1 x y) ∧ ∀ q : Int, 0 ≤ q → q < m → M2 142 (16 * b + j + q) = M 142 (16 * a + i + q)) rfl (by omega) ⟨fun x h => by simp [jup, h]; exact le x h, fun _ _ _ => rfl, fun q _ _ => by omega⟩ ?_ ?_ ?_
    · rintro m L M1 Q1 ⟨le, -, -⟩ hQ
      show Q1 (L 5) M1
      rw [le 5 (by decide)]
      show Q1 n M1
      rw [← en]; exact hQ
    · rintro m L M2 N2 hm hi6 ⟨le, F2, h2⟩ hN
      have mn : (m : Int) < n := by omega
      have y0 : L 0 = 114 := le 0 (by decide)
      have y3 : L 3 = b := le 3 (by decide)
      have y4 : L 4 = j := le 4 (by decide)
      have i1 : ir (16 * b) := ⟨by omega, by omega⟩
      have i2 : ir (16 * b + j) := ⟨by omega, by omega⟩
      have i3 : ir (16 * b + j + m) := ⟨by omega, by omega⟩
      have j1 : 0 ≤ 16 * b + j + (m : Int) ∧ 16 * b + j + (m : Int) < 64 := by omega
      have m16 : (m : Int) < 16 := by omega
      have v : M2 143 m = M 142 (16 * a + i + m) := by rw [F2 _ _ (.inl (by decide))]; exact hz m (by omega) mn
      have k := hN L (jwr M2 142 (16 * b + j + m) (M 142 (16 * a + i + m))) hi6 ⟨fun x h => by simp [jup, h]; exact le x h, fun x y h => by rw [jw0 (by omega)]; exact F2 x y h, fun q q0 q1 => ?_⟩
      · simp [tAst, xBin, boAdd, boMul, xAl, xGr, xV, xC, y0, y3, y4, hi6, mrf42, mrf43, mln142, mln143, i1, i2, i3, j1, m16, v]
        exact k
      · by_cases ee : q = m
        · rw [ee, jw1 ⟨rfl, rfl⟩]
        · rw [jw0 (.inr (by omega))]; exact h2 q q0 (by omega)
    · rintro L M2 - ⟨le, F2, h2⟩
      refine rt_ ?_
      show Q (L 5) M2
      rw [le 5 (by decide)]
      exact k6 M2 (fun x y h h' => by rw [F2 x y h', F x y h]) (fun q q0 q1 => h2 q q0 (by omega))
