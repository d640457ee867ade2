/-! the model: the day from its begin to its end -/
def rFr (M M' : jMm) : Prop := ∀ a b, ¬ ((123 ≤ a ∧ a ≤ 138) ∨ (a = 114 ∧ 31 ≤ b ∧ b ≤ 34)) → M' a b = M a b
theorem rFr_rfl {M : jMm} : rFr M M := fun _ _ _ => rfl
theorem rFr_tr {M M' M'' : jMm} (h : rFr M M') (h' : rFr M' M'') : rFr M M'' := fun a b n => (h' a b n).trans (h a b n)
theorem rFr_m {M M' : jMm} (h : mFr M M') : rFr M M' := fun a b n => h a b (by unfold mDyn; omega)
theorem rFr_n {t : Int} {M M' : jMm} (h : nFr t M M') : rFr M M' := fun a b n => h.1 a b (by omega) (by omega) (by omega)
theorem gOr_zero {h : Int → Int} : ∀ m : Nat, (∀ p : Int, 0 ≤ p → p < m → h p = 0) → gOr h m = 0
  | 0, _ => rfl
  | m + 1, e => by
    show b_or (gOr h m) (if h m = 1 then b_shl 1 m else 0) = 0
    rw [gOr_zero m (fun p a b => e p a (by omega)), e m (by omega) (by omega), if_neg (by decide)]
    decide
def mPl (M P : jMm) (r wo : Int) (ways paces : Int → Int) : Prop := (M 114 1 = P 114 1 ∧ M 114 5 = P 114 5) ∧ (∀ b, M 115 b = P 115 b ∧ M 116 b = P 116 b ∧ M 117 b = P 117 b) ∧ M 114 16 = r ∧ M 114 17 = wo ∧ ∀ s, 0 ≤ s → s < 3 → M 120 s = ways s ∧ M 122 s = paces s
theorem mo_begins {M P : jMm} {r wo : Int} {ways paces : Int → Int} {Q : Int → jMm → Prop} (hP : mPl M P r wo ways paces) (hn : M 114 5 ≤ 14) (hq : ∀ M', moS M' (gBegin P r wo ways paces) → mFr M M' → Q 0 M') : f_X7_begins [114] M Q := by
  unfold f_X7_begins
  refine mt_ (sq_cut (fun L M1 => L 0 = 114 ∧ mFr M M1 ∧ ∀ p, 0 ≤ p → p < 14 → M1 123 p = 0 ∧ M1 124 p = M 117 (3 * p + 2) ∧ M1 130 p = -4 ∧ M1 131 p = -4 ∧ M1 132 p = -4 ∧ M1 133 p = 0) (fun N1 hN1 => ?_) ?_)
  · refine sq_ (st_c ?_)
    refine up0 14 (fun j L M1 => L 0 = 114 ∧ mFr M M1 ∧ ∀ p : Int, 0 ≤ p → p < j → M1 123 p = 0 ∧ M1 124 p = M 117 (3 * p + 2) ∧ M1 130 p = -4 ∧ M1 131 p = -4 ∧ M1 132 p = -4 ∧ M1 133 p = 0) rfl (by decide) ⟨rfl, mFr_rfl, fun p h0 h1 => by omega⟩ (fun _ _ _ _ _ h => h) ?_ (fun L M1 _ h => hN1 L M1 h)
    rintro j L M1 N2 hj hi ⟨l0, F, hp⟩ hN2
    have h2 : (j : Int) < 14 := by omega
    have i1 : ir (3 * (j : Int)) := ⟨by omega, by omega⟩
    have i2 : ir (3 * (j : Int) + 2) := ⟨by omega, by omega⟩
    have i3 : 0 ≤ 3 * (j : Int) + 2 ∧ 3 * (j : Int) + 2 < 42 := by omega
    have i4 : 0 ≤ (j : Int) ∧ (j : Int) < 14 := by omega
    have e1 : jwr M1 123 j 0 117 (3 * (j : Int) + 2) = M 117 (3 * (j : Int) + 2) := by
      have : jwr M1 123 j 0 117 (3 * (j : Int) + 2) = M1 117 (3 * (j : Int) + 2) := by simp [jwr]
      rw [this]; exact F _ _ (by unfold mDyn; omega)
    simp only [tSeq, tAst, xV, xC, xGr, xAl, xBin, boAdd, boMul, l0, hi, mrf6, mrf18, mrf19, mrf25, mrf26, mrf27, mrf28, mln117, mln123, mln124, mln130, mln131, mln132, mln133, e1]
    simp only [i1, i2, i3, i4, true_and]
    refine hN2 _ _ hi ⟨l0, mFr_wr (mFr_wr (mFr_wr (mFr_wr (mFr_wr (mFr_wr F (.inl ⟨by decide, by decide⟩)) (.inl ⟨by decide, by decide⟩)) (.inl ⟨by decide, by decide⟩)) (.inl ⟨by decide, by decide⟩)) (.inl ⟨by decide, by decide⟩)) (.inl ⟨by decide, by decide⟩), fun p h0 h1 => ?_⟩
    by_cases e : p = j
    · subst e; simp [jwr]
    · simpa [jwr, e] using hp p h0 (by omega)
  rintro L1 M1 ⟨l0, F1, hp1⟩
  refine sq_cut (fun L M2 => L 0 = 114 ∧ mFr M M2 ∧ (∀ p, 0 ≤ p → p < 14 → M2 123 p = 0 ∧ M2 124 p = M 117 (3 * p + 2) ∧ M2 130 p = -4 ∧ M2 131 p = -4 ∧ M2 132 p = -4 ∧ M2 133 p = 0) ∧ ∀ s, 0 ≤ s → s < 3 → M2 134 s = M 120 s ∧ M2 135 s = 0) (fun N1 hN1 => ?_) ?_
  · refine sq_ (st_c ?_)
    refine up0 3 (fun j L M2 => L 0 = 114 ∧ mFr M M2 ∧ (∀ p, 0 ≤ p → p < 14 → M2 123 p = 0 ∧ M2 124 p = M 117 (3 * p + 2) ∧ M2 130 p = -4 ∧ M2 131 p = -4 ∧ M2 132 p = -4 ∧ M2 133 p = 0) ∧ ∀ s : Int, 0 ≤ s → s < j → M2 134 s = M 120 s ∧ M2 135 s = 0) rfl (by decide) ⟨l0, F1, hp1, fun p h0 h1 => by omega⟩ (fun _ _ _ _ _ h => h) ?_ (fun L M1 _ h => hN1 L M1 h)
    rintro j L M2 N2 hj hi ⟨l0, F, hp, hs⟩ hN2
    have i4 : 0 ≤ (j : Int) ∧ (j : Int) < 3 := by omega
    have e1 : M2 120 j = M 120 j := F _ _ (by unfold mDyn; omega)
    simp only [tSeq, tAst, xV, xC, xGr, xAl, l0, hi, mrf12, mrf29, mrf30, mln120, mln134, mln135, e1]
    simp only [i4, true_and]
    refine hN2 _ _ hi ⟨l0, mFr_wr (mFr_wr F (.inl ⟨by decide, by decide⟩)) (.inl ⟨by decide, by decide⟩), fun p h0 h1 => ?_, fun s h0 h1 => ?_⟩
    · simpa [jwr] using hp p h0 h1
    · by_cases e : s = j
      · subst e; simp [jwr]
      · simpa [jwr, e] using hs s h0 (by omega)
  rintro L2 M2 ⟨l0, F2, hp, hs⟩
  simp only [tSeq, tPut, tRet0, xV, xC, l0]
  refine hq _ ?_ (mFr_wr (mFr_wr (mFr_wr (mFr_wr F2 (.inr ⟨rfl, by decide, by decide⟩)) (.inr ⟨rfl, by decide, by decide⟩)) (.inr ⟨rfl, by decide, by decide⟩)) (.inr ⟨rfl, by decide, by decide⟩))
  have f : ∀ a b, ¬ mDyn a b → M2 a b = M a b := F2
  obtain ⟨⟨x1, x5⟩, xs, x16, x17, xw⟩ := hP
  refine ⟨⟨?_, ?_, ?_, ?_⟩, fun j => ⟨?_, ?_, ?_⟩, fun s s0 s3 => ⟨?_, ?_, ?_⟩, fun p p0 p1 => ?_, ?_, ?_, ?_, ?_⟩
  · simp [jwr, gBegin]; rw [f _ _ (by unfold mDyn; omega)]; exact x1
  · simp [jwr, gBegin]; rw [f _ _ (by unfold mDyn; omega)]; exact x5
  · simp [jwr, gBegin]; rw [f _ _ (by unfold mDyn; omega)]; exact x16
  · simp [jwr, gBegin]; rw [f _ _ (by unfold mDyn; omega)]; exact x17
  · simp [jwr, gBegin]; rw [f _ _ (by unfold mDyn; omega)]; exact (xs j).1
  · simp [jwr, gBegin]; rw [f _ _ (by unfold mDyn; omega)]; exact (xs j).2.1
  · simp [jwr, gBegin]; rw [f _ _ (by unfold mDyn; omega)]; exact (xs j).2.2
  · simp [jwr, gBegin]; rw [f _ _ (by unfold mDyn; omega)]; exact (xw s s0 s3).2
  · simp [jwr, gBegin]; rw [(hs s s0 s3).1]; exact (xw s s0 s3).1
  · simp [jwr, gBegin]; exact (hs s s0 s3).2
  · have p1 : p < P 114 5 := by simpa [gBegin] using p1
    have := hp p p0 (by omega)
    rw [(xs (3 * p + 2)).2.2] at this
    simpa [moP, jwr, gBegin] using this
  · rw [gOr_zero _ (fun p _ _ => by simp [gBegin])]
    simp [jwr]
  · simp [jwr, gBegin]
  · simp [jwr, gBegin]
  · simp [jwr, gBegin]
def gEnd (g : jMm) : jMm := fun a b => if a = 133 ∧ 0 ≤ b ∧ b < g 114 5 ∧ g 123 b = 1 then 100 - g 117 (3 * b) else g a b
theorem mo_arr {L0 : jLo} {M g : jMm} {t : Int} {N : jLo → jMm → Prop} {R : Int → jMm → Prop} (S : moS M g) (v : gV g) (l0 : L0 0 = 114) (l1 : L0 1 = t) (hN : ∀ L' M', L' 0 = 114 → L' 1 = t → moS M' (gArr t g) → mFr M M' → N L' M') : (tSeq (tSet 2 (xC 0)) (tWh (kR (fun x y => x < y) (xV 2) (xGf (xV 0) 5)) (tSeq (tAst (xGr (xV 0) 18) (xV 2) (xTern (kAnd (kR (fun x y => x = y) (xAl (xGr (xV 0) 6) (xBin boMul (xC 3) (xV 2))) (xV 1)) (kR (fun x y => x ≠ y) (xV 2) (xGf (xV 0) 17))) (xC 1) (xAl (xGr (xV 0) 18) (xV 2)))) (tInc 2 1)))) L0 M N R := by
  have hn0 := v.1.2.2.1
  have hn := v.1.2.2.2.1
  have en := gN_eq hn0
  refine sq_ (st_c ?_)
  have mst : ∀ a b, 133 < a → gArr t g a b = g a b := fun a b ha => by
    have a1 : ¬ a = 123 := by omega
    simp [gArr, a1]
  refine up0 (gN g) (fun j L M1 => L 0 = 114 ∧ L 1 = t ∧ moS M1 (upto j (gArr t g) g) ∧ mFr M M1) rfl (by omega) ⟨l0, l1, ?_, mFr_rfl⟩ ?_ ?_ ?_
  · rw [show ((0 : Nat) : Int) = 0 from rfl, upto_0 (fun a b hb => by have : ¬ 0 ≤ b := by omega
                                                                      simp [gArr, this])]
    exact S
  · rintro j L M1 Q ⟨l0, -, S1, -⟩ hq
    show Q (M1 (L 0) 5) M1
    rw [l0, moS_n S1, ← en]; exact hq
  · rintro j L M1 N1 hj hi ⟨l0, l1, S1, F1⟩ hN1
    have hp' : (j : Int) < g 114 5 := by omega
    have P := moP_up (moS_get S1 (Int.natCast_nonneg j) (by rw [upto_lo (by decide)]; exact hp'))
    have e117 : M1 117 (3 * j) = g 117 (3 * j) := by rw [(S1.2.1 _).2.2, upto_lo (by decide)]
    have e17 : M1 114 17 = g 114 17 := by rw [S1.1.2.2.2, upto_lo (by decide)]
    have e1 : M1 123 j = g 123 j := P.1
    have i1 : ir (3 * (j : Int)) := ⟨by omega, by omega⟩
    have i3 : 0 ≤ 3 * (j : Int) ∧ 3 * (j : Int) < 42 := by omega
    have i4 : 0 ≤ (j : Int) ∧ (j : Int) < 14 := by omega
    have key : ∀ M2 : jMm, (∀ a b, (b ≠ (j : Int) ∨ a < 123 ∨ 133 < a) → M2 a b = M1 a b) → moP M2 (gArr t g) j → N1 L M2 := fun M2 hM hP2 => hN1 _ _ hi ⟨l0, l1, by have := moS_up (j : Int) S1 mst hM hP2; rwa [show ((j + 1 : Nat) : Int) = (j : Int) + 1 by omega], mFr_tr F1 (mFr_of j hM)⟩
    have i0 : (0 : Int) ≤ j := by omega
    by_cases c : g 117 (3 * j) = t ∧ ¬ (j : Int) = g 114 17
    · simp only [tAst, xTern, kAnd, kR, xV, xC, xGr, xGf, xAl, xBin, boMul, l0, l1, hi, mrf6, mrf18, mln117, mln123, e117, e17, e1]
      simp only [i1, i3, i4, c, true_and]
      simp [c.2]
      refine key _ (fun a b hab => ?_) ?_
      · unfold jwr; rw [if_neg (by omega)]
      · have c' : (0 : Int) ≤ j ∧ (j : Int) < g 114 5 ∧ g 117 (3 * j) = t ∧ ¬ (j : Int) = g 114 17 := ⟨i0, hp', c⟩
        unfold moP at P ⊢
        simp only [jwr, gArr, i0, hp', c]
        simp [c.2]
        exact ⟨P.2.1, P.2.2.1, P.2.2.2.1, P.2.2.2.2.1, P.2.2.2.2.2.1⟩
    · have c' : ¬ ((0 : Int) ≤ j ∧ (j : Int) < g 114 5 ∧ g 117 (3 * j) = t ∧ ¬ (j : Int) = g 114 17) := fun q => c q.2.2
      have fin : N1 L (jwr M1 123 j (g 123 j)) := by
        refine key _ (fun a b hab => ?_) ?_
        · unfold jwr; rw [if_neg (by omega)]
        · have eM : ∀ a, jwr M1 123 j (g 123 j) a j = M1 a j := fun a => by
            unfold jwr
            by_cases q : a = 123
            · rw [if_pos ⟨q, rfl⟩, q, e1]
            · rw [if_neg (fun z => q z.1)]
          have eG : ∀ a, gArr t g a j = g a j := fun a => by
            unfold gArr
            rw [if_neg (fun z => c' z.2)]
          unfold moP
          simp only [eM, eG]
          exact P
      simp only [tAst, xTern, kAnd, kR, xV, xC, xGr, xGf, xAl, xBin, boMul, l0, l1, hi, mrf6, mrf18, mln117, mln123, e117, e17, e1]
      simp only [i1, i3, i4, true_and]
      by_cases d : g 117 (3 * j) = t
      · have d2 : (j : Int) = g 114 17 := Classical.not_not.mp (fun q => c ⟨d, q⟩)
        simp only [d, d2]
        simp
        rw [← d2]; exact fin
      · simp only [d]
        simp
        exact fin
  · rintro L M1 hi ⟨l0, l1, S1, F1⟩
    rw [en, upto_n (fun a b hb => by
      rcases hb with hb | hb
      · have : ¬ b < g 114 5 := by omega
        simp [gArr, this]
      · have a1 : ¬ a = 123 := by omega
        simp [gArr, a1])] at S1
    exact hN _ _ l0 l1 S1 F1
