/-! the model: weight, may, the first of some -/
theorem dn0 {i : Nat} {B : jSt} {L : jLo} {M : jMm} {N : jLo → jMm → Prop} {R : Int → jMm → Prop} (n : Nat) (I : Nat → jLo → jMm → Prop) (ha : L i = (n : Int) - 1) (hI : I n L M)
    (hB : ∀ (j : Nat) (L : jLo) (M : jMm) (N1 : jLo → jMm → Prop), j < n → L i = (j : Int) → I (j + 1) L M → (∀ (L' : jLo) (M' : jMm), L' i = (j : Int) → I j (jup L' i ((j : Int) + -1)) M' → N1 L' M') → B L M N1 R)
    (hh : (n : Int) ≤ 2147483647) (hN : ∀ (L : jLo) (M : jMm), L i = -1 → I 0 L M → N L M) : tWh (kZ (fun x y => x ≥ y) (xV i)) (tSeq B (tInc i (-1))) L M N R := by
  refine wh_rule (fun k L M => L i = (k : Int) - 1 ∧ k ≤ n ∧ I k L M) ?_ (k := n) ⟨ha, Nat.le_refl _, hI⟩
  rintro k L M ⟨h1, h2, h3⟩ N' hN'
  refine ⟨fun hc => ?_, fun hc => ?_⟩
  · have hc : L i ≥ 0 := hc
    obtain ⟨j, rfl⟩ : ∃ j : Nat, k = j + 1 := ⟨k - 1, by omega⟩
    refine hB j L M _ (by omega) (by omega) h3 (fun L' M' e hI' => ?_)
    refine ⟨⟨by omega, by omega⟩, hN' j _ M' (by omega) ⟨?_, by omega, ?_⟩⟩
    · show (if i = i then L' i + -1 else L' i) = (j : Int) - 1
      rw [if_pos rfl, e]; omega
    · rw [e]; exact hI'
  · have hc : ¬ L i ≥ 0 := hc
    have : k = 0 := by omega
    subst this
    exact hN L M (by omega) h3
theorem st_v {i : Nat} {e : jEx} {v : Int} {L : jLo} {M : jMm} {N : jLo → jMm → Prop} {R : Int → jMm → Prop} (h : ∀ Q : Int → jMm → Prop, e L M Q = Q v M) (k : N (jup L i v) M) : tSet i e L M N R := by
  show e L M _
  rw [h]; exact k
theorem set_tern {i : Nat} {c : jCn} {L : jLo} {M : jMm} {N : jLo → jMm → Prop} {R : Int → jMm → Prop} (P : Prop) [Decidable P] (hc : ∀ T F : jMm → Prop, c L M T F = ((P → T M) ∧ (¬ P → F M))) (k : N (jup L i (if P then 1 else 0)) M) : tSet i (xTern c (xC 1) (xC 0)) L M N R := by
  show c L M _ _
  rw [hc]
  by_cases h : P
  · rw [if_pos h] at k; exact ⟨fun _ => k, fun n => absurd h n⟩
  · rw [if_neg h] at k; exact ⟨fun n => absurd n h, fun _ => k⟩
theorem set_sel {i : Nat} {c : jCn} {a b : jEx} {u v : Int} {L : jLo} {M : jMm} {N : jLo → jMm → Prop} {R : Int → jMm → Prop} (P : Prop) [Decidable P] (hc : ∀ T F : jMm → Prop, c L M T F = ((P → T M) ∧ (¬ P → F M))) (ha : P → ∀ Q : Int → jMm → Prop, a L M Q = Q u M) (hb : ¬ P → ∀ Q : Int → jMm → Prop, b L M Q = Q v M) (k : N (jup L i (if P then u else v)) M) : tSet i (xTern c a b) L M N R := by
  show c L M _ _
  rw [hc]
  by_cases h : P
  · rw [if_pos h] at k; exact ⟨fun _ => by rw [ha h]; exact k, fun n => absurd h n⟩
  · rw [if_neg h] at k; exact ⟨fun n => absurd n h, fun _ => by rw [hb h]; exact k⟩
theorem ret_tern {c : jCn} {L : jLo} {M : jMm} {N : jLo → jMm → Prop} {R : Int → jMm → Prop} (P : Prop) [Decidable P] (hc : ∀ T F : jMm → Prop, c L M T F = ((P → T M) ∧ (¬ P → F M))) (k : R (if P then 1 else 0) M) : tRetZ (xTern c (xC 1) (xC 0)) L M N R := by
  show c L M _ _
  rw [hc]
  by_cases h : P
  · rw [if_pos h] at k; exact ⟨fun _ => ⟨.inr rfl, k⟩, fun n => absurd h n⟩
  · rw [if_neg h] at k; exact ⟨fun n => absurd n h, fun _ => ⟨.inl rfl, k⟩⟩
theorem if_pc {c : jCn} {a b : jSt} {L : jLo} {M : jMm} {N : jLo → jMm → Prop} {R : Int → jMm → Prop} (P : Prop) (hc : ∀ T F : jMm → Prop, c L M T F = ((P → T M) ∧ (¬ P → F M))) (ha : P → a L M N R) (hb : ¬ P → b L M N R) : tIf c a b L M N R := by
  show c L M _ _
  rw [hc]
  exact ⟨ha, hb⟩
theorem mo_weight {M g : jMm} {s : Int} {Q : Int → jMm → Prop} (S : moS M g) (hn : g 114 5 ≤ 14) (hn0 : 0 ≤ g 114 5) : f_X7_weight [114, s] M Q = Q (gWeight g s) M := by
  refine dt_eq dt_f_X7_weight (fun Q hq => ?_) Q
  unfold f_X7_weight
  have en := gN_eq hn0
  refine mt_ (sq_ (st_c (sq_ (sq_ (st_c ?_)))))
  refine up0 (gN g) (fun j L M' => M' = M ∧ L 0 = 114 ∧ L 1 = s ∧ L 2 = sm (fun p => if gOn g p s then wt (g 124 p) else 0) j) rfl (by omega) ⟨rfl, rfl, rfl, rfl⟩ ?_ ?_ ?_
  · rintro j L M' Q ⟨rfl, l0, -⟩ hq
    show Q (M' (L 0) 5) M'
    rw [l0, mo_n S, ← en]; exact hq
  · rintro j L M' N1 hj hi ⟨rfl, l0, l1, l2⟩ hN
    have hp : (j : Int) < g 114 5 := by omega
    have h2 : (j : Int) < 14 := by omega
    obtain ⟨-, e4, -⟩ := S.2.2.2.1 j (by omega) hp
    have b0 : 0 ≤ sm (fun p => if gOn g p s then wt (g 124 p) else 0) j := sm_nonneg j (fun p _ _ => by have := wt_le (g 124 p); split <;> omega)
    have b1 : sm (fun p => if gOn g p s then wt (g 124 p) else 0) j ≤ 4 * j := sm_le 4 j (fun p _ _ => by have := wt_le (g 124 p); split <;> omega)
    have b2 := wt_le (g 124 j)
    have key : ∀ w : Int, w = sm (fun p => if gOn g p s then wt (g 124 p) else 0) (j + 1) → N1 (jup L 2 w) M' := fun w hw => hN _ _ hi ⟨rfl, l0, l1, hw⟩
    by_cases c : gOn g j s
    · simp (disch := omega) only [tSet, xBin, xTern, kZ, xCall, xsC, xsN, xV, xC, xAl, xGr, boAdd, l0, l1, l2, hi, mrf19, mln124, mo_isOn S hn (Int.natCast_nonneg j) hp, if_pos c, e4, ixE, irE, mo_weightOf]
      refine ⟨fun _ => key _ ?_, fun h => absurd (by decide) h⟩
      simp only [sm, if_pos c]
    · simp (disch := omega) only [tSet, xBin, xTern, kZ, xCall, xsC, xsN, xV, xC, xAl, xGr, boAdd, l0, l1, l2, hi, mrf19, mln124, mo_isOn S hn (Int.natCast_nonneg j) hp, if_neg c, e4, ixE, irE, mo_weightOf]
      refine ⟨fun h => absurd rfl h, fun _ => key _ ?_⟩
      simp only [sm, if_neg c]
  · rintro L M' hi ⟨rfl, -, -, l2⟩
    show Q (L 2) M'
    rw [l2]; exact hq
theorem mo_may {M g : jMm} {p s y : Int} {Q : Int → jMm → Prop} (S : moS M g) (hn : g 114 5 ≤ 14) (hn0 : 0 ≤ g 114 5) (hp0 : 0 ≤ p) (hp1 : p < g 114 5) (hs0 : 0 ≤ s) (hs1 : s < 3) : f_X7_may [114, p, s, y] M Q = Q (if gMay g p s y = true then 1 else 0) M := by
  refine dt_eq dt_f_X7_may (fun Q hq => ?_) Q
  unfold f_X7_may
  have en := gN_eq hn0
  have hp14 : p < 14 := by omega
  obtain ⟨-, ek, -⟩ := S.2.2.2.1 p hp0 hp1
  refine mt_ (sq_ (st_v (v := g 124 p) (fun Q => by simp [jMeth, jIn, jup, tSeq, tIf, tSkip, tSet, tInc, tPut, tPutZ, tPutO, tAst, tAstO, tDo, tRet, tRetZ, tRet0, kAnd, kOr, kNot, kZ, kR, xV, xC, xGf, xGr, xAl, xAr, xSt, xLen, xBin, xUn, xNeg, xTern, xCall, xsC, xsN, boAdd, boSub, boMul, boDiv, boRem, boMax, boMin, boOr, boAnd, boShl, boShr, mrf19, mln124, ek, hp0, hp14]) (sq_ (st_c (sq_ (sq_ (st_c ?_)))))))
  refine up0 (gN g) (fun j L M' => M' = M ∧ L 0 = 114 ∧ L 1 = p ∧ L 2 = s ∧ L 3 = y ∧ L 4 = g 124 p ∧ L 5 = if gGrN g s j = true then 1 else 0) rfl (by omega) ⟨rfl, rfl, rfl, rfl, rfl, rfl, rfl⟩ ?_ ?_ ?_
  · rintro j L M' Q ⟨rfl, l0, -⟩ hq
    show Q (M' (L 0) 5) M'
    rw [l0, mo_n S, ← en]; exact hq
  · rintro j L M' N1 hj hi ⟨rfl, l0, l1, l2, l3, l4, l5⟩ hN
    have hp : (j : Int) < g 114 5 := by omega
    have h2 : (j : Int) < 14 := by omega
    obtain ⟨-, e4, -, -, -, -, e2, -⟩ := S.2.2.2.1 j (by omega) hp
    refine set_tern (gGrN g s (j + 1) = true) (fun T F => propext ?_) (hN _ _ hi ⟨rfl, l0, l1, l2, l3, l4, rfl⟩)
    by_cases c0 : gGrN g s j = true
    · simp [xTern, kAnd, kOr, kZ, xV, xC, l5, c0, gGrN]
    · by_cases c : gOn g j s
      · obtain ⟨-, e3, -⟩ := e2 c.1
        by_cases c2 : g 126 j < 2 <;> by_cases c3 : g 124 j = 3 <;> simp [-Int.not_lt, tSet, xTern, kAnd, kOr, kZ, kR, xCall, xsC, xsN, xV, xC, xAl, xGr, l0, l1, l2, l3, l4, l5, hi, mrf19, mrf21, mln124, mln126, mo_isOn S hn (Int.natCast_nonneg j) hp, c, e3, e4, c2, c3, h2, c0, gGrN]
      · have c' : ¬ (g 123 j = 2 ∧ g 125 j = s) := c
        simp [tSet, xTern, kAnd, kOr, kZ, kR, xCall, xsC, xsN, xV, xC, xAl, xGr, l0, l1, l2, l3, l4, l5, hi, mrf19, mrf21, mln124, mln126, mo_isOn S hn (Int.natCast_nonneg j) hp, c', e4, h2, c0, gGrN]
  · rintro L M' hi ⟨rfl, l0, l1, l2, l3, l4, l5⟩
    obtain ⟨e5, -, -⟩ := S.2.2.1 s hs0 hs1
    have er : M' 114 16 = g 114 16 := S.1.2.2.1
    have hw : ∀ Q : Int → jMm → Prop, f_X7_who [114, s, 0, 1] M' Q = Q (gWho g s 0 1) M' := fun Q => mo_who S hn hn0
    refine sq_ (set_tern (g 114 16 = 0 ∨ y = (if g 124 p = 1 then 1 else 0)) (fun T F => propext ?_) ?_)
    · by_cases c1 : g 114 16 = 0 <;> by_cases c2 : g 124 p = 1 <;> simp [jMeth, jIn, jup, tSeq, tIf, tSkip, tSet, tInc, tPut, tPutZ, tPutO, tAst, tAstO, tDo, tRet, tRetZ, tRet0, kAnd, kOr, kNot, kZ, kR, xV, xC, xGf, xGr, xAl, xAr, xSt, xLen, xBin, xUn, xNeg, xTern, xCall, xsC, xsN, boAdd, boSub, boMul, boDiv, boRem, boMax, boMin, boOr, boAnd, boShl, boShr, l0, l3, l4, er, c1, c2]
    refine sq_ (set_tern (g 124 p ≠ 2 ∨ (y = 0 ∧ gWho g s 0 1 < 0)) (fun T F => propext ?_) ?_)
    · by_cases c1 : g 124 p = 2 <;> by_cases c2 : y = 0 <;> simp [jMeth, jIn, jup, tSeq, tIf, tSkip, tSet, tInc, tPut, tPutZ, tPutO, tAst, tAstO, tDo, tRet, tRetZ, tRet0, kAnd, kOr, kNot, kZ, kR, xV, xC, xGf, xGr, xAl, xAr, xSt, xLen, xBin, xUn, xNeg, xTern, xCall, xsC, xsN, boAdd, boSub, boMul, boDiv, boRem, boMax, boMin, boOr, boAnd, boShl, boShr, l0, l2, l3, l4, hw, c1, c2]
    refine ret_tern ((g 114 16 = 0 ∨ y = (if g 124 p = 1 then 1 else 0)) ∧ (g 124 p ≠ 2 ∨ (y = 0 ∧ gWho g s 0 1 < 0)) ∧ (g 124 p ≠ 4 ∨ g 122 s = 1) ∧ (g 124 p ≠ 3 ∨ gGrN g s (gN g) = true)) (fun T F => propext ?_) ?_
    · by_cases cA : (g 114 16 = 0 ∨ y = (if g 124 p = 1 then 1 else 0))
      · by_cases cB : (g 124 p ≠ 2 ∨ (y = 0 ∧ gWho g s 0 1 < 0))
        · rw [if_pos cA, if_pos cB]
          simp only [eq_true cA, eq_true cB, true_and]
          by_cases c1 : g 124 p = 4 <;> by_cases c2 : g 122 s = 1 <;> by_cases c3 : g 124 p = 3 <;> by_cases c4 : gGrN g s (gN g) = true <;> simp [kAnd, kOr, kR, kZ, xV, xC, xAl, xGr, jup, l0, l2, l4, l5, mrf14, mln122, e5, hs0, hs1, c1, c2, c3, c4]
        · rw [if_pos cA, if_neg cB]
          simp only [kAnd, kZ, xV, jup]
          simp [cB]
      · rw [if_neg cA]
        simp only [kAnd, kZ, xV, jup]
        simp [cA]
    · simp only [gMay, decide_eq_true_eq] at hq
      exact hq
/-! the first of some -/
def isFst (c : Int → Bool) (key : Int → Int) (lo hi r : Int) : Prop := (r = -4 ∧ ∀ q, lo ≤ q → q < hi → c q = false) ∨ (lo ≤ r ∧ r < hi ∧ c r = true ∧ ∀ q, lo ≤ q → q < hi → c q = true → key r < key q ∨ (key r = key q ∧ r ≤ q))
theorem isFst_gFst (c : Int → Bool) (key : Int → Int) : ∀ m : Nat, isFst c key 0 m (gFst c key m)
  | 0 => .inl ⟨rfl, fun q h0 h1 => by omega⟩
  | m + 1 => by
    have ih := isFst_gFst c key m
    show isFst c key 0 ((m + 1 : Nat) : Int) (if c m = true ∧ (gFst c key m < 0 ∨ key m < key (gFst c key m)) then (m : Int) else gFst c key m)
    generalize gFst c key m = r at ih
    have em : ((m + 1 : Nat) : Int) = (m : Int) + 1 := by omega
    rw [em]
    split
    · rename_i h
      refine .inr ⟨by omega, by omega, h.1, fun q h0 h1 hq => ?_⟩
      by_cases e : q = m
      · subst e; exact .inr ⟨rfl, by omega⟩
      · rcases ih with ⟨-, ih⟩ | ⟨a1, a2, a3, ih⟩
        · have := ih q h0 (by omega); rw [this] at hq; cases hq
        · have := ih q h0 (by omega) hq
          rcases h.2 with h2 | h2 <;> omega
    · rename_i h
      rcases ih with ⟨e1, ih⟩ | ⟨a1, a2, a3, ih⟩
      · refine .inl ⟨e1, fun q h0 h1 => ?_⟩
        by_cases e : q = m
        · subst e
          cases hc : c m
          · rfl
          · exact absurd ⟨hc, .inl (by omega)⟩ h
        · exact ih q h0 (by omega)
      · refine .inr ⟨a1, by omega, a3, fun q h0 h1 hq => ?_⟩
        by_cases e : q = m
        · subst e
          have : ¬ key m < key r := fun q => h ⟨hq, .inr q⟩
          omega
        · exact ih q h0 (by omega) hq
theorem isFst_dn {c : Int → Bool} {key : Int → Int} {j n r : Int} (h : isFst c key (j + 1) n r) (hj : j < n) (h0 : 0 ≤ j) : isFst c key j n (if c j = true ∧ (r < 0 ∨ key j ≤ key r) then j else r) := by
  split
  · rename_i hc
    refine .inr ⟨by omega, hj, hc.1, fun q h0 h1 hq => ?_⟩
    by_cases e : q = j
    · subst e; exact .inr ⟨rfl, by omega⟩
    · rcases h with ⟨e1, ih⟩ | ⟨a1, a2, a3, ih⟩
      · have := ih q (by omega) h1; rw [this] at hq; cases hq
      · have := ih q (by omega) h1 hq
        rcases hc.2 with h2 | h2 <;> omega
  · rename_i hc
    rcases h with ⟨e1, ih⟩ | ⟨a1, a2, a3, ih⟩
    · refine .inl ⟨e1, fun q h0 h1 => ?_⟩
      by_cases e : q = j
      · subst e
        cases hcj : c q
        · rfl
        · exact absurd ⟨hcj, .inl (by omega)⟩ hc
      · exact ih q (by omega) h1
    · refine .inr ⟨by omega, a2, a3, fun q h0 h1 hq => ?_⟩
      by_cases e : q = j
      · subst e
        have : ¬ key q ≤ key r := fun z => hc ⟨hq, .inr z⟩
        omega
      · exact ih q (by omega) h1 hq
theorem isFst_uniq {c : Int → Bool} {key : Int → Int} {lo hi r r' : Int} (h : isFst c key lo hi r) (h' : isFst c key lo hi r') : r = r' := by
  rcases h with ⟨e1, ih⟩ | ⟨a1, a2, a3, ih⟩ <;> rcases h' with ⟨e2, ih'⟩ | ⟨b1, b2, b3, ih'⟩
  · omega
  · have := ih r' b1 b2; rw [this] at b3; cases b3
  · have := ih' r a1 a2; rw [this] at a3; cases a3
  · have := ih r' b1 b2 b3
    have := ih' r a1 a2 a3
    omega
/-- what a change at one of the people keeps -/
theorem moS_at {M h M' h' : jMm} (j : Int) (S : moS M h) (hM : ∀ a b, (b ≠ j ∨ a < 123 ∨ 133 < a) → M' a b = M a b) (hg : ∀ a b, (b ≠ j ∨ a < 123 ∨ 133 < a) → h' a b = h a b) (hP : moP M' h' j) : moS M' h' := by
  obtain ⟨⟨s1, s2, s3, s4⟩, sj, ss, sp, s5, s6, s7, s8⟩ := S
  have e2 : h' 114 5 = h 114 5 := hg _ _ (.inr (.inl (by decide)))
  refine ⟨⟨?_, ?_, ?_, ?_⟩, ?_, ?_, ?_, ?_, ?_, ?_, ?_⟩
  · rw [hM _ _ (.inr (.inl (by decide))), hg _ _ (.inr (.inl (by decide))), s1]
  · rw [hM _ _ (.inr (.inl (by decide))), hg _ _ (.inr (.inl (by decide))), s2]
  · rw [hM _ _ (.inr (.inl (by decide))), hg _ _ (.inr (.inl (by decide))), s3]
  · rw [hM _ _ (.inr (.inl (by decide))), hg _ _ (.inr (.inl (by decide))), s4]
  · intro i
    have := sj i
    refine ⟨?_, ?_, ?_⟩ <;> rw [hM _ _ (.inr (.inl (by decide))), hg _ _ (.inr (.inl (by decide)))]
    · exact this.1
    · exact this.2.1
    · exact this.2.2
  · intro i h0 h1
    have := ss i h0 h1
    refine ⟨?_, ?_, ?_⟩
    · rw [hM _ _ (.inr (.inl (by decide))), hg _ _ (.inr (.inl (by decide)))]; exact this.1
    · rw [hM _ _ (.inr (.inr (by decide))), hg _ _ (.inr (.inr (by decide)))]; exact this.2.1
    · rw [hM _ _ (.inr (.inr (by decide))), hg _ _ (.inr (.inr (by decide)))]; exact this.2.2
  · intro p h0 h1
    by_cases e : p = j
    · subst e; exact hP
    · have := sp p h0 (by rw [← e2]; exact h1)
      unfold moP at this ⊢
      rw [hM 123 _ (.inl e), hM 124 _ (.inl e), hM 125 _ (.inl e), hM 126 _ (.inl e), hM 127 _ (.inl e), hM 128 _ (.inl e), hM 129 _ (.inl e), hM 130 _ (.inl e), hM 131 _ (.inl e), hM 132 _ (.inl e), hM 133 _ (.inl e), hg 123 _ (.inl e), hg 124 _ (.inl e), hg 125 _ (.inl e), hg 126 _ (.inl e), hg 127 _ (.inl e), hg 128 _ (.inl e), hg 129 _ (.inl e), hg 130 _ (.inl e), hg 131 _ (.inl e), hg 132 _ (.inl e), hg 133 _ (.inl e)]
      exact this
  · have e : h' 200 = h 200 := funext fun b => hg _ _ (.inr (.inr (by decide)))
    rw [hM _ _ (.inr (.inl (by decide))), e]
    show M 114 31 = gOr (h 200) (h' 114 5).toNat
    rw [e2]; exact s5
  · rw [hM _ _ (.inr (.inl (by decide))), hg _ _ (.inr (.inl (by decide))), s6]
  · rw [hM _ _ (.inr (.inl (by decide))), hg _ _ (.inr (.inl (by decide))), s7]
  · rw [hM _ _ (.inr (.inl (by decide))), hg _ _ (.inr (.inl (by decide))), s8]
/-- what the day of the model may write -/
def mDyn (a b : Int) : Prop := (123 ≤ a ∧ a ≤ 135) ∨ (a = 114 ∧ 31 ≤ b ∧ b ≤ 34)
def mFr (M M' : jMm) : Prop := ∀ a b, ¬ mDyn a b → M' a b = M a b
theorem mFr_rfl {M : jMm} : mFr M M := fun _ _ _ => rfl
theorem mFr_tr {M M' M'' : jMm} (h : mFr M M') (h' : mFr M' M'') : mFr M M'' := fun a b n => (h' a b n).trans (h a b n)
theorem mFr_wr {M M' : jMm} {k j v : Int} (h : mFr M M') (hd : mDyn k j) : mFr M (jwr M' k j v) := fun a b n => by
  show (if a = k ∧ b = j then v else M' a b) = M a b
  rw [if_neg (fun q => n (by rw [q.1, q.2]; exact hd))]
  exact h a b n
