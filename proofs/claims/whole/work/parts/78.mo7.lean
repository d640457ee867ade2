/-! bits: a set of people -/
theorem b_or_of (x y : Int) : Int32.ofInt (b_or x y) = Int32.ofInt x ||| Int32.ofInt y := of_to _
theorem b_or_assoc (x y z : Int) : b_or (b_or x y) z = b_or x (b_or y z) := by
  show (Int32.ofInt (b_or x y) ||| Int32.ofInt z).toInt = (Int32.ofInt x ||| Int32.ofInt (b_or y z)).toInt
  rw [b_or_of, b_or_of, Int32.or_assoc]
theorem b_or_comm (x y : Int) : b_or x y = b_or y x := by
  show (Int32.ofInt x ||| Int32.ofInt y).toInt = (Int32.ofInt y ||| Int32.ofInt x).toInt
  rw [Int32.or_comm]
theorem b_shl_of (x y : Int) : Int32.ofInt (b_shl x y) = Int32.ofInt x <<< (Int32.ofInt y &&& 31) := of_to _
theorem b_or_shl (q : Int) : b_or (b_shl 1 q) (b_shl 1 q) = b_shl 1 q := by
  show (Int32.ofInt (b_shl 1 q) ||| Int32.ofInt (b_shl 1 q)).toInt = b_shl 1 q
  rw [Int32.or_self, b_shl_of]; rfl
theorem b_or_0 (q : Int) : b_or 0 (b_shl 1 q) = b_shl 1 q := by
  show (Int32.ofInt 0 ||| Int32.ofInt (b_shl 1 q)).toInt = b_shl 1 q
  rw [b_shl_of]
  show (0 ||| _ : Int32).toInt = _
  rw [Int32.zero_or]; rfl
theorem gOr_congr {h k : Int → Int} : ∀ m : Nat, (∀ p : Int, 0 ≤ p → p < m → h p = k p) → gOr h m = gOr k m
  | 0, _ => rfl
  | m + 1, e => by
    show b_or (gOr h m) (if h m = 1 then b_shl 1 m else 0) = b_or (gOr k m) (if k m = 1 then b_shl 1 m else 0)
    rw [gOr_congr m (fun p a b => e p a (by omega)), e m (by omega) (by omega)]
theorem gOr_set {h k : Int → Int} {q : Int} : ∀ m : Nat, 0 ≤ q → q < m → (∀ p : Int, 0 ≤ p → p < m → k p = if p = q then 1 else h p) → b_or (gOr h m) (b_shl 1 q) = gOr k m
  | 0, h0, h1, _ => by omega
  | m + 1, h0, h1, e => by
    show b_or (b_or (gOr h m) (if h m = 1 then b_shl 1 m else 0)) (b_shl 1 q) = b_or (gOr k m) (if k m = 1 then b_shl 1 m else 0)
    by_cases c : q = m
    · have e1 : gOr k m = gOr h m := gOr_congr m (fun p a b => by rw [e p a (by omega), if_neg (by omega)])
      rw [e m (by omega) (by omega), if_pos c.symm, if_pos rfl, e1, b_or_assoc]
      subst c
      congr 1
      split
      · exact b_or_shl _
      · exact b_or_0 _
    · have ek : k m = h m := by rw [e m (by omega) (by omega), if_neg (fun z => c z.symm)]
      rw [ek, b_or_assoc, b_or_comm (if h m = 1 then b_shl 1 m else 0), ← b_or_assoc, gOr_set m h0 (by omega) (fun p a b => e p a (by omega))]
/-! the model: loads -/
theorem sq_cut {a b : jSt} {L : jLo} {M : jMm} {N : jLo → jMm → Prop} {R : Int → jMm → Prop} (P : jLo → jMm → Prop) (h1 : ∀ N1 : jLo → jMm → Prop, (∀ L' M', P L' M' → N1 L' M') → a L M N1 R) (h2 : ∀ L' M', P L' M' → b L' M' N R) : tSeq a b L M N R := h1 _ h2
theorem moS_at2 {M h M' h' : jMm} (j : Int) (S : moS M h) (hM : ∀ a b, (b ≠ j ∨ a < 123 ∨ 133 < a) → ¬ (a = 114 ∧ b = 31) → M' a b = M a b) (hg : ∀ a b, (b ≠ j ∨ a < 123 ∨ 133 < a) → a ≠ 200 → h' a b = h a b) (hP : moP M' h' j) (hF : M' 114 31 = gOr (h' 200) (gN h')) : moS M' h' := by
  obtain ⟨⟨s1, s2, s3, s4⟩, sj, ss, sp, s5, s6, s7, s8⟩ := S
  have e2 : h' 114 5 = h 114 5 := hg _ _ (.inr (.inl (by decide))) (by decide)
  refine ⟨⟨?_, ?_, ?_, ?_⟩, ?_, ?_, ?_, hF, ?_, ?_, ?_⟩
  · rw [hM _ _ (.inr (.inl (by decide))) (by decide), hg _ _ (.inr (.inl (by decide))) (by decide), s1]
  · rw [hM _ _ (.inr (.inl (by decide))) (by decide), hg _ _ (.inr (.inl (by decide))) (by decide), s2]
  · rw [hM _ _ (.inr (.inl (by decide))) (by decide), hg _ _ (.inr (.inl (by decide))) (by decide), s3]
  · rw [hM _ _ (.inr (.inl (by decide))) (by decide), hg _ _ (.inr (.inl (by decide))) (by decide), s4]
  · intro i
    have := sj i
    refine ⟨?_, ?_, ?_⟩ <;> rw [hM _ _ (.inr (.inl (by decide))) (by omega), hg _ _ (.inr (.inl (by decide))) (by decide)]
    · exact this.1
    · exact this.2.1
    · exact this.2.2
  · intro i h0 h1
    have := ss i h0 h1
    refine ⟨?_, ?_, ?_⟩
    · rw [hM _ _ (.inr (.inl (by decide))) (by omega), hg _ _ (.inr (.inl (by decide))) (by decide)]; exact this.1
    · rw [hM _ _ (.inr (.inr (by decide))) (by omega), hg _ _ (.inr (.inr (by decide))) (by decide)]; exact this.2.1
    · rw [hM _ _ (.inr (.inr (by decide))) (by omega), hg _ _ (.inr (.inr (by decide))) (by decide)]; exact this.2.2
  · intro p h0 h1
    by_cases e : p = j
    · subst e; exact hP
    · have := sp p h0 (by rw [← e2]; exact h1)
      unfold moP at this ⊢
      have hM' : ∀ a, 123 ≤ a → M' a p = M a p := fun a ha => hM a p (.inl e) (by omega)
      have hg' : ∀ a, a ≠ 200 → h' a p = h a p := fun a ha => hg a p (.inl e) ha
      rw [hM' 123 (by decide), hM' 124 (by decide), hM' 125 (by decide), hM' 126 (by decide), hM' 127 (by decide), hM' 128 (by decide), hM' 129 (by decide), hM' 130 (by decide), hM' 131 (by decide), hM' 132 (by decide), hM' 133 (by decide), hg' 123 (by decide), hg' 124 (by decide), hg' 125 (by decide), hg' 126 (by decide), hg' 127 (by decide), hg' 128 (by decide), hg' 129 (by decide), hg' 130 (by decide), hg' 131 (by decide), hg' 132 (by decide), hg' 133 (by decide)]
      exact this
  · rw [hM _ _ (.inr (.inl (by decide))) (by decide), hg _ _ (.inr (.inl (by decide))) (by decide), s6]
  · rw [hM _ _ (.inr (.inl (by decide))) (by decide), hg _ _ (.inr (.inl (by decide))) (by decide), s7]
  · rw [hM _ _ (.inr (.inl (by decide))) (by decide), hg _ _ (.inr (.inl (by decide))) (by decide), s8]
theorem mo_loads {M g : jMm} {s : Int} {Q : Int → jMm → Prop} (S : moS M g) {T B : Int} (ok : gOK T B g) (hB : B ≤ 100000) (s0 : 0 ≤ s) (s1 : s < g 114 1) (hq : ∀ M', moS M' (gLoad s g) → mFr M M' → Q 0 M') : f_X7_loads [114, s] M Q := by
  unfold f_X7_loads
  have v := ok.1
  have hk := v.1.2.1
  have hn0 := v.1.2.2.1
  have hn := v.1.2.2.2.1
  have s3 : s < 3 := by omega
  have en := gN_eq hn0
  have hc := ok.2.2.2.2
  have he := en_le (s := s) v
  have vs := v.2.2.1 s s0 s1
  have v4 := v.2.2.2
  have w0 := weight_le (g := g) (s := s) hn0 hn
  have gs := ok.2.2.1 s s0 s3
  unfold gSt at gs
  have hp0 : 0 ≤ gWeight g s * g 115 6 := Int.mul_nonneg w0.1 (by omega)
  have hp1 : gWeight g s * g 115 6 ≤ 56 * 10 := Int.mul_le_mul w0.2 (by omega) (by omega) (by decide)
  obtain ⟨e122, e134, e135⟩ := S.2.2.1 s s0 s3
  refine mt_ (sq_ (st_v (v := gWeight g s) (fun Q => ?_) (sq_ (set_tern (g 135 s > 0) (fun T F => propext ?_) ?_))))
  · show f_X7_weight [114, s] M Q = _
    exact mo_weight S hn hn0
  · simp [kZ, xV, xAl, xGr, jIn, jup, mrf30, mln135, s0, s3, e135]
  have ew : (if g 135 s > 0 then (1 : Int) else 0) = 0 ∨ (if g 135 s > 0 then (1 : Int) else 0) = 1 := by split <;> simp
  have ewp : (if g 135 s > 0 then (1 : Int) else 0) ≠ 0 ↔ g 135 s > 0 := by split <;> simp_all
  generalize hwas : (if g 135 s > 0 then (1 : Int) else 0) = was at *
  -- energy
  refine sq_cut (fun L' M1 => L' 0 = 114 ∧ L' 1 = s ∧ L' 2 = gWeight g s ∧ L' 3 = was ∧ moS M1 (jwr g 114 34 (g 114 34 + gEn s g)) ∧ mFr M M1) (fun N1 hN1 => ?_) ?_
  · refine if_pc (g 134 s > 0 ∧ ¬ g 135 s > 0) (fun T F => propext ?_) (fun c => ?_) (fun c => ?_)
    · by_cases c1 : g 134 s > 0 <;> by_cases c2 : g 135 s > 0 <;> simp [kAnd, kNot, kZ, xV, xC, xAl, xGr, jIn, jup, mrf29, mln134, s0, s3, e134, ewp, c1, c2, -Int.not_lt, -Int.not_le]
    · have e5 : M 115 5 = g 115 5 := (S.2.1 5).1
      have e6 : M 115 6 = g 115 6 := (S.2.1 6).1
      have e34 : M 114 34 = g 114 34 := S.2.2.2.2.2.2.2
      have hd : 0 ≤ gWeight g s * g 115 6 / 10 ∧ gWeight g s * g 115 6 / 10 ≤ 56 := by omega
      refine sq_ (st_v (v := g 115 5 - gWeight g s * g 115 6 / 10) (fun Q => ?_) ?_)
      · simp (disch := omega) only [xBin, boSub, boMul, boDiv, xAl, xGr, xV, xC, jIn, jup, mrf0, mln115, ixE, irE, e5, e6, reduceIte, Nat.reduceEqDiff]
        exact andT ⟨hp0, by decide⟩
      have hE : gEn s g = (if g 134 s = 1 then g 115 5 + gWeight g s else if g 115 5 - gWeight g s * g 115 6 / 10 < 0 then 0 else g 115 5 - gWeight g s * g 115 6 / 10) := by
        unfold gEn; rw [if_pos c]
      have ir1 : ir (g 114 34 + gEn s g) := ⟨by omega, by omega⟩
      have k2 : ∀ v, v = gEn s g → ir (g 114 34 + v) ∧ N1 (jup (jup (jup (jIn [0, 1] [114, s]) 2 (gWeight g s)) 3 was) 4 (g 115 5 - gWeight g s * g 115 6 / 10)) (jwr M 114 34 (g 114 34 + v)) := fun v hv => by
        subst hv
        exact ⟨ir1, hN1 _ _ ⟨rfl, rfl, rfl, rfl, moS_cnt S (.inr (.inr rfl)), mFr_wr mFr_rfl (.inr ⟨rfl, by decide, by decide⟩)⟩⟩
      show (xTern _ _ _ _ _ (fun v M1 => ir (M 114 34 + v) ∧ N1 _ (jwr M1 114 34 (M 114 34 + v))))
      rw [e34]
      generalize hL : jup (jup (jup (jIn [0, 1] [114, s]) 2 (gWeight g s)) 3 was) 4 (g 115 5 - gWeight g s * g 115 6 / 10) = L' at *
      have l0 : L' 0 = 114 := by rw [← hL]; rfl
      have l1 : L' 1 = s := by rw [← hL]; rfl
      have l2 : L' 2 = gWeight g s := by rw [← hL]; rfl
      have l4 : L' 4 = g 115 5 - gWeight g s * g 115 6 / 10 := by rw [← hL]; rfl
      have i5 : ir (g 115 5 + gWeight g s) := ⟨by omega, by omega⟩
      by_cases c1 : g 134 s = 1
      · rw [if_pos c1] at hE
        simp only [xTern, kR, kZ, xAl, xGr, xV, xC, xBin, boAdd, mrf0, mrf29, mln115, mln134, l0, l1, l2, l4, e134, e5, c1]
        refine ⟨⟨s0, s3⟩, fun _ => ⟨by decide, i5, k2 _ hE.symm⟩, fun q => absurd trivial q⟩
      · rw [if_neg c1] at hE
        simp only [xTern, kR, kZ, xAl, xGr, xV, xC, xBin, boAdd, mrf0, mrf29, mln115, mln134, l0, l1, l2, l4, e134, e5]
        refine ⟨⟨s0, s3⟩, fun q => absurd q c1, fun _ => ⟨fun q => k2 _ ?_, fun q => k2 _ ?_⟩⟩
        · rw [if_pos q] at hE; exact hE.symm
        · rw [if_neg q] at hE; exact hE.symm
    · refine hN1 _ _ ⟨rfl, rfl, rfl, rfl, ?_, mFr_rfl⟩
      have e : jwr g 114 34 (g 114 34 + gEn s g) = g := by
        funext a b
        unfold gEn jwr
        rw [if_neg c]
        split
        · rename_i q; rw [q.1, q.2]; omega
        · rfl
      rw [e]; exact S
  rintro L1 M1 ⟨l0, l1, l2, l3, S1, F1⟩
  have g135 : M1 135 s = g 135 s := by
    have := (S1.2.2.1 s s0 s3).2.2
    simpa [jwr] using this
  refine sq_ ?_
  have hdec : ∀ N2 : jLo → jMm → Prop, N2 L1 (jwr M1 135 s (if g 135 s > 0 then g 135 s - 1 else g 135 s)) → tAstO boSub (xGr (xV 0) 30) (xV 1) (xTern (kZ (fun x y => x ≠ y) (xV 3)) (xC 1) (xC 0)) L1 M1 N2 Q := fun N2 h2 => by
    by_cases c : g 135 s > 0
    · rw [if_pos c] at h2
      have c' : was ≠ 0 := ewp.mpr c
      have i1 : ir (g 135 s - 1) := ⟨by omega, by omega⟩
      simp [tAstO, xGr, xV, xTern, kZ, xC, boSub, l0, l1, l3, mrf30, mln135, s0, s3, c', g135, i1]
      exact h2
    · rw [if_neg c] at h2
      have c' : was = 0 := by have := mt ewp.mp c; omega
      have i1 : ir (g 135 s) := ⟨by omega, by omega⟩
      simp [tAstO, xGr, xV, xTern, kZ, xC, boSub, l0, l1, l3, mrf30, mln135, s0, s3, c', g135, i1]
      exact h2
  refine hdec _ ?_
  have S2 := moS_135 (v := if g 135 s > 0 then g 135 s - 1 else g 135 s) S1 s0 s3
  have F2 : mFr M (jwr M1 135 s (if g 135 s > 0 then g 135 s - 1 else g 135 s)) := mFr_wr F1 (.inl ⟨by decide, by decide⟩)
  generalize hM2 : jwr M1 135 s (if g 135 s > 0 then g 135 s - 1 else g 135 s) = M2 at *
  have eL : M2 115 3 = g 115 3 := by rw [(S2.2.1 3).1]; simp [jwr]
  have eR : M2 115 4 = g 115 4 := by rw [(S2.2.1 4).1]; simp [jwr]
  have e33 : M2 114 33 = g 114 33 := by rw [S2.2.2.2.2.2.2.1]; simp [jwr]
  refine sq_ (if_pc (gTr s g) (fun T F => propext ?_) (fun c => ?_) (fun c => ?_))
  · have c4 : was = 0 ↔ ¬ g 135 s > 0 := by have := not_congr ewp; simpa using this
    by_cases c1 : g 135 s > 0 <;> by_cases c2 : gWeight g s > g 115 3
    · have := ewp.mpr c1
      simp [kAnd, kNot, kZ, kR, xV, xC, xAl, xGr, l0, l2, l3, mrf0, mln115, eL, gTr, c1, c2, this]
    · have := ewp.mpr c1
      simp [kAnd, kNot, kZ, kR, xV, xC, xAl, xGr, l0, l2, l3, mrf0, mln115, eL, gTr, c1, c2, this]
    · have := c4.mpr c1
      simp [-Int.not_lt, kAnd, kNot, kZ, kR, xV, xC, xAl, xGr, l0, l2, l3, mrf0, mln115, eL, gTr, c1, c2, this]
    · have := c4.mpr c1
      simp [-Int.not_lt, kAnd, kNot, kZ, kR, xV, xC, xAl, xGr, l0, l2, l3, mrf0, mln115, eL, gTr, c1, c2, this]
  · have i33 : ir (g 114 33 + 1) := ⟨by omega, by omega⟩
    refine sq_ ?_
    show (tAst (xGr (xV 0) 30) (xV 1) (xAl (xGr (xV 0) 0) (xC 4)) L1 M2 _ _)
    simp (disch := omega) only [tAst, xGr, xV, xAl, xC, l0, l1, mrf0, mrf30, mln115, mln135, ixE, eR]
    refine sq_ ?_
    have e33' : jwr M2 135 s (g 115 4) 114 33 = g 114 33 := by simp [jwr, e33]
    show ((tPutO boAdd (xV 0) 33 (xC 1)) L1 (jwr M2 135 s (g 115 4)) _ _)
    simp only [tPutO, xV, xC, boAdd, l0, e33']
    refine ⟨i33, ?_⟩
    have S3 := moS_cnt (j := 33) (v := g 114 33 + 1) (moS_135 (v := g 115 4) S2 s0 s3) (.inr (.inl rfl))
    have F3 : mFr M (jwr (jwr M2 135 s (g 115 4)) 114 33 (g 114 33 + 1)) := mFr_wr (mFr_wr F2 (.inl ⟨by decide, by decide⟩)) (.inr ⟨rfl, by decide, by decide⟩)
    generalize jwr (jwr M2 135 s (g 115 4)) 114 33 (g 114 33 + 1) = M3 at *
    generalize hg3 : jwr (jwr (jwr (jwr g 114 34 (g 114 34 + gEn s g)) 135 s (if g 135 s > 0 then g 135 s - 1 else g 135 s)) 135 s (g 115 4)) 114 33 (g 114 33 + 1) = g3 at *
    have eg3 : ∀ a b, (a ≠ 114 ∨ b < 33) → a ≠ 135 → g3 a b = g a b := fun a b h1 h2 => by
      rw [← hg3]; unfold jwr
      rw [if_neg (by omega), if_neg (by omega), if_neg (by omega), if_neg (by omega)]
    have eg4 : ∀ a b, a ≠ 124 → a ≠ 200 → gLoad s g a b = g3 a b := fun a b h1 h2 => by
      rw [← hg3]
      unfold gLoad jwr
      rw [if_pos c]
      by_cases q1 : a = 114 ∧ b = 34
      · rw [if_pos q1, if_neg (by omega), if_neg (by omega), if_neg (by omega), if_pos q1]
      · rw [if_neg q1]
        by_cases q2 : a = 135 ∧ b = s
        · rw [if_pos q2, if_neg (by omega), if_pos q2]
        · rw [if_neg q2, if_pos c]
          by_cases q3 : a = 114 ∧ b = 33
          · rw [if_pos q3, if_pos q3]
          · rw [if_neg q3, if_neg q3, if_neg q2, if_neg q2, if_neg q1, if_neg h1, if_neg h2]
            split <;> rfl
    have eg5 : ∀ a b, (a = 124 ∨ a = 200) → gLoad s g a b = if g 122 s = 2 ∧ 0 ≤ b ∧ b < g 114 5 ∧ gOn g b s ∧ g 124 b = 1 then (if a = 124 then 0 else 1) else g a b := fun a b h1 => by
      unfold gLoad
      rw [if_neg (by omega), if_neg (by omega), if_pos c, if_neg (by omega)]
      rcases h1 with rfl | rfl <;> simp
    refine sq_ (sq_ (st_c ?_))
    have l0' : jup L1 4 0 0 = 114 := l0
    have l1' : jup L1 4 0 1 = s := l1
    have e122' : M3 122 s = g 122 s := by rw [(S3.2.2.1 s s0 s3).1]; exact eg3 _ _ (.inl (by decide)) (by decide)
    by_cases c2 : g 122 s = 2
    · refine up0a (gN g) (fun j L M4 => L 0 = 114 ∧ L 1 = s ∧ moS M4 (upto j (gLoad s g) g3) ∧ mFr M M4) rfl (by omega) ⟨l0', l1', ?_, F3⟩ ?_ ?_ ?_ ?_
      · have e0 : upto ((0 : Nat) : Int) (gLoad s g) g3 = g3 := by
          refine upto_0 (fun a b hb => ?_)
          by_cases q : a = 124 ∨ a = 200
          · rw [eg5 a b q, if_neg (by omega), eg3 a b (by omega) (by omega)]
          · exact eg4 a b (by omega) (by omega)
        rw [e0]; exact S3
      · rintro j L M4 Q ⟨l0, -, S4, -⟩ hq
        show Q (M4 (L 0) 5) M4
        rw [l0, moS_n S4, eg3 _ _ (.inr (by decide)) (by decide), ← en]; exact hq
      · rintro j L M4 T F ⟨l0, l1, S4, -⟩ hT
        have e : M4 122 s = 2 := by
          rw [(S4.2.2.1 s s0 s3).1, upto_lo (by decide), eg3 _ _ (.inl (by decide)) (by decide), c2]
        simp (disch := omega) only [kR, xV, xC, xAl, xGr, l0, l1, mrf14, mln122, ixE, e]
        exact ⟨fun _ => hT, fun q => absurd trivial q⟩
      · rintro j L M4 N4 hj hi ⟨l0, l1, S4, F4⟩ hN4
        have hp' : (j : Int) < g 114 5 := by omega
        have h2 : (j : Int) < 14 := by omega
        have x5 : upto j (gLoad s g) g3 114 5 = g 114 5 := by rw [upto_lo (by decide), eg3 _ _ (.inr (by decide)) (by decide)]
        have P := moP_up (moS_get S4 (Int.natCast_nonneg j) (by rw [x5]; exact hp'))
        have xg : ∀ a, a ≠ 114 → a ≠ 135 → g3 a j = g a j := fun a ha hb => eg3 a j (.inl ha) hb
        simp only [moP, xg 123 (by decide) (by decide), xg 124 (by decide) (by decide), xg 125 (by decide) (by decide), xg 126 (by decide) (by decide), xg 127 (by decide) (by decide), xg 128 (by decide) (by decide), xg 129 (by decide) (by decide), xg 130 (by decide) (by decide), xg 131 (by decide) (by decide), xg 132 (by decide) (by decide), xg 133 (by decide) (by decide)] at P
        have hon : ∀ Q, f_X7_isOn [114, (j : Int), s] M4 Q = Q (if g 123 j = 2 ∧ g 125 j = s then 1 else 0) M4 := fun Q => by
          have := mo_isOn (Q := Q) (p := j) (s := s) S4 (by rw [x5]; exact hn) (Int.natCast_nonneg j) (by rw [x5]; exact hp')
          simpa only [gOn, upto_at, xg 123 (by decide) (by decide), xg 125 (by decide) (by decide)] using this
        have e124 : M4 124 j = g 124 j := P.2.1
        have ej : ((j + 1 : Nat) : Int) = (j : Int) + 1 := by omega
        have eu : ∀ a b, (b ≠ (j : Int) ∨ a < 123 ∨ 133 < a) → a ≠ 200 → upto ((j : Int) + 1) (gLoad s g) g3 a b = upto j (gLoad s g) g3 a b := fun a b hab h200 => by
          by_cases e : b = j
          · subst e
            rw [upto_at]
            by_cases q : a < 123
            · rw [upto_lo q]
            · unfold upto
              rw [if_pos (by omega), eg4 _ _ (by omega) h200]
          · unfold upto
            by_cases q : b < (j : Int) ∧ 123 ≤ a
            · rw [if_pos (by omega), if_pos q]
            · rw [if_neg (by omega), if_neg q]
        have ehi : ∀ a, 123 ≤ a → upto ((j : Int) + 1) (gLoad s g) g3 a j = gLoad s g a j := fun a ha => by
          unfold upto
          rw [if_pos (by omega)]
        have en4 : gN (upto ((j : Int) + 1) (gLoad s g) g3) = gN g := by
          show (upto ((j : Int) + 1) (gLoad s g) g3 114 5).toNat = _
          rw [upto_lo (by decide), eg3 _ _ (.inr (by decide)) (by decide)]
        have en5 : gN (upto (j : Int) (gLoad s g) g3) = gN g := by
          show (upto (j : Int) (gLoad s g) g3 114 5).toNat = _
          rw [x5]
        have key2 : ∀ M5 : jMm, (∀ a b, (b ≠ (j : Int) ∨ a < 123 ∨ 133 < a) → ¬ (a = 114 ∧ b = 31) → M5 a b = M4 a b) → moP M5 (gLoad s g) j → M5 114 31 = gOr (upto ((j : Int) + 1) (gLoad s g) g3 200) (gN g) → N4 L M5 := fun M5 hM hP2 hF => hN4 _ _ hi ⟨l0, l1, by
          rw [ej]
          refine moS_at2 (j : Int) S4 hM eu ?_ (by rw [en4]; exact hF)
          unfold moP at hP2 ⊢
          rw [ehi 123 (by decide), ehi 124 (by decide), ehi 125 (by decide), ehi 126 (by decide), ehi 127 (by decide), ehi 128 (by decide), ehi 129 (by decide), ehi 130 (by decide), ehi 131 (by decide), ehi 132 (by decide), ehi 133 (by decide)]
          exact hP2, mFr_tr F4 (fun a b hd => hM a b (by unfold mDyn at hd; omega) (by unfold mDyn at hd; omega))⟩
        have f31 : M4 114 31 = gOr (upto (j : Int) (gLoad s g) g3 200) (gN g) := by have := S4.2.2.2.2.1; rwa [en5] at this
        by_cases d : (g 123 j = 2 ∧ g 125 j = s) ∧ g 124 j = 1
        · obtain ⟨⟨d1, d2⟩, d3⟩ := d
          have r31 : jwr M4 124 j 0 114 31 = M4 114 31 := by simp [jwr]
          simp [tSeq, tIf, tAst, tPutO, boOr, xBin, boShl, kAnd, kZ, kR, xCall, xsC, xsN, xV, xC, xAl, xGr, l0, l1, hi, hon, mrf19, mln124, h2, d1, d2, d3, e124, r31]
          refine key2 _ (fun a b hab hn31 => ?_) ?_ ?_
          · unfold jwr; rw [if_neg hn31, if_neg (by omega)]
          · have ea : ∀ a, a ≠ 124 → a ≠ 200 → a ≠ 135 → a ≠ 114 → gLoad s g a j = g a j := fun a h1 h2 h3 h4 => by rw [eg4 a j h1 h2, eg3 a j (.inl h4) h3]
            have e0 : gLoad s g 124 j = 0 := by
              rw [eg5 _ _ (.inl rfl), if_pos ⟨c2, by omega, hp', ⟨d1, d2⟩, d3⟩]; rfl
            unfold moP
            rw [ea 123 (by decide) (by decide) (by decide) (by decide), ea 125 (by decide) (by decide) (by decide) (by decide), ea 126 (by decide) (by decide) (by decide) (by decide), ea 127 (by decide) (by decide) (by decide) (by decide), ea 128 (by decide) (by decide) (by decide) (by decide), ea 129 (by decide) (by decide) (by decide) (by decide), ea 130 (by decide) (by decide) (by decide) (by decide), ea 131 (by decide) (by decide) (by decide) (by decide), ea 132 (by decide) (by decide) (by decide) (by decide), ea 133 (by decide) (by decide) (by decide) (by decide), e0]
            simp [jwr]
            exact ⟨P.1, P.2.2⟩
          · have : jwr (jwr M4 124 j 0) 114 31 (b_or (M4 114 31) (b_shl 1 j)) 114 31 = b_or (M4 114 31) (b_shl 1 j) := by simp [jwr]
            rw [this, f31]
            refine gOr_set _ (by omega) (by omega) (fun p p0 p1 => ?_)
            by_cases e : p = j
            · rw [if_pos e, e, ehi 200 (by decide), eg5 _ _ (.inr rfl), if_pos ⟨c2, by omega, hp', ⟨d1, d2⟩, d3⟩]; rfl
            · rw [if_neg e]
              unfold upto
              by_cases q : p < (j : Int)
              · rw [if_pos (by omega), if_pos (by omega)]
              · rw [if_neg (by omega), if_neg (by omega)]
        · have dd : ∀ a, (a = 124 ∨ a = 200) → gLoad s g a j = g a j := fun a ha => by
            rw [eg5 a j ha, if_neg (fun q => d ⟨q.2.2.2.1, q.2.2.2.2⟩)]
          have ea : ∀ a, a ≠ 135 → a ≠ 114 → gLoad s g a j = g a j := fun a h1 h2 => by
            by_cases q : a = 124 ∨ a = 200
            · exact dd a q
            · rw [eg4 a j (by omega) (by omega), eg3 a j (.inl h2) h1]
          have k3 : N4 L M4 := by
            refine key2 M4 (fun a b _ _ => rfl) ?_ ?_
            · unfold moP
              rw [ea 123 (by decide) (by decide), ea 124 (by decide) (by decide), ea 125 (by decide) (by decide), ea 126 (by decide) (by decide), ea 127 (by decide) (by decide), ea 128 (by decide) (by decide), ea 129 (by decide) (by decide), ea 130 (by decide) (by decide), ea 131 (by decide) (by decide), ea 132 (by decide) (by decide), ea 133 (by decide) (by decide)]
              exact P
            · rw [f31]
              refine gOr_congr _ (fun p p0 p1 => ?_)
              by_cases e : p = j
              · rw [e, upto_at, ehi 200 (by decide), ea 200 (by decide) (by decide), xg 200 (by decide) (by decide)]
              · unfold upto
                by_cases q : p < (j : Int)
                · rw [if_pos (by omega), if_pos (by omega)]
                · rw [if_neg (by omega), if_neg (by omega)]
          by_cases d1 : g 123 j = 2 ∧ g 125 j = s
          · have d2 : ¬ g 124 j = 1 := fun q => d ⟨d1, q⟩
            simp [tSeq, tIf, tSkip, kAnd, kZ, kR, xCall, xsC, xsN, xV, xC, xAl, xGr, l0, l1, hi, hon, mrf19, mln124, h2, d1, d2, e124]
            exact k3
          · simp [tSeq, tIf, tSkip, kAnd, kZ, kR, xCall, xsC, xsN, xV, xC, xAl, xGr, l0, l1, hi, hon, mrf19, mln124, h2, d1, e124]
            exact k3
      · rintro L M4 hi ⟨l0, l1, S4, F4⟩
        have e : upto ((gN g : Nat) : Int) (gLoad s g) g3 = gLoad s g := by
          rw [en]
          refine upto_n (fun a b hb => ?_)
          by_cases q : a = 124 ∨ a = 200
          · rw [eg5 a b q, if_neg (by omega), eg3 a b (by omega) (by omega)]
          · exact eg4 a b (by omega) (by omega)
        rw [e] at S4
        exact hq _ S4 F4
    · have e : gLoad s g = g3 := by
        funext a b
        by_cases q : a = 124 ∨ a = 200
        · rw [eg5 a b q, if_neg (fun z => c2 z.1), eg3 a b (by omega) (by omega)]
        · exact eg4 a b (by omega) (by omega)
      rw [e] at hq
      refine wh_out (fun T => ?_)
      have e5 : M3 114 5 = g 114 5 := by rw [S3.1.2.1]; exact eg3 _ _ (.inr (by decide)) (by decide)
      simp (disch := omega) only [kAnd, kR, xV, xC, xGf, xAl, xGr, l0', l1', mrf14, mln122, ixE, e5, e122']
      exact ⟨fun _ => ⟨fun q => absurd q c2, fun _ => hq _ S3 F3⟩, fun _ => hq _ S3 F3⟩
  · have e : jwr (jwr g 114 34 (g 114 34 + gEn s g)) 135 s (if g 135 s > 0 then g 135 s - 1 else g 135 s) = gLoad s g := by
      funext a b
      unfold gLoad jwr
      by_cases q1 : a = 114 ∧ b = 34
      · rw [if_neg (by omega), if_pos q1, if_pos q1]
      · by_cases q2 : a = 135 ∧ b = s
        · rw [if_pos q2, if_neg q1, if_pos q2, if_neg c]
        · rw [if_neg q2, if_neg q1, if_neg q1, if_neg q2, if_neg c]
    rw [e] at S2
    exact hq _ S2 F2
