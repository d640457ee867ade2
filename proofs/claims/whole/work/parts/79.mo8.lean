/-! the model: notes -/
def gOwn (k : Int) : Int := if k = 0 then 1 else if k = 1 then 3 else if k = 2 then 2 else 4
def gBits (g : jMm) (o : Int) : Int := gOr (fun p => if g 123 p = o then 1 else 0) (gN g)
def gSpot (v : Int) : Int := if v < 0 then 0 else v + 1
def noS (M g : jMm) (t : Int) : Prop := (∀ k, 0 ≤ k → k < 4 → M 136 (4 * t + k) = gBits g (gOwn k)) ∧ M 137 t = g 135 0 + 10 * g 135 1 + 100 * g 135 2 ∧ ∀ s x y, 0 ≤ s → s < 3 → 0 ≤ x → x < 10 → 0 ≤ y → y < 2 → M 138 (60 * t + 20 * s + 2 * x + y) = gSpot (gWho g s x y)
def nFr (t : Int) (M M' : jMm) : Prop := (∀ a b, a ≠ 136 → a ≠ 137 → a ≠ 138 → M' a b = M a b) ∧ (∀ b, (b < 4 * t ∨ 4 * t + 4 ≤ b) → M' 136 b = M 136 b) ∧ (∀ b, b ≠ t → M' 137 b = M 137 b) ∧ ∀ b, (b < 60 * t ∨ 60 * t + 60 ≤ b) → M' 138 b = M 138 b
theorem moS_fr {M M' g : jMm} (S : moS M g) (h : ∀ a b, a ≠ 136 → a ≠ 137 → a ≠ 138 → M' a b = M a b) : moS M' g := by
  have e : ∀ a, a ≠ 136 → a ≠ 137 → a ≠ 138 → M' a = M a := fun a h1 h2 h3 => funext fun b => h a b h1 h2 h3
  unfold moS moP at S ⊢
  rw [e 114 (by decide) (by decide) (by decide), e 115 (by decide) (by decide) (by decide), e 116 (by decide) (by decide) (by decide), e 117 (by decide) (by decide) (by decide), e 122 (by decide) (by decide) (by decide), e 123 (by decide) (by decide) (by decide), e 124 (by decide) (by decide) (by decide), e 125 (by decide) (by decide) (by decide), e 126 (by decide) (by decide) (by decide), e 127 (by decide) (by decide) (by decide), e 128 (by decide) (by decide) (by decide), e 129 (by decide) (by decide) (by decide), e 130 (by decide) (by decide) (by decide), e 131 (by decide) (by decide) (by decide), e 132 (by decide) (by decide) (by decide), e 133 (by decide) (by decide) (by decide), e 134 (by decide) (by decide) (by decide), e 135 (by decide) (by decide) (by decide)]
  exact S
theorem nFr_rfl {t : Int} {M : jMm} : nFr t M M := ⟨fun _ _ _ _ _ => rfl, fun _ _ => rfl, fun _ _ => rfl, fun _ _ => rfl⟩
theorem nFr_136 {t b v : Int} {M M' : jMm} (h : nFr t M M') (h0 : 4 * t ≤ b) (h1 : b < 4 * t + 4) : nFr t M (jwr M' 136 b v) := by
  obtain ⟨a1, a2, a3, a4⟩ := h
  refine ⟨fun a c n1 n2 n3 => ?_, fun c hc => ?_, fun c hc => ?_, fun c hc => ?_⟩ <;> unfold jwr
  · rw [if_neg (by omega)]; exact a1 a c n1 n2 n3
  · rw [if_neg (by omega)]; exact a2 c hc
  · rw [if_neg (by omega)]; exact a3 c hc
  · rw [if_neg (by omega)]; exact a4 c hc
theorem nFr_137 {t v : Int} {M M' : jMm} (h : nFr t M M') : nFr t M (jwr M' 137 t v) := by
  obtain ⟨a1, a2, a3, a4⟩ := h
  refine ⟨fun a c n1 n2 n3 => ?_, fun c hc => ?_, fun c hc => ?_, fun c hc => ?_⟩ <;> unfold jwr
  · rw [if_neg (by omega)]; exact a1 a c n1 n2 n3
  · rw [if_neg (by omega)]; exact a2 c hc
  · rw [if_neg (by omega)]; exact a3 c hc
  · rw [if_neg (by omega)]; exact a4 c hc
theorem nFr_138 {t b v : Int} {M M' : jMm} (h : nFr t M M') (h0 : 60 * t ≤ b) (h1 : b < 60 * t + 60) : nFr t M (jwr M' 138 b v) := by
  obtain ⟨a1, a2, a3, a4⟩ := h
  refine ⟨fun a c n1 n2 n3 => ?_, fun c hc => ?_, fun c hc => ?_, fun c hc => ?_⟩ <;> unfold jwr
  · rw [if_neg (by omega)]; exact a1 a c n1 n2 n3
  · rw [if_neg (by omega)]; exact a2 c hc
  · rw [if_neg (by omega)]; exact a3 c hc
  · rw [if_neg (by omega)]; exact a4 c hc
theorem mo_notes {M g : jMm} {t : Int} {Q : Int → jMm → Prop} (S : moS M g) {T B : Int} (ok : gOK T B g) (t0 : 0 ≤ t) (t1 : t ≤ 99) (hq : ∀ M', nFr t M M' → noS M' g t → Q 0 M') : f_X7_notes [114, t] M Q := by
  unfold f_X7_notes
  have v := ok.1
  have hk := v.1.2.1
  have hn0 := v.1.2.2.1
  have hn := v.1.2.2.2.1
  have en := gN_eq hn0
  refine mt_ (sq_cut (fun L M1 => L 0 = 114 ∧ L 1 = t ∧ nFr t M M1 ∧ ∀ k, 0 ≤ k → k < 4 → M1 136 (4 * t + k) = gBits g (gOwn k)) (fun N1 hN1 => ?_) ?_)
  · refine sq_ (st_c ?_)
    refine up0 4 (fun k L M1 => L 0 = 114 ∧ L 1 = t ∧ nFr t M M1 ∧ ∀ q : Int, 0 ≤ q → q < k → M1 136 (4 * t + q) = gBits g (gOwn q)) rfl (by decide) ⟨rfl, rfl, nFr_rfl, fun q h0 h1 => by omega⟩ (fun _ _ _ _ _ h => h) ?_ (fun L M1 _ h => hN1 L M1 h)
    rintro k L M1 N2 hk4 hi ⟨l0, l1, F, hb⟩ hN2
    refine sq_ (st_c (sq_ (st_v (v := gOwn k) (fun Q => propext ?_) (sq_ (sq_ (st_c ?_))))))
    · obtain rfl | rfl | rfl | rfl : k = 0 ∨ k = 1 ∨ k = 2 ∨ k = 3 := by omega
      · simp [xTern, kZ, kR, xV, xC, jup, hi, gOwn]
      · simp [xTern, kZ, kR, xV, xC, jup, hi, gOwn]
      · simp [xTern, kZ, kR, xV, xC, jup, hi, gOwn]
      · simp [xTern, kZ, kR, xV, xC, jup, hi, gOwn]
    have S1 : moS M1 g := moS_fr S F.1
    refine up0 (gN g) (fun j L M2 => M2 = M1 ∧ L 0 = 114 ∧ L 1 = t ∧ L 2 = (k : Int) ∧ L 4 = gOwn k ∧ L 3 = gOr (fun p => if g 123 p = gOwn k then 1 else 0) j) rfl (by omega) ⟨rfl, l0, l1, hi, rfl, rfl⟩ ?_ ?_ ?_
    · rintro j L M' Q ⟨rfl, l0, -⟩ hq
      show Q (M' (L 0) 5) M'
      rw [l0, mo_n S1, ← en]; exact hq
    · rintro j L M2 N3 hj hi5 ⟨rfl, l0, l1, l2, l4, l3⟩ hN3
      have hp : (j : Int) < g 114 5 := by omega
      have h2 : (j : Int) < 14 := by omega
      obtain ⟨e1, -⟩ := moS_get S1 (Int.natCast_nonneg j) hp
      have k3 : N3 (jup L 3 (gOr (fun p => if g 123 p = gOwn k then 1 else 0) (j + 1))) M2 := hN3 _ _ hi5 ⟨rfl, l0, l1, l2, l4, rfl⟩
      by_cases c : g 123 j = gOwn k
      · simp [gOr, c, ← l3] at k3
        simp [tSet, xBin, boOr, boShl, xTern, kR, xV, xC, xAl, xGr, l0, l4, hi5, mrf18, mln123, e1, h2, c]
        exact k3
      · simp [gOr, c, ← l3] at k3
        simp [tSet, xBin, boOr, boShl, xTern, kR, xV, xC, xAl, xGr, l0, l4, hi5, mrf18, mln123, e1, h2, c]
        exact k3
    · rintro L M2 hi5 ⟨rfl, l0, l1, l2, l4, l3⟩
      have i1 : ir (4 * t) := ⟨by omega, by omega⟩
      have i2 : ir (4 * t + k) := ⟨by omega, by omega⟩
      have i3 : 0 ≤ 4 * t + (k : Int) ∧ 4 * t + (k : Int) < 400 := by omega
      simp only [tAst, xGr, xV, xC, xBin, boAdd, boMul, l0, l1, l2, l3, mrf35, mln136]
      refine ⟨i1, i2, i3, hN2 _ _ l2 ⟨l0, l1, nFr_136 F (by omega) (by omega), fun q q0 q1 => ?_⟩⟩
      unfold jwr
      by_cases e : q = k
      · rw [e, if_pos ⟨rfl, rfl⟩]; rfl
      · rw [if_neg (by omega)]; exact hb q q0 (by omega)
  rintro L1 M1 ⟨l0, l1, F1, hb1⟩
  have S1 : moS M1 g := moS_fr S F1.1
  have gs : ∀ s : Int, 0 ≤ s → s < 3 → M1 135 s = g 135 s ∧ 0 ≤ g 135 s ∧ g 135 s ≤ 9 := fun s s0 s1 => ⟨(S1.2.2.1 s s0 s1).2.2, (ok.2.2.1 s s0 s1).2.2.1, (ok.2.2.1 s s0 s1).2.2.2.1⟩
  have gs0 := gs 0 (by decide) (by decide)
  have gs1 := gs 1 (by decide) (by decide)
  have gs2 := gs 2 (by decide) (by decide)
  refine sq_cut (fun L M2 => L 0 = 114 ∧ L 1 = t ∧ nFr t M M2 ∧ (∀ k, 0 ≤ k → k < 4 → M2 136 (4 * t + k) = gBits g (gOwn k)) ∧ M2 137 t = g 135 0 + 10 * g 135 1 + 100 * g 135 2) (fun N1 hN1 => ?_) ?_
  · have t100 : t < 100 := by omega
    simp only [tAst, xGr, xV, xC, xAl, xBin, boAdd, boMul, l0, l1, mrf30, mrf36, mln135, mln137, gs0.1, gs1.1, gs2.1]
    refine ⟨by decide, by decide, ⟨by omega, by omega⟩, ⟨by omega, by omega⟩, by decide, ⟨by omega, by omega⟩, ⟨by omega, by omega⟩, ⟨t0, t100⟩, hN1 _ _ ⟨l0, l1, nFr_137 F1, fun k h0 h1 => ?_, ?_⟩⟩
    · unfold jwr; rw [if_neg (by omega)]; exact hb1 k h0 h1
    · unfold jwr; rw [if_pos ⟨rfl, rfl⟩]
  rintro L2 M2 ⟨l0, l1, F2, hb2, ht2⟩
  refine sq_cut (fun L M3 => L 0 = 114 ∧ L 1 = t ∧ nFr t M M3 ∧ (∀ k, 0 ≤ k → k < 4 → M3 136 (4 * t + k) = gBits g (gOwn k)) ∧ M3 137 t = g 135 0 + 10 * g 135 1 + 100 * g 135 2 ∧ ∀ b, 60 * t ≤ b → b < 60 * t + 60 → M3 138 b = 0) (fun N1 hN1 => ?_) ?_
  · refine sq_ (st_v (v := 60 * t) (fun Q => ?_) ?_)
    · simp (disch := omega) only [xBin, boMul, xC, xV, l1, irE]
    refine up_rule (60 * t + 60) (60 * t) (fun j L M3 => L 0 = 114 ∧ L 1 = t ∧ nFr t M M3 ∧ (∀ k, 0 ≤ k → k < 4 → M3 136 (4 * t + k) = gBits g (gOwn k)) ∧ M3 137 t = g 135 0 + 10 * g 135 1 + 100 * g 135 2 ∧ ∀ b, 60 * t ≤ b → b < j → M3 138 b = 0) rfl (by omega) (by omega) (by omega) ⟨l0, l1, F2, hb2, ht2, fun b h0 h1 => by omega⟩ ?_ ?_ (fun L M3 _ h => hN1 L M3 h)
    · rintro j L M3 Q ⟨-, l1, -⟩ hq
      simp (disch := omega) only [xBin, boMul, boAdd, xC, xV, l1, irE]
      exact hq
    · rintro j L M3 N2 hj0 hj1 hi ⟨l0, l1, F3, hb3, ht3, hz⟩ hN2
      simp only [tAst, xGr, xV, xC, l0, hi, mrf37, mln138]
      refine ⟨⟨by omega, by omega⟩, hN2 _ _ hi ⟨l0, l1, nFr_138 F3 hj0 hj1, fun k h0 h1 => ?_, ?_, fun b h0 h1 => ?_⟩⟩
      · unfold jwr; rw [if_neg (by omega)]; exact hb3 k h0 h1
      · unfold jwr; rw [if_neg (by omega)]; exact ht3
      · unfold jwr
        by_cases e : b = j
        · rw [if_pos ⟨rfl, e⟩]
        · rw [if_neg (by omega)]; exact hz b h0 (by omega)
  rintro L3 M3 ⟨l0, l1, F3, hb3, ht3, hz⟩
  refine sq_ (sq_ (st_c ?_))
  refine up0 (gN g) (fun j L M4 => L 0 = 114 ∧ L 1 = t ∧ nFr t M M4 ∧ (∀ k, 0 ≤ k → k < 4 → M4 136 (4 * t + k) = gBits g (gOwn k)) ∧ M4 137 t = g 135 0 + 10 * g 135 1 + 100 * g 135 2 ∧ ∀ s x y, 0 ≤ s → s < 3 → 0 ≤ x → x < 10 → 0 ≤ y → y < 2 → M4 138 (60 * t + 20 * s + 2 * x + y) = gSpot (gWhoN g s x y j)) rfl (by omega) ⟨l0, l1, F3, hb3, ht3, fun s x y h1 h2 h3 h4 h5 h6 => by rw [hz _ (by omega) (by omega)]; rfl⟩ ?_ ?_ ?_
  · rintro j L M4 Q ⟨l0, -, F4, -⟩ hq
    show Q (M4 (L 0) 5) M4
    rw [l0, mo_n (moS_fr S F4.1), ← en]; exact hq
  · rintro j L M4 N2 hj hi ⟨l0, l1, F4, hb4, ht4, hw⟩ hN2
    have hp : (j : Int) < g 114 5 := by omega
    have h2 : (j : Int) < 14 := by omega
    have S4 := moS_fr S F4.1
    obtain ⟨e1, e4, -, -, -, -, e2, -⟩ := moS_get S4 (Int.natCast_nonneg j) hp
    by_cases c : g 123 j = 2
    · obtain ⟨m1, m2, m3⟩ := e2 c
      have gp := (ok.2.1 j (by omega) hp).2.2.2.2.1 c
      have u := v.2.2.1 (g 125 j) gp.1 gp.2.1
      generalize hS : g 125 j = s0 at *
      generalize hX : g 126 j = x0 at *
      generalize hY : g 127 j = y0 at *
      have i1 : ir (60 * t) := ⟨by omega, by omega⟩
      have i2 : ir (20 * s0) := ⟨by omega, by omega⟩
      have i3 : ir (60 * t + 20 * s0) := ⟨by omega, by omega⟩
      have i4 : ir (2 * x0) := ⟨by omega, by omega⟩
      have i5 : ir (60 * t + 20 * s0 + 2 * x0) := ⟨by omega, by omega⟩
      have i6 : ir (60 * t + 20 * s0 + 2 * x0 + y0) := ⟨by omega, by omega⟩
      have i7 : ir (60 * t + 20 * s0 + 2 * x0 + 1) := ⟨by omega, by omega⟩
      have i8 : ir ((j : Int) + 1) := ⟨by omega, by omega⟩
      have i9 : 0 ≤ 60 * t + 20 * s0 + 2 * x0 + y0 ∧ 60 * t + 20 * s0 + 2 * x0 + y0 < 6000 := by omega
      have i10 : 0 ≤ 60 * t + 20 * s0 + 2 * x0 + 1 ∧ 60 * t + 20 * s0 + 2 * x0 + 1 < 6000 := by omega
      have i11 : 0 ≤ (j : Int) ∧ (j : Int) < 14 := by omega
      have rd : ∀ (k v b : Int), jwr M4 138 k v 124 b = M4 124 b := fun k v b => by simp [jwr]
      have key : ∀ M5, (M5 = jwr (jwr M4 138 (60 * t + 20 * s0 + 2 * x0 + y0) ((j : Int) + 1)) 138 (60 * t + 20 * s0 + 2 * x0 + 1) (if g 124 j = 2 then (j : Int) + 1 else jwr M4 138 (60 * t + 20 * s0 + 2 * x0 + y0) ((j : Int) + 1) 138 (60 * t + 20 * s0 + 2 * x0 + 1))) → N2 (jup L 3 (60 * t + 20 * s0 + 2 * x0)) M5 := fun M5 h5 => by
        subst h5
        refine hN2 _ _ hi ⟨l0, l1, nFr_138 (nFr_138 F4 (by omega) (by omega)) (by omega) (by omega), fun k h0 h1 => ?_, ?_, fun s x y h1 h2 h3 h4 h5 h6 => ?_⟩
        · unfold jwr; rw [if_neg (by omega), if_neg (by omega)]; exact hb4 k h0 h1
        · unfold jwr; rw [if_neg (by omega), if_neg (by omega)]; exact ht4
        · have hw' := hw s x y h1 h2 h3 h4 h5 h6
          show jwr _ _ _ _ _ _ = gSpot (if gAt g j s x y then (j : Int) else gWhoN g s x y j)
          unfold gAt
          rw [hS, hX, hY]
          by_cases q : s0 = s ∧ x0 = x
          · obtain ⟨rfl, rfl⟩ := q
            by_cases k2 : g 124 j = 2
            · have yy : y0 = 0 := gp.2.2.2.2.2.2.2.2 k2
              subst yy
              rw [if_pos k2, if_pos ⟨⟨c, rfl⟩, rfl, .inr k2⟩]
              unfold jwr gSpot
              rw [if_neg (show ¬ (j : Int) < 0 by omega)]
              by_cases q1 : y = 1
              · rw [if_pos (by omega)]
              · rw [if_neg (by omega), if_pos (by omega)]
            · rw [if_neg k2]
              by_cases q1 : y0 = y
              · rw [if_pos ⟨⟨c, rfl⟩, rfl, .inl q1⟩]
                unfold jwr gSpot
                rw [if_neg (show ¬ (j : Int) < 0 by omega)]
                by_cases q2 : y = 1
                · rw [if_pos (by omega), if_pos (by omega)]
                · rw [if_neg (by omega), if_pos (by omega)]
              · rw [if_neg (by omega), ← hw']
                unfold jwr
                by_cases q2 : y = 1
                · rw [if_pos (by omega), if_neg (by omega)]
                  have : 60 * t + 20 * s0 + 2 * x0 + y = 60 * t + 20 * s0 + 2 * x0 + 1 := by omega
                  rw [this]
                · rw [if_neg (by omega), if_neg (by omega)]
          · rw [if_neg (show ¬ ((g 123 j = 2 ∧ s0 = s) ∧ x0 = x ∧ (y0 = y ∨ g 124 j = 2)) from fun z => q ⟨z.1.2, z.2.1⟩), ← hw']
            unfold jwr
            rw [if_neg (by omega), if_neg (by omega)]
      simp only [tSeq, tIf, tSet, tAst, kR, xV, xC, xGr, xAl, xBin, boAdd, boMul, jup, l0, l1, hi, mrf18, mrf19, mrf20, mrf21, mrf22, mrf37, mln123, mln124, mln125, mln126, mln127, mln138, xTern, e1, m1, m2, m3, reduceIte, Nat.reduceEqDiff, rd, e4]
      simp only [i1, i2, i3, i4, i5, i6, i7, i8, i9, i10, i11, c, true_and, forall_const]
      by_cases k2 : g 124 j = 2
      · rw [if_pos k2] at key
        simp [k2]
        exact key _ rfl
      · rw [if_neg k2] at key
        simp [k2]
        exact key _ rfl
    · simp [tIf, tSkip, kR, xV, xC, xGr, xAl, l0, hi, mrf18, mln123, h2, e1, c]
      refine hN2 _ _ hi ⟨l0, l1, F4, hb4, ht4, fun s x y h1 h2 h3 h4 h5 h6 => ?_⟩
      show _ = gSpot (if gAt g j s x y then (j : Int) else gWhoN g s x y j)
      rw [if_neg (fun q => c q.1.1)]
      exact hw s x y h1 h2 h3 h4 h5 h6
  · rintro L M4 hi ⟨-, -, F4, hb4, ht4, hw⟩
    exact hq _ F4 ⟨hb4, ht4, hw⟩
