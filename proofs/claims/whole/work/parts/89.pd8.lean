/-! the program: the first in the line; who steps on -/
theorem pd_way {d : Int} {M g : jMm} {T B s : Int} (S : pdC d M g) (ok : gOK T B g) (s0 : 0 ≤ s) (s1 : s < g 114 1) (hw : g 134 s ≠ 0) : (if M (d + 20 + 2 * s) 2 = 2 then (1 : Int) else 0) = 1 - gFl g s ∧ (if M (d + 20 + 2 * s) 2 = 2 then (0 : Int) else 1) = gFl g s ∧ (gFl g s = 0 ∨ gFl g s = 1) := by
  have hk := ok.1.1.2.1
  have gs := ok.2.2.1 s s0 (by omega)
  have f2 := (S.2.1 s s0 s1).2.1
  have hway : g 134 s = 1 ∨ g 134 s = 2 := by unfold gSt at gs; omega
  unfold gFl
  rw [f2]
  rcases hway with q | q <;> rw [q] <;> decide
theorem pd_firstToBoard {d s y t : Int} {M g : jMm} {Q : Int → jMm → Prop} (hd : isDay d) (S : pdS d M g) {B : Int} (ok : gOK t B g) (Li : pdL d M g t) (s0 : 0 ≤ s) (s1 : s < g 114 1) (hw : g 134 s ≠ 0) (y01 : y = 0 ∨ y = 1) : f_X0_firstToBoard [d, d + 20 + 2 * s, y] M Q = Q (if gBdP s y g < 0 then -1 else gBdP s y g) M := by
  refine dt_eq dt_f_X0_firstToBoard (fun Q hq => ?_) Q
  unfold f_X0_firstToBoard
  have hn0 := ok.1.1.2.2.1
  have hn := ok.1.1.2.2.2.1
  have en := gN_eq hn0
  obtain ⟨w1, -, w3⟩ := pd_way S.1 ok s0 s1 hw
  obtain ⟨⟨a0, a7, a14⟩, L1, L2, L3, L4⟩ := Li
  refine mt_ (sq_ (st_v (v := 1 - gFl g s) (fun Q => ?_) (sq_ (sq_ (st_c ?_)))))
  · simp only [xCall, xsC, xsN, xV, jIn, reduceIte, Nat.reduceEqDiff, pd_startFloor, w1]
  have ea : (((M d 8).toNat : Nat) : Int) = M d 8 := by omega
  generalize hc : (fun p => decide (g 123 p = 1 ∧ g 117 (3 * p + 1) = 1 - gFl g s) && gMay g p s y) = c at *
  have cc : ∀ p, c p = true ↔ ((g 123 p = 1 ∧ g 117 (3 * p + 1) = 1 - gFl g s) ∧ gMay g p s y = true) := fun p => by
    rw [← hc]; simp
  have hB : gBdP s y g = gFst c (fun p => g 117 (3 * p)) (gN g) := by rw [← hc]; rfl
  refine up0 (M d 8).toNat (fun j L M' => M' = M ∧ L 0 = d ∧ L 1 = d + 20 + 2 * s ∧ L 2 = y ∧ L 3 = 1 - gFl g s ∧ ∀ i : Int, 0 ≤ i → i < j → c (M (d + 4) i) = false) rfl (by omega) ⟨rfl, rfl, rfl, rfl, rfl, fun i h0 h1 => by omega⟩ ?_ ?_ ?_
  · rintro j L M' Q ⟨rfl, l0, -⟩ hq
    show Q (M' (L 0) 8) M'
    rw [l0, ← ea]; exact hq
  · rintro j L M' N1 hj hi ⟨rfl, l0, l1, l2, l3, hno⟩ hN
    have j0 : (0 : Int) ≤ j := by omega
    have j7 : (j : Int) < M' d 7 := by omega
    have j14 : (j : Int) < 14 := by omega
    obtain ⟨p0, p1, p2⟩ := L1 j j0 j7
    have k1 : M' (d + 4) j = M' (d + 4) j := rfl
    generalize hp : M' (d + 4) j = p at *
    have p14 : p < 14 := by omega
    obtain ⟨-, q2, q3, -, q5, -⟩ := S.1.2.2 p p0 p1
    have gp := ok.2.1 p p0 p1
    have phj := ph_eq gp.1.1 gp.1.2.1
    refine sq_ (sq_ (st_v (v := d + 6 + p) (fun Q => ?_) ?_))
    · simp [xAr, xAl, xGr, xV, l0, hi, drf0 hd, drf3 hd, dln1 hd, dln4 hd, j14, hp, p0, p14, drr hd p0 p14]
    refine if_pc (c p = true) (fun T F => propext ?_) (fun cp => ?_) (fun cp => ?_)
    · have cce := cc p
      by_cases c1 : g 123 p = 1
      · have e1 : M' (d + 6 + p) 4 = 0 := by rw [q5]; exact phj.1.mpr c1
        by_cases c2 : g 117 (3 * p + 1) = 1 - gFl g s
        · have hm1 : gMay g p s y = true → ∀ Q, f_X0_mayBoard [d, g 124 p, d + 20 + 2 * s, y] M' Q = Q 1 M' := fun z Q => dt_eq dt_f_X0_mayBoard (fun Q hq => pd_may hd S ok s0 s1 y01 (fun _ => hq) (fun n => absurd (mayK.mp z) n)) Q
          have hm0 : ¬ gMay g p s y = true → ∀ Q, f_X0_mayBoard [d, g 124 p, d + 20 + 2 * s, y] M' Q = Q 0 M' := fun z Q => dt_eq dt_f_X0_mayBoard (fun Q hq => pd_may hd S ok s0 s1 y01 (fun n => absurd (mayK.mpr n) z) (fun _ => hq)) Q
          generalize f_X0_mayBoard = mb at *
          by_cases c3 : gMay g p s y = true
          · rw [cce]
            simp [kAnd, kZ, kR, xV, xC, xGf, xCall, xsC, xsN, jup, l0, l1, l2, l3, e1, q2, q3, c1, c2, c3, hm1 c3]
          · rw [cce]
            simp [kAnd, kZ, kR, xV, xC, xGf, xCall, xsC, xsN, jup, l0, l1, l2, l3, e1, q2, q3, c1, c2, c3, hm0 c3]
        · rw [cce]
          generalize f_X0_mayBoard = mb at *
          simp [kAnd, kZ, kR, xV, xC, xGf, xCall, xsC, xsN, jup, l0, l1, l2, l3, e1, q2, q3, c1, c2]
      · have e1 : ¬ M' (d + 6 + p) 4 = 0 := by rw [q5]; exact fun z => c1 (phj.1.mp z)
        rw [cce]
        generalize f_X0_mayBoard = mb at *
        simp [kAnd, kZ, kR, xV, xC, xGf, xCall, xsC, xsN, jup, l0, l1, l2, l3, e1, q2, q3, c1]
    · have fst : isFst c (fun p => g 117 (3 * p)) 0 (gN g : Nat) p := by
        refine .inr ⟨p0, by omega, cp, fun q h0 h1 hq => ?_⟩
        have q1 : q < g 114 5 := by omega
        have st := ((cc q).mp hq).1.1
        have gq := (ok.2.1 q h0 q1).2.1
        have nz : ¬ g 123 q = 0 := by omega
        have nq : ¬ (t ≤ g 117 (3 * q) ∨ q = g 114 17) := fun z => nz (gq.mpr z)
        obtain ⟨i, i0, i7, ie⟩ := L2 q h0 q1 (fun z => nq (.inr z))
        have i8 : i < M' d 8 := (L4 i i0 i7).mpr (by rw [ie]; omega)
        by_cases ij : i < j
        · have := hno i i0 ij
          rw [ie, hq] at this
          exact absurd this (by decide)
        · by_cases ej : i = j
          · subst ej
            have : p = q := by omega
            subst this
            exact .inr ⟨rfl, Int.le_refl _⟩
          · have := L3 j i j0 (by omega) i7
            rw [hp, ie] at this
            rcases this with z | ⟨z1, z2⟩
            · exact .inl z
            · exact .inr ⟨z1, by omega⟩
      have e : gBdP s y g = p := by rw [hB]; exact (isFst_uniq fst (isFst_gFst c _ (gN g))).symm
      rw [e, if_neg (by omega)] at hq
      show xAl (xGr (xV 0) 3) (xV 4) (jup L 5 (d + 6 + p)) M' Q
      simp only [xAl, xGr, xV, jup, l0, hi, drf3 hd, dln4 hd, hp, reduceIte, Nat.reduceEqDiff]
      exact ⟨⟨j0, j14⟩, hq⟩
    · refine hN _ _ hi ⟨rfl, l0, l1, l2, l3, fun i h0 h1 => ?_⟩
      by_cases e : i = j
      · rw [e, hp]
        cases h : c p
        · rfl
        · exact absurd h cp
      · exact hno i h0 (by omega)
  · rintro L M' hi ⟨rfl, -, -, -, -, hno⟩
    have fst : isFst c (fun p => g 117 (3 * p)) 0 (gN g : Nat) (-4) := by
      refine .inl ⟨rfl, fun q h0 h1 => ?_⟩
      cases h : c q
      · rfl
      · have q1 : q < g 114 5 := by omega
        have st := ((cc q).mp h).1.1
        have gq := (ok.2.1 q h0 q1).2.1
        have nz : ¬ g 123 q = 0 := by omega
        have nq : ¬ (t ≤ g 117 (3 * q) ∨ q = g 114 17) := fun z => nz (gq.mpr z)
        obtain ⟨i, i0, i7, ie⟩ := L2 q h0 q1 (fun z => nq (.inr z))
        have i8 : i < M' d 8 := (L4 i i0 i7).mpr (by rw [ie]; omega)
        have := hno i i0 (by omega)
        rw [ie, h] at this
        exact absurd this (by decide)
    have e : gBdP s y g = -4 := by rw [hB]; exact (isFst_uniq fst (isFst_gFst c _ (gN g))).symm
    rw [e] at hq
    exact hq
/-- the cells behind a step on -/
def mPt (d s t y q w k : Int) (M : jMm) : jMm := 
  if k = 2 then jwr (jwr (jwr (jwr (jwr (jwr (jwr M (d + 6 + q) 4 2) (d + 6 + q) 5 s) (d + 6 + q) 6 t) d 9 (M d 9 - 1)) (d + 20 + 2 * s) 5 (M (d + 20 + 2 * s) 5 + w)) (d + 21 + 2 * s) (2 * 0 + y) q) (d + 21 + 2 * s) (2 * 0 + 1) q
  else jwr (jwr (jwr (jwr (jwr (jwr M (d + 6 + q) 4 2) (d + 6 + q) 5 s) (d + 6 + q) 6 t) d 9 (M d 9 - 1)) (d + 20 + 2 * s) 5 (M (d + 20 + 2 * s) 5 + w)) (d + 21 + 2 * s) (2 * 0 + y) q
theorem mPt_rd {d s t y q w k a b : Int} {M : jMm} (h : a ≠ d + 21 + 2 * s ∨ (b ≠ 2 * 0 + y ∧ b ≠ 2 * 0 + 1)) : mPt d s t y q w k M a b = (jwr (jwr (jwr (jwr (jwr M (d + 6 + q) 4 2) (d + 6 + q) 5 s) (d + 6 + q) 6 t) d 9 (M d 9 - 1)) (d + 20 + 2 * s) 5 (M (d + 20 + 2 * s) 5 + w)) a b := by
  unfold mPt
  split
  · rw [jw0 (by omega), jw0 (by omega)]
  · rw [jw0 (by omega)]
theorem only_put {t s y q : Int} {g : jMm} : gOnly q g (gPut t s y q g) := by
  refine ⟨same_put, fun b => by simp [gPut], fun a b h ha => ?_⟩
  unfold gPut
  by_cases e : b = q
  · rw [if_pos e, if_neg (by omega), if_neg (by omega), if_neg (by omega), if_neg (by omega), if_neg (by omega), if_neg (by omega), if_neg (by omega)]
  · rw [if_neg e]
theorem pdS_put {d s t y q : Int} {M g : jMm} {T B : Int} (S : pdS d M g) (ok : gOK T B g) (s0 : 0 ≤ s) (s1 : s < g 114 1) (y01 : y = 0 ∨ y = 1) (q0 : 0 ≤ q) (q1 : q < g 114 5) (h1 : g 123 q = 1) (hfree : M (d + 21 + 2 * s) (2 * 0 + y) = -1) (hbag : g 124 q = 2 → y = 0 ∧ M (d + 21 + 2 * s) (2 * 0 + 1) = -1) : pdS d (mPt d s t y q (wt (g 124 q)) (g 124 q) M) (gPut t s y q g) := by
  have hk := ok.1.1.2.1
  have hn := ok.1.1.2.2.2.1
  have vs := ok.1.2.2.1 s s0 s1
  obtain ⟨C, X⟩ := S
  have C' := C
  obtain ⟨⟨d1, d2, d3, d4, d5, d6, d7, d8, d9, d10⟩, sf, sp⟩ := C
  have o := only_put (t := t) (s := s) (y := y) (q := q) (g := g)
  have e123 : gPut t s y q g 123 q = 2 := by simp [gPut]
  have e125 : gPut t s y q g 125 q = s := by simp [gPut]
  have e126 : gPut t s y q g 126 q = 0 := by simp [gPut]
  have e127 : gPut t s y q g 127 q = y := by simp [gPut]
  have e130 : gPut t s y q g 130 q = t := by simp [gPut]
  have e131 : gPut t s y q g 131 q = s := by simp [gPut]
  have e124 : gPut t s y q g 124 q = g 124 q := by simp [gPut]
  have e132 : gPut t s y q g 132 q = g 132 q := by simp [gPut]
  have e200 : gPut t s y q g 200 q = g 200 q := by simp [gPut]
  have e5 : gPut t s y q g 114 5 = g 114 5 := o.2.1 5
  have e1 : gPut t s y q g 114 1 = g 114 1 := o.2.1 1
  obtain ⟨p1, p2, p3, p4, p5, p6, p7, p8, p9, p10⟩ := sp q q0 q1
  have rd : ∀ b, mPt d s t y q (wt (g 124 q)) (g 124 q) M (d + 6 + q) b = (jwr (jwr (jwr (jwr (jwr M (d + 6 + q) 4 2) (d + 6 + q) 5 s) (d + 6 + q) 6 t) d 9 (M d 9 - 1)) (d + 20 + 2 * s) 5 (M (d + 20 + 2 * s) 5 + wt (g 124 q))) (d + 6 + q) b := fun b => mPt_rd (.inl (by omega))
  refine ⟨pdC_step C' o (fun b b8 b9 => ?_) ?_ (fun b => ?_) ?_ ?_ (fun s' b s0' s1' hb => ?_) (fun s' s0' s1' => ?_) (fun p b p0 p1 hp => ?_) (fun _ _ => ?_), fun s' s0' s1' => ?_⟩
  · rw [mPt_rd (.inl (by omega)), jw0 (by omega), jw0 (by omega), jw0 (by omega), jw0 (by omega), jw0 (by omega)]
  · rw [mPt_rd (.inl (by omega)), jw0 (by omega), jw1 ⟨rfl, rfl⟩, d3, cnt_only o q0 q1, h1, e123]
    rw [if_pos rfl, if_neg (by decide)]; omega
  · rw [mPt_rd (.inl (by omega)), jw0 (by omega), jw0 (by omega), jw0 (by omega), jw0 (by omega), jw0 (by omega)]
  · rw [mPt_rd (.inl (by omega)), jw0 (by omega), jw0 (by omega), jw0 (by omega), jw0 (by omega), jw0 (by omega), there_only o q0 q1, h1, e123, d9, if_neg (show ¬ ((1 : Int) = 3 ∧ _) by omega), if_neg (show ¬ ((2 : Int) = 3 ∧ _) by omega)]; omega
  · rw [mPt_rd (.inl (by omega)), jw0 (by omega), jw0 (by omega), jw0 (by omega), jw0 (by omega), jw0 (by omega), there_only o q0 q1, h1, e123, d10, if_neg (show ¬ ((1 : Int) = 3 ∧ _) by omega), if_neg (show ¬ ((2 : Int) = 3 ∧ _) by omega)]; omega
  · rw [mPt_rd (.inl (by omega)), jw0 (by omega), jw0 (by omega), jw0 (by omega), jw0 (by omega), jw0 (by omega)]
  · rw [mPt_rd (.inl (by omega)), weight_only o q0 q1]
    obtain ⟨-, -, -, -, f5⟩ := sf s' s0' s1'
    have z2 : ¬ gOn g q s' := fun z => by rw [gOn, h1] at z; exact absurd z.1 (by decide)
    rw [if_neg z2, e124]
    by_cases c : s' = s
    · subst c
      rw [jw1 ⟨rfl, rfl⟩, f5, if_pos ⟨e123, e125⟩]; omega
    · have z3 : ¬ gOn (gPut t s y q g) q s' := fun z => c (by rw [← z.2, e125])
      rw [jw0 (by omega), jw0 (by omega), jw0 (by omega), jw0 (by omega), jw0 (by omega), f5, if_neg z3]; omega
  · rw [mPt_rd (.inl (by omega)), jw0 (by omega), jw0 (by omega), jw0 (by omega), jw0 (by omega), jw0 (by omega)]
  · unfold pdP
    rw [rd, rd, rd, rd, rd, rd, rd, rd, rd, rd, rd, e123, e124, e130, e131, e132, e200, (o.1.2 _).2.2.1, (o.1.2 _).2.2.1]
    refine ⟨?_, ?_, ?_, ?_, ?_, ?_, ?_, fun z => absurd z (by decide), ?_, ?_⟩
    · rw [jw0 (by omega), jw0 (by omega), jw0 (by omega), jw0 (by omega), jw0 (by omega)]; exact p1
    · rw [jw0 (by omega), jw0 (by omega), jw0 (by omega), jw0 (by omega), jw0 (by omega)]; exact p2
    · rw [jw0 (by omega), jw0 (by omega), jw0 (by omega), jw0 (by omega), jw0 (by omega)]; exact p3
    · rw [jw0 (by omega), jw0 (by omega), jw0 (by omega), jw0 (by omega), jw0 (by omega)]; exact p4
    · rw [jw0 (by omega), jw0 (by omega), jw0 (by omega), jw0 (by omega), jw1 ⟨rfl, rfl⟩]; rfl
    · rw [jw0 (by omega), jw0 (by omega), jw0 (by omega), jw1 ⟨rfl, rfl⟩]
    · rw [jw0 (by omega), jw0 (by omega), jw1 ⟨rfl, rfl⟩]
    · rw [jw0 (by omega), jw0 (by omega), jw0 (by omega), jw0 (by omega), jw0 (by omega)]; exact p9
    · rw [jw0 (by omega), jw0 (by omega), jw0 (by omega), jw0 (by omega), jw0 (by omega)]; exact p10
  · rw [e1] at s1'
    by_cases c : s' = s
    · subst c
      intro x y' x0 x1 y0 y1
      rw [(o.1.2 _).2.1] at x1
      obtain ⟨w1, w2⟩ := X s' s0 s1 x y' x0 x1 y0 y1
      have atp : ∀ p, p ≠ q → (gAt (gPut t s' y q g) p s' x y' ↔ gAt g p s' x y') := fun p e => by
        unfold gAt
        rw [o.2.2 123 p (.inl e) (by decide), o.2.2 124 p (.inl e) (by decide), o.2.2 125 p (.inl e) (by decide), o.2.2 126 p (.inl e) (by decide), o.2.2 127 p (.inl e) (by decide)]
      have atq : gAt (gPut t s' y q g) q s' x y' ↔ (x = 0 ∧ (y = y' ∨ g 124 q = 2)) := by
        unfold gAt
        rw [e123, e124, e125, e126, e127]
        exact ⟨fun z => ⟨z.2.1.symm, z.2.2⟩, fun z => ⟨⟨rfl, rfl⟩, z.1.symm, z.2⟩⟩
      have natq : ¬ gAt g q s' x y' := fun z => by rw [gAt, h1] at z; exact absurd z.1.1 (by decide)
      rw [e5]
      have tk : ∀ v, v = q → (x = 0 ∧ (y = y' ∨ g 124 q = 2)) → (∀ p, 0 ≤ p → p < g 114 5 → ¬ gAt g p s' x y') → (-1 ≤ v ∧ ∀ p, 0 ≤ p → (v = p ↔ (p < g 114 5 ∧ gAt (gPut t s' y q g) p s' x y'))) := fun v hv h2 h3 => by
        subst hv
        refine ⟨by omega, fun p p0 => ?_⟩
        by_cases e : p = v
        · subst e; exact ⟨fun _ => ⟨q1, atq.mpr h2⟩, fun _ => rfl⟩
        · rw [atp p e]
          exact ⟨fun z => absurd z.symm e, fun z => absurd z.2 (h3 p p0 z.1)⟩
      have old : ¬ (x = 0 ∧ (y = y' ∨ g 124 q = 2)) → (-1 ≤ M (d + 21 + 2 * s') (2 * x + y') ∧ ∀ p, 0 ≤ p → (M (d + 21 + 2 * s') (2 * x + y') = p ↔ (p < g 114 5 ∧ gAt (gPut t s' y q g) p s' x y'))) := fun h => by
        refine ⟨w1, fun p p0 => ?_⟩
        by_cases e : p = q
        · subst e
          rw [w2 p p0]
          exact ⟨fun z => absurd z.2 natq, fun z => absurd (atq.mp z.2) h⟩
        · rw [atp p e]; exact w2 p p0
      have free : M (d + 21 + 2 * s') (2 * x + y') = -1 → ∀ p, 0 ≤ p → p < g 114 5 → ¬ gAt g p s' x y' := fun h p p0 p1 z => by
        have := (w2 p p0).mpr ⟨p1, z⟩
        omega
      by_cases kb : g 124 q = 2
      · obtain ⟨y00, hb1⟩ := hbag kb
        subst y00
        by_cases cx : x = 0
        · subst cx
          by_cases cy : y' = 0
          · subst cy
            refine tk _ ?_ ⟨rfl, .inl rfl⟩ (free hfree)
            unfold mPt
            rw [if_pos kb, jw0 (by omega), jw1 ⟨rfl, rfl⟩]
          · have : y' = 1 := by omega
            subst this
            refine tk _ ?_ ⟨rfl, .inr kb⟩ (free hb1)
            unfold mPt
            rw [if_pos kb, jw1 ⟨rfl, rfl⟩]
        · rw [mPt_rd (.inr (by omega)), jw0 (by omega), jw0 (by omega), jw0 (by omega), jw0 (by omega), jw0 (by omega)]
          exact old (by omega)
      · by_cases cx : x = 0 ∧ y = y'
        · obtain ⟨cx, cy⟩ := cx
          subst cx cy
          refine tk _ ?_ ⟨rfl, .inl rfl⟩ (free hfree)
          unfold mPt
          rw [if_neg kb, jw1 ⟨rfl, rfl⟩]
        · have e : mPt d s' t y q (wt (g 124 q)) (g 124 q) M (d + 21 + 2 * s') (2 * x + y') = M (d + 21 + 2 * s') (2 * x + y') := by
            unfold mPt
            rw [if_neg kb, jw0 (by omega), jw0 (by omega), jw0 (by omega), jw0 (by omega), jw0 (by omega), jw0 (by omega)]
          rw [e]
          exact old (by omega)
    · refine pdX_fr (X s' s0' s1') (fun b => ?_) o.1 (fun p x y' p0 p1 => ?_)
      · rw [mPt_rd (.inl (by omega)), jw0 (by omega), jw0 (by omega), jw0 (by omega), jw0 (by omega), jw0 (by omega)]
      · by_cases e : p = q
        · subst e
          constructor
          · intro z; rw [gAt, e125] at z; exact absurd z.1.2.symm c
          · intro z; rw [gAt, h1] at z; exact absurd z.1.1 (by decide)
        · unfold gAt
          rw [o.2.2 123 p (.inl e) (by decide), o.2.2 124 p (.inl e) (by decide), o.2.2 125 p (.inl e) (by decide), o.2.2 126 p (.inl e) (by decide), o.2.2 127 p (.inl e) (by decide)]
