/-! the program: who leaves -/
theorem ph_eq {x : Int} (h0 : 0 ≤ x) (h4 : x ≤ 4) : (ph x = 0 ↔ x = 1) ∧ (ph x = 1 ↔ x = 3) ∧ (ph x = 2 ↔ x = 2) ∧ (ph x = 3 ↔ x = 4) ∧ (ph x = 4 ↔ x = 0) := by
  obtain rfl | rfl | rfl | rfl | rfl : x = 0 ∨ x = 1 ∨ x = 2 ∨ x = 3 ∨ x = 4 := by omega
  all_goals (unfold ph; decide)
theorem pd_first {d f : Int} {M g : jMm} {Q : Int → jMm → Prop} (hd : isDay d) (C : pdC d M g) {T B : Int} (ok : gOK T B g) : f_X0_firstOnLanding [d, f] M Q = Q (if gLvP f g < 0 then -1 else gLvP f g) M := by
  refine dt_eq dt_f_X0_firstOnLanding (fun Q hq => ?_) Q
  unfold f_X0_firstOnLanding
  have hn0 := ok.1.1.2.2.1
  have hn := ok.1.1.2.2.2.1
  have en := gN_eq hn0
  have e6 : M d 6 = g 114 5 := C.1.2.1
  refine mt_ (sq_ (st_c (sq_ (sq_ (st_c ?_)))))
  refine up0 (gN g) (fun j L M' => M' = M ∧ L 0 = d ∧ L 1 = f ∧ L 2 = if gFst (fun p => decide (g 123 p = 3 ∧ g 128 p = f)) (fun p => g 129 p) j < 0 then -1 else gFst (fun p => decide (g 123 p = 3 ∧ g 128 p = f)) (fun p => g 129 p) j) rfl (by omega) ⟨rfl, rfl, rfl, rfl⟩ ?_ ?_ ?_
  · rintro j L M' Q ⟨rfl, l0, -⟩ hq
    show Q (M' (L 0) 6) M'
    rw [l0, e6, ← en]; exact hq
  · rintro j L M' N1 hj hi ⟨rfl, l0, l1, l2⟩ hN
    have hp : (j : Int) < g 114 5 := by omega
    have h2 : (j : Int) < 14 := by omega
    have j0 : (0 : Int) ≤ j := by omega
    obtain ⟨-, -, -, -, p5, -, -, p8, -⟩ := C.2.2 j j0 hp
    have gp := ok.2.1 j j0 hp
    have phj := ph_eq gp.1.1 gp.1.2.1
    have hF := isFst_gFst (fun p => decide (g 123 p = 3 ∧ g 128 p = f)) (fun p => g 129 p) j
    have hS : gFst (fun p => decide (g 123 p = 3 ∧ g 128 p = f)) (fun p => g 129 p) (j + 1) = if decide (g 123 j = 3 ∧ g 128 j = f) = true ∧ (gFst (fun p => decide (g 123 p = 3 ∧ g 128 p = f)) (fun p => g 129 p) j < 0 ∨ g 129 j < g 129 (gFst (fun p => decide (g 123 p = 3 ∧ g 128 p = f)) (fun p => g 129 p) j)) then (j : Int) else gFst (fun p => decide (g 123 p = 3 ∧ g 128 p = f)) (fun p => g 129 p) j := rfl
    generalize hr : gFst (fun p => decide (g 123 p = 3 ∧ g 128 p = f)) (fun p => g 129 p) j = r at *
    generalize hr' : gFst (fun p => decide (g 123 p = 3 ∧ g 128 p = f)) (fun p => g 129 p) (j + 1) = r' at *
    have rng : 0 ≤ r → r < 14 ∧ r < g 114 5 ∧ g 123 r = 3 := fun r0 => by
      rcases hF with ⟨z, -⟩ | ⟨-, z1, z2, -⟩
      · omega
      · simp only [decide_eq_true_eq] at z2
        exact ⟨by omega, by omega, z2.1⟩
    have keep : r' = r → N1 L M' := fun e => hN L M' hi ⟨rfl, l0, l1, by show L 2 = _; rw [l2, e]⟩
    have take : r' = j → N1 (jup L 2 j) M' := fun e => hN _ M' hi ⟨rfl, l0, l1, by show (j : Int) = _; rw [e, if_neg (by omega)]⟩
    refine if_pc ((g 123 j = 3 ∧ g 128 j = f) ∧ (r < 0 ∨ g 129 j < g 129 r)) (fun T F => propext ?_) (fun c => ?_) (fun c => ?_)
    · by_cases c1 : g 123 j = 3
      · obtain ⟨p81, p82⟩ := p8 c1
        have ph31 : ph 3 = 1 := by decide
        have e1 : ph (g 123 j) = 1 := phj.2.1.mpr c1
        by_cases c2 : g 128 j = f
        · by_cases c3 : r < 0
          · rw [if_pos c3] at l2
            simp [kAnd, kOr, kZ, kR, xV, xC, xGf, xAr, xGr, l0, l1, l2, hi, drf0 hd, dln1 hd, drr hd j0 h2, p5, e1, ph31, p81, c1, c2, c3, h2]
          · rw [if_neg c3] at l2
            have r0 : 0 ≤ r := by omega
            obtain ⟨q1, q2, q3⟩ := rng r0
            have q4 := ((C.2.2 r r0 q2).2.2.2.2.2.2.2.1 q3).2
            simp [-Int.not_lt, kAnd, kOr, kZ, kR, xV, xC, xGf, xAr, xGr, l0, l1, l2, hi, drf0 hd, dln1 hd, drr hd j0 h2, drr hd r0 q1, p5, e1, ph31, p81, p82, q4, c1, c2, c3, h2, r0, q1]
        · simp [kAnd, kOr, kZ, kR, xV, xC, xGf, xAr, xGr, l0, l1, l2, hi, drf0 hd, dln1 hd, drr hd j0 h2, p5, e1, ph31, p81, c1, c2, h2]
      · have e1 : ¬ ph (g 123 j) = 1 := fun z => c1 (phj.2.1.mp z)
        simp [kAnd, kOr, kZ, kR, xV, xC, xGf, xAr, xGr, l0, l1, l2, hi, drf0 hd, dln1 hd, drr hd j0 h2, p5, e1, c1, h2]
    · refine st_v (v := (j : Int)) (fun Q => ?_) (take ?_)
      · show Q (L 3) M' = Q _ M'
        rw [hi]
      · rw [hS, if_pos ⟨by simpa using c.1, c.2⟩]
    · refine keep ?_
      rw [hS, if_neg (fun z => c ⟨by simpa using z.1, z.2⟩)]
  · rintro L M' hi ⟨rfl, -, -, l2⟩
    show Q (L 2) M'
    rw [l2]; exact hq
theorem lvs_none {t f : Int} {g : jMm} (h : gLvP f g < 0) : ∀ m : Nat, gLvs t f m g = g
  | 0 => rfl
  | m + 1 => by
    have e : gLv t f g = g := by unfold gLv; rw [if_neg (by omega)]
    show gLvs t f m (gLv t f g) = g
    rw [e]; exact lvs_none h m
theorem lvp_there {g : jMm} {f : Int} (hn : 0 ≤ g 114 5) (h : gThere g f = 0) : gLvP f g < 0 := by
  rcases lvp_cases (f := f) hn with c | ⟨c1, c2, c3, c4⟩
  · omega
  · have en := gN_eq hn
    have := sm_pos (f := fun p => if g 123 p = 3 ∧ g 128 p = f then 1 else 0) (q := gLvP f g) (gN g) (fun p _ _ => by split <;> omega) c1 (by omega)
    rw [if_pos ⟨c3, c4⟩] at this
    unfold gThere at h
    omega
def mLv (d t f q : Int) (M : jMm) : jMm := jwr (jwr (jwr M (d + 6 + q) 4 3) (d + 6 + q) 9 t) (d + 5) f (M (d + 5) f - 1)
theorem only_lv {t q : Int} {g : jMm} : gOnly q g (jwr (jwr g 123 q 4) 132 q t) := by
  refine ⟨gSame_tr (same_wr (.inl (by decide))) (same_wr (.inl (by decide))), fun b => by rw [jw0 (by omega), jw0 (by omega)], fun a b h ha => ?_⟩
  rw [jw0 (by omega), jw0 (by omega)]
theorem pdS_lv {d t f q : Int} {M g : jMm} (S : pdS d M g) (hk : g 114 1 ≤ 3) (q0 : 0 ≤ q) (q1 : q < g 114 5) (hn : g 114 5 ≤ 14) (h3 : g 123 q = 3) (hf : g 128 q = f) (hf' : f = 0 ∨ f = 1) : pdS d (mLv d t f q M) (jwr (jwr g 123 q 4) 132 q t) := by
  obtain ⟨C, X⟩ := S
  have C' := C
  obtain ⟨⟨d1, d2, d3, d4, d5, d6, d7, d8, d9, d10⟩, sf, sp⟩ := C
  have o := only_lv (t := t) (q := q) (g := g)
  have e1 : jwr (jwr g 123 q 4) 132 q t 123 q = 4 := by rw [jw0 (by omega), jw1 ⟨rfl, rfl⟩]
  have e4 : ∀ a, a ≠ 123 → a ≠ 132 → jwr (jwr g 123 q 4) 132 q t a q = g a q := fun a h1 h2 => by rw [jw0 (by omega), jw0 (by omega)]
  have o1 : jwr (jwr g 123 q 4) 132 q t 114 1 = g 114 1 := o.2.1 1
  obtain ⟨p1, p2, p3, p4, p5, p6, p7, p8, p9, p10⟩ := sp q q0 q1
  refine ⟨pdC_step C' o (fun b b8 b9 => ?_) ?_ (fun b => ?_) ?_ ?_ (fun s' b s0' s1' hb => ?_) (fun s' s0' s1' => ?_) (fun p b p0 p1 hp => ?_) (fun _ _ => ?_), fun s' s0' s1' => ?_⟩
  · unfold mLv; rw [jw0 (by omega), jw0 (by omega), jw0 (by omega)]
  · unfold mLv; rw [jw0 (by omega), jw0 (by omega), jw0 (by omega), d3, cnt_only o q0 q1, h3, e1, if_neg (by decide), if_neg (by decide)]; omega
  · unfold mLv; rw [jw0 (by omega), jw0 (by omega), jw0 (by omega)]
  · unfold mLv
    rw [there_only o q0 q1, h3, e1, hf, if_neg (show ¬ ((4 : Int) = 3 ∧ _) by omega)]
    by_cases c : f = 0
    · rw [jw1 (by omega), if_pos ⟨rfl, c⟩, c, d9]; omega
    · rw [jw0 (by omega), jw0 (by omega), jw0 (by omega), if_neg (by omega), d9]; omega
  · unfold mLv
    rw [there_only o q0 q1, h3, e1, hf, if_neg (show ¬ ((4 : Int) = 3 ∧ _) by omega)]
    by_cases c : f = 1
    · rw [jw1 (by omega), if_pos ⟨rfl, c⟩, c, d10]; omega
    · rw [jw0 (by omega), jw0 (by omega), jw0 (by omega), if_neg (by omega), d10]; omega
  · unfold mLv; rw [jw0 (by omega), jw0 (by omega), jw0 (by omega)]
  · rw [weight_only o q0 q1]
    obtain ⟨-, -, -, -, f5⟩ := sf s' s0' s1'
    have z : ¬ gOn (jwr (jwr g 123 q 4) 132 q t) q s' := fun z => by rw [gOn, e1] at z; exact absurd z.1 (by decide)
    have z2 : ¬ gOn g q s' := fun z => by rw [gOn, h3] at z; exact absurd z.1 (by decide)
    unfold mLv
    rw [if_neg z, if_neg z2, jw0 (by omega), jw0 (by omega), jw0 (by omega), f5]; omega
  · unfold mLv; rw [jw0 (by omega), jw0 (by omega), jw0 (by omega)]
  · unfold pdP mLv
    rw [e1, e4 124 (by decide) (by decide), e4 131 (by decide) (by decide), e4 130 (by decide) (by decide), e4 200 (by decide) (by decide), (o.1.2 _).2.2.1, (o.1.2 _).2.2.1]
    refine ⟨?_, ?_, ?_, ?_, ?_, ?_, ?_, fun z => absurd z (by decide), ?_, ?_⟩
    · rw [jw0 (by omega), jw0 (by omega), jw0 (by omega)]; exact p1
    · rw [jw0 (by omega), jw0 (by omega), jw0 (by omega)]; exact p2
    · rw [jw0 (by omega), jw0 (by omega), jw0 (by omega)]; exact p3
    · rw [jw0 (by omega), jw0 (by omega), jw0 (by omega)]; exact p4
    · rw [jw0 (by omega), jw0 (by omega), jw1 ⟨rfl, rfl⟩]; rfl
    · rw [jw0 (by omega), jw0 (by omega), jw0 (by omega)]; exact p6
    · rw [jw0 (by omega), jw0 (by omega), jw0 (by omega)]; exact p7
    · rw [jw0 (by omega), jw1 ⟨rfl, rfl⟩, jw1 ⟨rfl, rfl⟩]
    · rw [jw0 (by omega), jw0 (by omega), jw0 (by omega)]; exact p10
  · rw [o1] at s1'
    refine pdX_fr (X s' s0' s1') (fun b => by unfold mLv; rw [jw0 (by omega), jw0 (by omega), jw0 (by omega)]) o.1 (fun p x y p0 p1 => ?_)
    by_cases e : p = q
    · subst e
      constructor
      · intro z; rw [gAt, e1] at z; exact absurd z.1.1 (by decide)
      · intro z; rw [gAt, h3] at z; exact absurd z.1.1 (by decide)
    · unfold gAt
      rw [o.2.2 123 p (.inl e) (by decide), o.2.2 124 p (.inl e) (by decide), o.2.2 125 p (.inl e) (by decide), o.2.2 126 p (.inl e) (by decide), o.2.2 127 p (.inl e) (by decide)]
theorem seqG {f : jMd} {k i : jEx} {L : jLo} {M : jMm} {N : jLo → jMm → Prop} {R : Int → jMm → Prop} {x y : Int} (hk : ∀ Q, k L M Q = Q x M) (hi : ∀ Q, i L M Q = Q y M) (h : f [x, y] M (fun _ M1 => N L M1)) : tDo f (xsC k (xsC i xsN)) L M N R := by
  show k L M (fun v M1 => i L M1 (fun w M2 => f [v, w] M2 (fun _ M3 => N L M3)))
  rw [hk, hi]; exact h
theorem pd_leave {d f t : Int} {M g : jMm} {Q : Int → jMm → Prop} (hd : isDay d) (S : pdS d M g) {T B : Int} (ok : gOK T B g) (hf : f = 0 ∨ f = 1) (t0 : 0 ≤ t) (t1 : t ≤ 99) (hq : ∀ M', pdS d M' (gLvs t f (g 115 2).toNat g) → pdFr d M M' → Q 0 M') : f_X0_leave [d, f, t] M Q := by
  unfold f_X0_leave
  have v2 := ok.1.2.2.2
  have em : (((g 115 2).toNat : Nat) : Int) = g 115 2 := by omega
  generalize hm : (g 115 2).toNat = m at *
  refine mt_ (sq_ (sq_ (st_c ?_)))
  refine wh_rule (fun k L M1 => L 0 = d ∧ L 1 = f ∧ L 2 = t ∧ L 3 = (m : Int) - k ∧ k ≤ m ∧ pdFr d M M1 ∧ ∃ h, pdS d M1 h ∧ gOK T B h ∧ gSame g h ∧ gLvs t f k h = gLvs t f m g) ?_ (k := m) ⟨rfl, rfl, rfl, by show (0 : Int) = (m : Int) - m; omega, Nat.le_refl _, pdFr_rfl, g, S, ok, gSame_rfl, rfl⟩
  rintro k L M1 ⟨l0, l1, l2, l3, hk2, F1, h, S1, ok1, sm1, hw⟩ N' hN'
  have hk1 : h 114 1 ≤ 3 := ok1.1.1.2.1
  have hn1 : h 114 5 ≤ 14 := ok1.1.1.2.2.2.1
  have hn0 : 0 ≤ h 114 5 := ok1.1.1.2.2.1
  have en1 := gN_eq hn0
  have e2 : M1 (d + 3) 2 = (m : Int) := by rw [S1.1.1.2.2.2.2.2.2.2.1 2 (by decide) (by decide), (sm1.2 2).1]; omega
  have crowd : M1 (d + 5) f = gThere h f := by
    rcases hf with q | q <;> rw [q]
    · exact S1.1.1.2.2.2.2.2.2.2.2.1
    · exact S1.1.1.2.2.2.2.2.2.2.2.2
  have tb0 : 0 ≤ gThere h f := sm_nonneg _ (fun p _ _ => by split <;> omega)
  have tb1 : gThere h f ≤ 1 * (gN h : Nat) := sm_le 1 _ (fun p _ _ => by split <;> omega)
  have f01 : 0 ≤ f ∧ f < 2 := by omega
  have fin : h = gLvs t f m g → tRet0 L M1 (fun _ _ => False) Q := fun e => by
    rw [e] at S1
    exact hq M1 S1 F1
  have hc : ∀ T F : jMm → Prop, (kAnd (kR (fun x y => x < y) (xV 3) (xAl (xGr (xV 0) 2) (xC 2))) (kZ (fun x y => x > y) (xAl (xGr (xV 0) 4) (xV 1)))) L M1 T F = (((0 < k ∧ gThere h f > 0) → T M1) ∧ (¬ (0 < k ∧ gThere h f > 0) → F M1)) := fun T F => propext (by
    have i3 : (0 : Int) ≤ 2 ∧ (2 : Int) < 7 := by decide
    by_cases c1 : 0 < k
    · have c1' : (m : Int) - k < m := by omega
      by_cases c2 : gThere h f > 0 <;> simp [-Int.not_lt, -Int.not_le, kAnd, kR, kZ, xV, xC, xAl, xGr, l0, l1, l3, drf2 hd, drf4 hd, dln3 hd, dln5 hd, e2, crowd, f01, c1, c1', c2]
    · have c1' : ¬ (m : Int) - k < m := by omega
      simp [-Int.not_lt, -Int.not_le, kAnd, kR, kZ, xV, xC, xAl, xGr, l0, l1, l3, drf2 hd, drf4 hd, dln3 hd, dln5 hd, e2, crowd, f01, c1, c1'])
  rw [hc]
  refine ⟨fun c => ?_, fun c => ?_⟩
  · obtain ⟨k', rfl⟩ : ∃ k', k = k' + 1 := ⟨k - 1, by omega⟩
    have hw' : gLvs t f k' (gLv t f h) = gLvs t f m g := hw
    have i4 : ir (L 3 + 1) := ⟨by omega, by omega⟩
    have key : ∀ (L2 : jLo) M2, L2 0 = d → L2 1 = f → L2 2 = t → L2 3 = L 3 → pdS d M2 (gLv t f h) → pdFr d M1 M2 → tInc 3 1 L2 M2 N' Q := fun L2 M2 a0 a1 a2 a3 S2 F2 => by
      refine ⟨by rw [a3]; exact i4, hN' k' _ M2 (by omega) ⟨a0, a1, a2, ?_, by omega, pdFr_tr F1 F2, gLv t f h, S2, ok_lv ok1 t0 t1, gSame_tr sm1 same_lv, hw'⟩⟩
      show (if (3 : Nat) = 3 then L2 3 + 1 else _) = _
      rw [if_pos rfl]; omega
    refine sq_ (sq_ (st_v (v := if gLvP f h < 0 then -1 else gLvP f h) (fun Q => ?_) ?_))
    · show f_X0_firstOnLanding [L 0, L 1] M1 Q = _
      rw [l0, l1]
      exact pd_first hd S1.1 ok1
    unfold gLv at key
    rcases lvp_cases (g := h) (f := f) hn0 with z | ⟨z1, z2, z3, z4⟩
    · rw [if_neg (by omega)] at key
      refine if_pc False (fun T F => ?_) (fun c => c.elim) (fun _ => key _ _ l0 l1 l2 rfl S1 pdFr_rfl)
      simp [kZ, xV, jup, z]
    · rw [if_pos z1] at key
      have e : (if gLvP f h < 0 then -1 else gLvP f h) = gLvP f h := if_neg (by omega)
      rw [e]
      generalize gLvP f h = q at *
      have q14 : q < 14 := by omega
      refine if_pc True (fun T F => ?_) (fun _ => ?_) (fun c => absurd trivial c)
      · simp [kZ, xV, jup, z1]
      refine sq_ (seqG (x := d + 6 + q) (y := t) (fun Q => ?_) (fun Q => ?_) ?_)
      · simp [xAr, xGr, xV, jup, l0, drf0 hd, dln1 hd, drr hd z1 q14, z1, q14]
      · simp [xV, jup, l2]
      rw [pd_goThrough]
      have e5 : jwr (jwr M1 (d + 6 + q) 4 3) (d + 6 + q) 9 t (d + 5) f = M1 (d + 5) f := by rw [jw0 (by omega), jw0 (by omega)]
      have i5 : ir (M1 (d + 5) f - 1) := ⟨by omega, by omega⟩
      simp only [tAstO, xV, xC, xGr, boSub, jup, l0, l1, drf4 hd, dln5 hd, f01, e5, i5, true_and, reduceIte, Nat.reduceEqDiff]
      refine key _ _ l0 l1 l2 rfl (pdS_lv S1 hk1 z1 z2 hn1 z3 z4 hf) ?_
      refine pdFr_wr (pdFr_wr (pdFr_wr pdFr_rfl ?_) ?_) ?_ <;> unfold pdCell <;> omega
  · refine fin ?_
    by_cases k0 : k = 0
    · subst k0; exact hw
    · have : gThere h f = 0 := by omega
      rw [← hw, lvs_none (lvp_there hn0 this)]
