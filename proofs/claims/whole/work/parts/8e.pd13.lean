/-! the program: a tick -/
theorem pd_turn {d t : Int} {w : Int → Int} {M g : jMm} {Q : Int → jMm → Prop} (hd : isDay d) (S : pdS d M g) {T B : Int} (ok : gOK T B g) (t0 : 0 ≤ t) (t1 : t ≤ 99) (w0 : 0 ≤ M d 11) (hw : ∀ s, 0 ≤ s → s < g 114 1 → w s = wy (M d 11) s) (hq : ∀ M', pdS d M' (gAll (gChg t w) (gK g) g) → pdFr d M M' → Q 0 M') : f_X0_turn [d, t] M Q := by
  unfold f_X0_turn
  have ek := gK_eq ok.1.1.1
  have hk := ok.1.1.2.1
  refine mt_ (sq_ (sq_ (st_c ?_)))
  refine up0 (gK g) (fun s L M1 => L 0 = d ∧ L 1 = t ∧ pdFr d M M1 ∧ pdS d M1 (gAll (gChg t w) s g) ∧ gOK T B (gAll (gChg t w) s g)) rfl (by omega) ⟨rfl, rfl, pdFr_rfl, S, ok⟩ ?_ ?_ ?_
  · rintro s L M1 Q ⟨l0, -, -, S1, -⟩ hq
    show Q (M1 (L 0) 5) M1
    rw [l0, S1.1.1.1, (same_all (fun _ _ => same_chg) s).1 1 (by decide), ← ek]; exact hq
  · rintro s L M1 N1 hs hi ⟨l0, l1, F1, S1, ok1⟩ hN
    have e1 : gAll (gChg t w) s g 114 1 = g 114 1 := (same_all (fun _ _ => same_chg) s).1 1 (by decide)
    have e11 : M1 d 11 = M d 11 := F1.2.1 11 (by omega)
    have s0 : (0 : Int) ≤ s := by omega
    have s1 : (s : Int) < g 114 1 := by omega
    have wr := wy_r (w := M d 11) (s := (s : Int))
    have hws := hw s s0 s1
    refine pd_turn1 hd S1 ok1 s0 (by omega) (by omega) (by rw [e11]; exact hws) l0 l1 hi (fun L' M' a0 a1 a2 S2 F2 => hN L' M' a2 ⟨a0, a1, pdFr_tr F1 F2, S2, ok_chg ok1 s0 (by omega) (by omega) (by omega) t0 t1⟩)
  · rintro L M1 hi ⟨-, -, F1, S1, -⟩
    exact hq _ S1 F1
theorem only_arr {q : Int} {g : jMm} : gOnly q g (jwr g 123 q 1) := by
  refine ⟨same_wr (.inl (by decide)), fun b => by rw [jw0 (by omega)], fun a b h ha => ?_⟩
  rw [jw0 (by omega)]
theorem pdS_arr {d q a8 : Int} {M g : jMm} (S : pdS d M g) (hk : g 114 1 ≤ 3) (q0 : 0 ≤ q) (q1 : q < g 114 5) (hn : g 114 5 ≤ 14) (h0 : g 123 q = 0) : pdS d (jwr (jwr (jwr M (d + 6 + q) 4 0) d 8 a8) d 9 (M d 9 + 1)) (jwr g 123 q 1) := by
  obtain ⟨C, X⟩ := S
  have C' := C
  obtain ⟨⟨d1, d2, d3, d4, d5, d6, d7, d8, d9, d10⟩, sf, sp⟩ := C
  have o := only_arr (q := q) (g := g)
  have e1 : jwr g 123 q 1 123 q = 1 := jw1 ⟨rfl, rfl⟩
  have e4 : ∀ a, a ≠ 123 → jwr g 123 q 1 a q = g a q := fun a h1 => jw0 (.inl h1)
  have o1 : jwr g 123 q 1 114 1 = g 114 1 := o.2.1 1
  obtain ⟨p1, p2, p3, p4, p5, p6, p7, p8, p9, p10⟩ := sp q q0 q1
  refine ⟨pdC_step C' o (fun b b8 b9 => ?_) ?_ (fun b => ?_) ?_ ?_ (fun s' b s0' s1' hb => ?_) (fun s' s0' s1' => ?_) (fun p b p0 p1 hp => ?_) (fun _ _ => ?_), fun s' s0' s1' => ?_⟩
  · rw [jw0 (by omega), jw0 (by omega), jw0 (by omega)]
  · rw [jw1 ⟨rfl, rfl⟩, d3, cnt_only o q0 q1, h0, e1, if_neg (by decide), if_pos rfl]; omega
  · rw [jw0 (by omega), jw0 (by omega), jw0 (by omega)]
  · rw [jw0 (by omega), jw0 (by omega), jw0 (by omega), there_only o q0 q1, h0, e1, d9, if_neg (show ¬ ((0 : Int) = 3 ∧ _) by omega), if_neg (show ¬ ((1 : Int) = 3 ∧ _) by omega)]; omega
  · rw [jw0 (by omega), jw0 (by omega), jw0 (by omega), there_only o q0 q1, h0, e1, d10, if_neg (show ¬ ((0 : Int) = 3 ∧ _) by omega), if_neg (show ¬ ((1 : Int) = 3 ∧ _) by omega)]; omega
  · rw [jw0 (by omega), jw0 (by omega), jw0 (by omega)]
  · rw [weight_only o q0 q1]
    obtain ⟨-, -, -, -, f5⟩ := sf s' s0' s1'
    have z : ¬ gOn (jwr g 123 q 1) q s' := fun z => by rw [gOn, e1] at z; exact absurd z.1 (by decide)
    have z2 : ¬ gOn g q s' := fun z => by rw [gOn, h0] at z; exact absurd z.1 (by decide)
    rw [if_neg z, if_neg z2, jw0 (by omega), jw0 (by omega), jw0 (by omega), f5]; omega
  · rw [jw0 (by omega), jw0 (by omega), jw0 (by omega)]
  · unfold pdP
    rw [e1, e4 124 (by decide), e4 131 (by decide), e4 130 (by decide), e4 132 (by decide), e4 200 (by decide), (o.1.2 _).2.2.1, (o.1.2 _).2.2.1]
    refine ⟨?_, ?_, ?_, ?_, ?_, ?_, ?_, fun z => absurd z (by decide), ?_, ?_⟩
    · rw [jw0 (by omega), jw0 (by omega), jw0 (by omega)]; exact p1
    · rw [jw0 (by omega), jw0 (by omega), jw0 (by omega)]; exact p2
    · rw [jw0 (by omega), jw0 (by omega), jw0 (by omega)]; exact p3
    · rw [jw0 (by omega), jw0 (by omega), jw0 (by omega)]; exact p4
    · rw [jw0 (by omega), jw0 (by omega), jw1 ⟨rfl, rfl⟩]; rfl
    · rw [jw0 (by omega), jw0 (by omega), jw0 (by omega)]; exact p6
    · rw [jw0 (by omega), jw0 (by omega), jw0 (by omega)]; exact p7
    · rw [jw0 (by omega), jw0 (by omega), jw0 (by omega)]; exact p9
    · rw [jw0 (by omega), jw0 (by omega), jw0 (by omega)]; exact p10
  · rw [o1] at s1'
    refine pdX_fr (X s' s0' s1') (fun b => by rw [jw0 (by omega), jw0 (by omega), jw0 (by omega)]) o.1 (fun p x y p0 p1 => ?_)
    by_cases e : p = q
    · subst e
      constructor
      · intro z; rw [gAt, e1] at z; exact absurd z.1.1 (by decide)
      · intro z; rw [gAt, h0] at z; exact absurd z.1.1 (by decide)
    · unfold gAt
      rw [o.2.2 123 p (.inl e) (by decide), o.2.2 124 p (.inl e) (by decide), o.2.2 125 p (.inl e) (by decide), o.2.2 126 p (.inl e) (by decide), o.2.2 127 p (.inl e) (by decide)]
/-- outside of the day, and what of it a tick leaves -/
def pdTr (d : Int) (M M' : jMm) : Prop := (∀ a b, (a < d ∨ d + 26 ≤ a) → M' a b = M a b) ∧ (∀ b, (b = 7 ∨ b = 10 ∨ b = 11) → M' d b = M d b) ∧ ∀ b, M' (d + 4) b = M (d + 4) b
theorem pdTr_rfl {d : Int} {M : jMm} : pdTr d M M := ⟨fun _ _ _ => rfl, fun _ _ => rfl, fun _ => rfl⟩
theorem pdTr_tr {d : Int} {M M' M'' : jMm} (h : pdTr d M M') (h' : pdTr d M' M'') : pdTr d M M'' := ⟨fun a b n => (h'.1 a b n).trans (h.1 a b n), fun b n => (h'.2.1 b n).trans (h.2.1 b n), fun b => (h'.2.2 b).trans (h.2.2 b)⟩
theorem pdTr_fr {d : Int} {M M' : jMm} (h : pdFr d M M') : pdTr d M M' := ⟨h.1, fun b n => h.2.1 b (by omega), h.2.2⟩
theorem pdTr_wr {d k j v : Int} {M M' : jMm} (h : pdTr d M M') (c : d ≤ k ∧ k < d + 26 ∧ k ≠ d + 4 ∧ (k = d → ¬ (j = 7 ∨ j = 10 ∨ j = 11))) : pdTr d M (jwr M' k j v) := by
  obtain ⟨c1, c2, c3, c4⟩ := c
  refine ⟨fun a b n => ?_, fun b n => ?_, fun b => ?_⟩ <;> unfold jwr
  · rw [if_neg (by omega)]; exact h.1 a b n
  · rw [if_neg (fun q => c4 q.1.symm (by rw [← q.2]; exact n))]; exact h.2.1 b n
  · rw [if_neg (by omega)]; exact h.2.2 b
theorem pd_arrive {d t : Int} {M g : jMm} {Q : Int → jMm → Prop} (hd : isDay d) (S : pdS d M g) {B : Int} (ok : gOK t B g) (Li : pdL d M g t) (t0 : 0 ≤ t) (hq : ∀ M', pdS d M' (gArr t g) → pdL d M' (gArr t g) (t + 1) → pdTr d M M' → M' d 12 = M d 12 → Q 0 M') : f_X0_arrive [d, t] M Q := by
  unfold f_X0_arrive
  have hk := ok.1.1.2.1
  have hn0 := ok.1.1.2.2.1
  have hn := ok.1.1.2.2.2.1
  have en := gN_eq hn0
  obtain ⟨⟨a0, a7, a14⟩, L1, L2, L3, L4⟩ := Li
  refine mt_ (sq_ ?_)
  refine wh_rule (fun m L M1 => L 0 = d ∧ L 1 = t ∧ pdTr d M M1 ∧ M1 d 12 = M d 12 ∧ M d 8 ≤ M1 d 8 ∧ M1 d 8 ≤ M d 7 ∧ m = (M d 7 - M1 d 8).toNat ∧ (∀ i, M d 8 ≤ i → i < M1 d 8 → g 117 (3 * M (d + 4) i) = t) ∧ ∃ h, pdS d M1 h ∧ (∀ a b, a ≠ 123 → h a b = g a b) ∧ (∀ i, M d 8 ≤ i → i < M1 d 8 → h 123 (M (d + 4) i) = 1) ∧ ∀ b, (∀ i, M d 8 ≤ i → i < M1 d 8 → M (d + 4) i ≠ b) → h 123 b = g 123 b) ?_ (k := (M d 7 - M d 8).toNat) ⟨rfl, rfl, pdTr_rfl, rfl, Int.le_refl _, a7, rfl, fun i h0 h1 => by omega, g, S, fun _ _ _ => rfl, fun i h0 h1 => by omega, fun _ _ => rfl⟩
  rintro m L M1 ⟨l0, l1, F1, w12, c8, c7, hm, htk, h, S1, hs, h1, h2⟩ N' hN'
  have e7 : M1 d 7 = M d 7 := F1.2.1 7 (by omega)
  have e4 : ∀ b, M1 (d + 4) b = M (d + 4) b := F1.2.2
  have hs5 : h 114 5 = g 114 5 := hs _ _ (by decide)
  have hs1 : h 114 1 = g 114 1 := hs _ _ (by decide)
  have fin : (M1 d 8 = M d 7 ∨ g 117 (3 * M (d + 4) (M1 d 8)) ≠ t) → tRet0 L M1 (fun _ _ => False) Q := fun hx => by
    have hg : h = gArr t g := by
      funext a b
      by_cases ca : a = 123
      · subst ca
        by_cases ex : ∃ i, M d 8 ≤ i ∧ i < M1 d 8 ∧ M (d + 4) i = b
        · obtain ⟨i, i0, i1, ib⟩ := ex
          obtain ⟨q0, q1, q2⟩ := L1 i (by omega) (by omega)
          have tt := htk i i0 i1
          rw [ib] at q0 q1 q2 tt
          rw [← ib, h1 i i0 i1, ib]
          unfold gArr
          rw [if_pos ⟨rfl, q0, q1, tt, q2⟩]
        · rw [h2 b (fun i i0 i1 ib => ex ⟨i, i0, i1, ib⟩)]
          unfold gArr
          rw [if_neg]
          rintro ⟨-, b0, b1, bt, bw⟩
          obtain ⟨i, i0, i7, ib⟩ := L2 b b0 b1 bw
          have i8 : ¬ i < M d 8 := fun z => by
            have := (L4 i i0 i7).mp z
            rw [ib] at this
            omega
          have i9 : ¬ i < M1 d 8 := fun z => ex ⟨i, by omega, z, ib⟩
          rcases hx with z | z
          · omega
          · by_cases e : i = M1 d 8
            · subst e; rw [ib] at z; exact z bt
            · have s1 := L3 (M1 d 8) i (by omega) (by omega) i7
              rw [ib] at s1
              have s2 := L4 (M1 d 8) (by omega) (by omega)
              have : ¬ g 117 (3 * M (d + 4) (M1 d 8)) < t := fun q => by
                have := s2.mpr q
                omega
              omega
      · rw [hs a b ca]
        unfold gArr
        rw [if_neg (fun z => ca z.1)]
    rw [hg] at S1
    refine hq M1 S1 ⟨⟨by omega, by omega, by omega⟩, ?_, ?_, ?_, ?_⟩ F1 w12
    · intro i i0 i7
      rw [e7] at i7
      rw [e4, same_arr.1 5 (by decide), same_arr.1 17 (by decide)]
      exact L1 i i0 i7
    · intro p p0 p1 pw
      rw [same_arr.1 5 (by decide)] at p1
      rw [same_arr.1 17 (by decide)] at pw
      obtain ⟨i, i0, i7, ib⟩ := L2 p p0 p1 pw
      exact ⟨i, i0, by omega, by rw [e4]; exact ib⟩
    · intro i j i0 ij j7
      rw [e7] at j7
      rw [e4, e4, (same_arr.2 _).2.2.1, (same_arr.2 _).2.2.1]
      exact L3 i j i0 ij j7
    · intro i i0 i7
      rw [e7] at i7
      rw [e4, (same_arr.2 _).2.2.1]
      have q := L4 i i0 i7
      constructor
      · intro z
        by_cases i8 : i < M d 8
        · have := q.mp i8; omega
        · have := htk i (by omega) z; omega
      · intro z
        by_cases i9 : i < M1 d 8
        · exact i9
        · have nt : g 117 (3 * M (d + 4) i) = t := by
            have : ¬ g 117 (3 * M (d + 4) i) < t := fun y => by have := q.mpr y; omega
            omega
          rcases hx with y | y
          · omega
          · by_cases e : i = M1 d 8
            · subst e; exact absurd nt y
            · have s1 := L3 (M1 d 8) i (by omega) (by omega) i7
              have s2 := L4 (M1 d 8) (by omega) (by omega)
              have : ¬ g 117 (3 * M (d + 4) (M1 d 8)) < t := fun q => by
                have := s2.mpr q
                omega
              omega
  have cnd : ∀ T F : jMm → Prop, ((M1 d 8 < M d 7 ∧ g 117 (3 * M (d + 4) (M1 d 8)) = t) → T M1) → ((M1 d 8 = M d 7 ∨ g 117 (3 * M (d + 4) (M1 d 8)) ≠ t) → F M1) → (kAnd (kR (fun x y => x < y) (xGf (xV 0) 8) (xGf (xV 0) 7)) (kR (fun x y => x = y) (xGf (xAr (xGr (xV 0) 0) (xAl (xGr (xV 0) 3) (xGf (xV 0) 8))) 0) (xV 1))) L M1 T F := fun T F hT hF => by
    by_cases c : M1 d 8 < M d 7
    · obtain ⟨q0, q1, q2⟩ := L1 (M1 d 8) (by omega) c
      have i14 : 0 ≤ M1 d 8 ∧ M1 d 8 < 14 := by omega
      have q14 : M (d + 4) (M1 d 8) < 14 := by omega
      have tk : M1 (d + 6 + M (d + 4) (M1 d 8)) 0 = g 117 (3 * M (d + 4) (M1 d 8)) := by
        rw [(S1.1.2.2 _ q0 (by omega)).1, hs _ _ (by decide)]
      simp only [kAnd, kR, xGf, xAr, xAl, xGr, xV, l0, l1, e7, drf0 hd, drf3 hd, dln1 hd, dln4 hd, e4, i14, drr hd q0 q14, q0, q14, tk, true_and, and_self]
      exact ⟨fun _ => ⟨fun z => hT ⟨c, z⟩, fun z => hF (.inr z)⟩, fun z => absurd c z⟩
    · simp only [kAnd, kR, xGf, xV, l0, e7]
      exact ⟨fun z => absurd z c, fun _ => hF (.inl (by omega))⟩
  refine cnd _ _ (fun c => ?_) fin
  obtain ⟨c, ct⟩ := c
  obtain ⟨q0, q1, q2⟩ := L1 (M1 d 8) (by omega) c
  have i14 : 0 ≤ M1 d 8 ∧ M1 d 8 < 14 := by omega
  have q14 : M (d + 4) (M1 d 8) < 14 := by omega
  have nq : ∀ i, M d 8 ≤ i → i < M1 d 8 → M (d + 4) i ≠ M (d + 4) (M1 d 8) := fun i i0 i1 z => by
    have := L3 i (M1 d 8) (by omega) i1 c
    rw [z] at this
    omega
  have h0 : h 123 (M (d + 4) (M1 d 8)) = 0 := by
    rw [h2 _ nq]
    exact (ok.2.1 _ q0 q1).2.1.mpr (.inl (by omega))
  have d9 := S1.1.1.2.2.1
  have cn0 : 0 ≤ gCnt h := sm_nonneg _ (fun p _ _ => by split <;> omega)
  have enh : ((gN h : Nat) : Int) = h 114 5 := gN_eq (by omega)
  have cn1 : gCnt h ≤ 1 * (gN h : Nat) := sm_le 1 _ (fun p _ _ => by split <;> omega)
  have i8 : ir (M1 d 8 + 1) := ⟨by omega, by omega⟩
  have i9 : ir (M1 d 9 + 1) := ⟨by omega, by omega⟩
  have S2 := pdS_arr (a8 := M1 d 8 + 1) S1 (by omega) q0 (by omega) (by omega) h0
  have fr := F1
  generalize hqq : M (d + 4) (M1 d 8) = q at *
  have r8 : jwr M1 (d + 6 + q) 4 0 d 8 = M1 d 8 := by rw [jw0 (by omega)]
  have r9 : jwr (jwr M1 (d + 6 + q) 4 0) d 8 (M1 d 8 + 1) d 9 = M1 d 9 := by rw [jw0 (by omega), jw0 (by omega)]
  simp only [tSeq, tPut, tPutO, xGf, xAr, xAl, xGr, xV, xC, boAdd, l0, drf0 hd, drf3 hd, dln1 hd, dln4 hd, e4, hqq, i14, drr hd q0 q14, q0, q14, r8, r9, i8, i9, true_and, and_self]
  have e8 : jwr (jwr (jwr M1 (d + 6 + q) 4 0) d 8 (M1 d 8 + 1)) d 9 (M1 d 9 + 1) d 8 = M1 d 8 + 1 := by rw [jw0 (by omega), jw1 ⟨rfl, rfl⟩]
  refine hN' (M d 7 - (M1 d 8 + 1)).toNat _ _ (by omega) ⟨l0, l1, pdTr_wr (pdTr_wr (pdTr_wr F1 ?_) ?_) ?_, ?_, ?_, ?_, ?_, ?_, _, S2, fun a b ha => ?_, fun i i0 i1 => ?_, fun b hb => ?_⟩
  · exact ⟨by omega, by omega, by omega, by omega⟩
  · exact ⟨by omega, by omega, by omega, by omega⟩
  · exact ⟨by omega, by omega, by omega, by omega⟩
  · rw [jw0 (by omega), jw0 (by omega), jw0 (by omega)]; exact w12
  · rw [e8]; omega
  · rw [e8]; omega
  · rw [e8]
  · intro i i0 i1
    rw [e8] at i1
    by_cases e : i = M1 d 8
    · rw [e, hqq]; exact ct
    · exact htk i i0 (by omega)
  · rw [jw0 (.inl ha)]; exact hs a b ha
  · rw [e8] at i1
    by_cases e : i = M1 d 8
    · rw [e, hqq, jw1 ⟨rfl, rfl⟩]
    · rw [jw0 (.inr (nq i i0 (by omega)))]
      exact h1 i i0 (by omega)
  · rw [e8] at hb
    have := hb (M1 d 8) (by omega) (by omega)
    rw [hqq] at this
    rw [jw0 (.inr (fun z => this z.symm))]
    exact h2 b (fun i i0 i1 => hb i i0 (by omega))
