/-! the program: walk, advance -/
theorem pd_walk {d s : Int} {M g : jMm} {Q : Int → jMm → Prop} (hd : isDay d) (S : pdS d M g) {T B : Int} (ok : gOK T B g) (s0 : 0 ≤ s) (s1 : s < g 114 1) (hq : ∀ M', pdS d M' (gWalks s (g 116 (3 * s) - 1).toNat g) → pdFr d M M' → Q 0 M') : f_X0_walk [d, d + 20 + 2 * s] M Q := by
  unfold f_X0_walk
  have hk := ok.1.1.2.1
  have s3 : s < 3 := by omega
  obtain ⟨bl, l3, l10⟩ := pd_bound S ok s0 s1
  have eN : (((g 116 (3 * s) - 1).toNat : Nat) : Int) = g 116 (3 * s) - 1 := by omega
  generalize hm : (g 116 (3 * s) - 1).toNat = m at *
  refine mt_ (sq_ (sq_ (st_v (v := g 116 (3 * s) - 2) (fun Q => ?_) ?_)))
  · simp (disch := omega) only [xBin, boSub, xGf, xV, xC, jIn, bl, irE, reduceIte, Nat.reduceEqDiff]
  refine dn0 m (fun j L M' => L 0 = d ∧ L 1 = d + 20 + 2 * s ∧ pdFr d M M' ∧ ∃ h, pdS d M' h ∧ gOK T B h ∧ gSame g h ∧ gWalks s j h = gWalks s m g) ?_ ⟨rfl, rfl, pdFr_rfl, g, S, ok, gSame_rfl, rfl⟩ ?_ (by omega) ?_
  · show g 116 (3 * s) - 2 = (m : Int) - 1
    omega
  · rintro j L M' N1 hj hi ⟨l0, l1, F, h, S', ok', sm', hw⟩ hN
    have e1 : h 114 1 = g 114 1 := sm'.1 1 (by decide)
    have e2 : h 116 (3 * s) = g 116 (3 * s) := (sm'.2 _).2.1
    have v' := ok'.1
    have hn0 := v'.1.2.2.1
    have hn := v'.1.2.2.2.1
    obtain ⟨bl', -, -⟩ := pd_bound S' ok' s0 (by omega)
    have X := S'.2 s s0 (by omega)
    have w1 : ∀ x, 0 ≤ x → x < g 116 (3 * s) → ∀ Q, f_X1_who [d + 20 + 2 * s, x, 1] M' Q = Q (M' (d + 21 + 2 * s) (2 * x + 1)) M' := fun x x0 x1 Q => by
      rw [pd_who hd s0 s3 (by omega), if_pos (by omega)]
    have key : ∀ M2 v, pdS d M2 (gWalk s j h) → pdFr d M' M2 → N1 (jup L 3 v) M2 := fun M2 v S2 F2 => hN _ _ hi ⟨l0, l1, pdFr_tr F F2, gWalk s j h, S2, ok_walk ok' s0 (by omega) (by omega), gSame_tr sm' same_walk, hw⟩
    refine sq_ (st_v (v := M' (d + 21 + 2 * s) (2 * j + 1)) (fun Q => ?_) ?_)
    · simp only [xCall, xsC, xsN, xV, xC, l1, hi]
      exact w1 j (by omega) (by omega) Q
    have whoeq : ∀ x, 0 ≤ x → x < h 116 (3 * s) → (M' (d + 21 + 2 * s) (2 * x + 1) = -1 ∧ gWho h s x 1 = -4) ∨ (0 ≤ M' (d + 21 + 2 * s) (2 * x + 1) ∧ gWho h s x 1 = M' (d + 21 + 2 * s) (2 * x + 1)) := fun x x0 x1 => by
      rcases pd_spot X x0 x1 (y := 1) (by decide) (by decide) with ⟨a1, a2⟩ | ⟨a1, a2, a3, a4⟩ <;> rcases who_cases (g := h) (s := s) (x := x) (y := 1) hn0 with ⟨b1, b2⟩ | ⟨b1, b2, b3⟩
      · exact .inl ⟨a1, b1⟩
      · exact absurd b3 (a2 _ b1 b2)
      · exact absurd a3 (b2 _ a1 a2)
      · exact .inr ⟨a1, a4 _ b1 b2 b3⟩
    have wj := whoeq j (by omega) (by omega)
    have wj1 := whoeq (j + 1) (by omega) (by omega)
    have spj := pd_spot X (x := j) (y := 1) (by omega) (by omega) (by decide) (by decide)
    have spj1 := pd_spot X (x := j + 1) (y := 1) (by omega) (by omega) (by decide) (by decide)
    generalize hq1 : M' (d + 21 + 2 * s) (2 * j + 1) = q at *
    generalize hq2 : M' (d + 21 + 2 * s) (2 * (↑j + 1) + 1) = q2 at *
    unfold gWalk at key
    have Pk : ∀ p, 0 ≤ p → p < h 114 5 → M' (d + 6 + p) 2 = h 124 p := fun p p0 p1 => (S'.1.2.2 p p0 p1).2.2.1
    have i1 : ir ((j : Int) + 1) := ⟨by omega, by omega⟩
    rcases wj with ⟨a1, a2⟩ | ⟨a1, a2⟩
    · rw [a2, if_neg (by omega)] at key
      refine if_pc False (fun T F => ?_) (fun c => c.elim) (fun _ => key _ _ S' pdFr_rfl)
      simp [kAnd, kZ, xV, jup, a1]
    · have qb : q < h 114 5 ∧ gAt h q s j 1 := by
        rcases spj with ⟨z, -⟩ | ⟨-, z1, z2, -⟩
        · omega
        · exact ⟨z1, z2⟩
      obtain ⟨q1, ⟨on, st, pl⟩⟩ := qb
      have q14 : q < 14 := by omega
      rw [a2] at key
      have gp := (ok'.2.1 q a1 q1).2.2.2.2.1 on.1
      rw [on.2] at gp
      refine if_pc (h 124 q = 1 ∧ q2 < 0) (fun T F => propext ?_) (fun c => ?_) (fun c => ?_)
      · have hk := Pk q a1 q1
        have w2 := w1 (j + 1) (by omega) (by omega)
        rw [hq2] at w2
        by_cases c1 : h 124 q = 1 <;> by_cases c2 : q2 < 0 <;> simp [-Int.not_lt, kAnd, kZ, kR, xV, xC, xGf, xAr, xGr, xCall, xsC, xsN, xBin, boAdd, jup, l0, l1, hi, drf0 hd, dln1 hd, drr hd a1 q14, hk, a1, q14, c1, c2, w2, i1]
      · obtain ⟨c1, c2⟩ := c
        have pl1 : h 127 q = 1 := by
          rcases pl with z | z
          · exact z
          · rw [c1] at z; exact absurd z (by decide)
        have who2 : gWho h s (j + 1) 1 < 0 := by omega
        rw [if_pos ⟨⟨a1, c1, pl1⟩, who2⟩] at key
        have z1 : ∀ (M : jMm) (v : Int) Q, M (d + 20 + 2 * s) 1 = h 116 (3 * s) → f_X1_put [d + 20 + 2 * s, j, 1, v] M Q = Q 0 (jwr M (d + 21 + 2 * s) (2 * j + 1) v) := fun M v Q e => pd_put hd s0 s3 (by omega) (by omega) (by omega) (by decide) (by decide)
        have z2 : ∀ (M : jMm) (v : Int) Q, M (d + 20 + 2 * s) 1 = h 116 (3 * s) → f_X1_put [d + 20 + 2 * s, (j : Int) + 1, 1, v] M Q = Q 0 (jwr M (d + 21 + 2 * s) (2 * ((j : Int) + 1) + 1) v) := fun M v Q e => pd_put hd s0 s3 (by omega) (by omega) (by omega) (by decide) (by decide)
        have m1 : jwr M' (d + 21 + 2 * s) (2 * j + 1) (-1) (d + 20 + 2 * s) 1 = h 116 (3 * s) := by rw [jw0 (by omega)]; exact bl'
        simp only [tSeq, tDo, xsC, xsN, xV, xC, xBin, boAdd, jup, l1, hi, z1 _ _ _ bl', z2 _ _ _ m1, i1, true_and, reduceIte, Nat.reduceEqDiff]
        refine key _ _ ?_ ?_
        · refine ⟨pdC_mem (pdC_126 S'.1 (fun a b ha => ?_)) ?_ ?_ (fun a b ha => ?_), fun s' s0' s1' => ?_⟩
          · unfold jwr; rw [if_neg (by omega)]
          · show jwr h 126 q (h 126 q + 1) 114 1 ≤ 3
            rw [jw0 (by omega)]; omega
          · show jwr h 126 q (h 126 q + 1) 114 5 ≤ 14
            rw [jw0 (by omega)]; omega
          · have := ha s s0 s3
            rw [jw0 (by omega), jw0 (by omega)]
          · have s1' : s' < h 114 1 := by rw [jw0 (by omega)] at s1'; exact s1'
            by_cases cs : s' = s
            · subst cs
              intro x y x0 x1 y0 y1
              rw [jw0 (by omega)] at x1
              obtain ⟨w3, w4⟩ := X x y x0 x1 y0 y1
              have e5 : jwr h 126 q (h 126 q + 1) 114 5 = h 114 5 := jw0 (by omega)
              have atq : ∀ p, p ≠ q → (gAt (jwr h 126 q (h 126 q + 1)) p s' x y ↔ gAt h p s' x y) := fun p hp => by
                unfold gAt
                rw [jw0 (by omega), jw0 (by omega), jw0 (by omega), jw0 (by omega), jw0 (by omega)]
              have atq2 : gAt (jwr h 126 q (h 126 q + 1)) q s' x y ↔ ((j : Int) + 1 = x ∧ y = 1) := by
                unfold gAt
                rw [jw0 (by omega), jw0 (by omega), jw1 ⟨rfl, rfl⟩, jw0 (by omega), jw0 (by omega)]
                constructor
                · rintro ⟨-, b1, b2⟩; exact ⟨by omega, by omega⟩
                · rintro ⟨b1, b2⟩; exact ⟨on, by omega, .inl (by omega)⟩
              rw [e5]
              by_cases cy : y = 1
              · subst cy
                by_cases cx : x = j + 1
                · subst cx
                  rw [jw1 ⟨rfl, rfl⟩]
                  refine ⟨by omega, fun p p0 => ?_⟩
                  by_cases e : p = q
                  · subst e
                    exact ⟨fun _ => ⟨q1, atq2.mpr ⟨rfl, rfl⟩⟩, fun _ => rfl⟩
                  · rw [atq p e]
                    constructor
                    · intro z; exact absurd z.symm e
                    · intro z
                      have := (w4 p p0).mpr z
                      omega
                · by_cases cx2 : x = j
                  · subst cx2
                    rw [jw0 (by omega), jw1 ⟨rfl, rfl⟩]
                    refine ⟨by decide, fun p p0 => ?_⟩
                    constructor
                    · intro z; omega
                    · intro z
                      by_cases e : p = q
                      · subst e
                        have := (atq2.mp z.2).1
                        omega
                      · rw [atq p e] at z
                        have := (w4 p p0).mpr z
                        omega
                  · rw [jw0 (by omega), jw0 (by omega)]
                    refine ⟨w3, fun p p0 => ?_⟩
                    by_cases e : p = q
                    · subst e
                      rw [atq2]
                      constructor
                      · intro z
                        have := (w4 p p0).mp z
                        have := this.2.2.1
                        omega
                      · intro z; omega
                    · rw [atq p e]; exact w4 p p0
              · rw [jw0 (by omega), jw0 (by omega)]
                refine ⟨w3, fun p p0 => ?_⟩
                by_cases e : p = q
                · subst e
                  rw [atq2]
                  constructor
                  · intro z
                    have := ((w4 p p0).mp z).2.2.2
                    rcases this with b | b
                    · omega
                    · rw [c1] at b; exact absurd b (by decide)
                  · intro z; omega
                · rw [atq p e]; exact w4 p p0
            · refine pdX_fr (S'.2 s' s0' s1') (fun b => ?_) (same_wr (.inl (by decide))) (fun p x y p0 p1 => ?_)
              · rw [jw0 (by omega), jw0 (by omega)]
              · by_cases e : p = q
                · subst e
                  constructor
                  · rintro ⟨⟨-, z⟩, -⟩
                    rw [jw0 (by omega), on.2] at z
                    exact absurd z.symm cs
                  · rintro ⟨⟨-, z⟩, -⟩
                    rw [on.2] at z
                    exact absurd z.symm cs
                · unfold gAt
                  rw [jw0 (by omega), jw0 (by omega), jw0 (by omega), jw0 (by omega), jw0 (by omega)]
        · refine pdFr_wr (pdFr_wr pdFr_rfl ?_) ?_ <;> unfold pdCell <;> omega
      · rw [if_neg (fun z => c ⟨z.1.2.1, by have := z.2; omega⟩)] at key
        exact key _ _ S' pdFr_rfl
  · rintro L M' hi ⟨-, -, F, h, S', -, -, hw⟩
    have hw : h = gWalks s m g := hw
    rw [hw] at S'
    exact hq _ S' F
theorem many_eq {d s : Int} {M g : jMm} {T B : Int} (S : pdS d M g) (ok : gOK T B g) (s0 : 0 ≤ s) (s1 : s < g 114 1) {r l : Int} (hr : M (d + 21 + 2 * s) (2 * (g 116 (3 * s) - 1) + 0) = r) (hl : M (d + 21 + 2 * s) (2 * (g 116 (3 * s) - 1) + 1) = l) : gMany g s = (if r < 0 then 0 else 1) + (if l < 0 ∨ l = r then 0 else 1) := by
  obtain ⟨bl, l3, l10⟩ := pd_bound S ok s0 s1
  have X := S.2 s s0 s1
  have hn0 := ok.1.1.2.2.1
  have en := gN_eq hn0
  have Pr := pd_spot X (x := g 116 (3 * s) - 1) (y := 0) (by omega) (by omega) (by decide) (by decide)
  have Pl := pd_spot X (x := g 116 (3 * s) - 1) (y := 1) (by omega) (by omega) (by decide) (by decide)
  rw [hr] at Pr
  rw [hl] at Pl
  have hset : ∀ b, 0 ≤ b → b < g 114 5 → ((gOn g b s ∧ g 126 b = g 116 (3 * s) - 1) ↔ (b = r ∨ b = l)) := fun b b0 b1 => by
    constructor
    · rintro ⟨on, st⟩
      have gp := (ok.2.1 b b0 b1).2.2.2.2.1 on.1
      by_cases y : g 127 b = 0
      · left
        rcases Pr with ⟨-, q⟩ | ⟨-, -, -, q⟩
        · exact absurd ⟨on, st, .inl y⟩ (q b b0 b1)
        · exact q b b0 b1 ⟨on, st, .inl y⟩
      · right
        have y1 : g 127 b = 1 := by omega
        rcases Pl with ⟨-, q⟩ | ⟨-, -, -, q⟩
        · exact absurd ⟨on, st, .inl y1⟩ (q b b0 b1)
        · exact q b b0 b1 ⟨on, st, .inl y1⟩
    · rintro (q | q)
      · rcases Pr with ⟨z, -⟩ | ⟨-, -, z, -⟩
        · omega
        · rw [q]; exact ⟨z.1, z.2.1⟩
      · rcases Pl with ⟨z, -⟩ | ⟨-, -, z, -⟩
        · omega
        · rw [q]; exact ⟨z.1, z.2.1⟩
  have one : ∀ q, 0 ≤ q → q < g 114 5 → sm (fun p => if p = q then 1 else 0) (gN g) = 1 := fun q q0 q1 => by
    rw [sm_upd (f := fun _ => 0) (q := q) (gN g) q0 (by omega) (fun p _ _ hp => by simp [hp]), sm_zero _ (fun _ _ _ => rfl)]
    simp
  unfold gMany
  by_cases r0 : r < 0
  · by_cases l0 : l < 0
    · rw [sm_zero, if_pos r0, if_pos (.inl l0)]
      · rfl
      · intro p p0 p1
        rw [if_neg (fun z => ?_)]
        have := (hset p p0 (by omega)).mp z
        omega
    · rw [if_pos r0, if_neg (by omega), sm_congr (h := fun p => if p = l then 1 else 0), one l (by omega) (by rcases Pl with ⟨q, -⟩ | ⟨-, q, -⟩ <;> omega)]
      · rfl
      · intro p p0 p1
        have := hset p p0 (by omega)
        by_cases c : p = l
        · rw [if_pos c, if_pos (this.mpr (.inr c))]
        · rw [if_neg c, if_neg (fun z => by have := this.mp z; omega)]
  · have r1 : r < g 114 5 := by rcases Pr with ⟨q, -⟩ | ⟨-, q, -⟩ <;> omega
    by_cases l0 : l < 0 ∨ l = r
    · rw [if_neg r0, if_pos l0, sm_congr (h := fun p => if p = r then 1 else 0), one r (by omega) r1]
      · rfl
      · intro p p0 p1
        have := hset p p0 (by omega)
        by_cases c : p = r
        · rw [if_pos c, if_pos (this.mpr (.inl c))]
        · rw [if_neg c, if_neg (fun z => by have := this.mp z; omega)]
    · rw [if_neg r0, if_neg l0, sm_congr (h := fun p => (if p = r then 1 else 0) + (if p = l then 1 else 0)), sm_add, one r (by omega) r1, one l (by omega) (by rcases Pl with ⟨q, -⟩ | ⟨-, q, -⟩ <;> omega)]
      intro p p0 p1
      have := hset p p0 (by omega)
      by_cases c : p = r
      · rw [if_pos (this.mpr (.inl c)), if_pos c, if_neg (by omega)]; rfl
      · by_cases c2 : p = l
        · rw [if_pos (this.mpr (.inr c2)), if_neg c, if_pos c2]; rfl
        · rw [if_neg (fun z => by have := this.mp z; omega), if_neg c, if_neg c2]; rfl
theorem pd_jam {d : Int} {M g : jMm} (hd : isDay d) (S : pdS d M g) (hk : g 114 1 ≤ 3) (hn : g 114 5 ≤ 14) : pdS d (jwr M d 14 (g 114 32 + 1)) (jwr g 114 32 (g 114 32 + 1)) := by
  obtain ⟨⟨⟨d1, d2, d3, d4, d5, d6, d7, d8, d9, d10⟩, sf, sp⟩, sx⟩ := S
  have eg : ∀ a, a ≠ 114 → (jwr g 114 32 (g 114 32 + 1)) a = g a := fun a ha => funext fun b => jw0 (.inl ha)
  have e1 : jwr g 114 32 (g 114 32 + 1) 114 1 = g 114 1 := jw0 (by omega)
  have e5 : jwr g 114 32 (g 114 32 + 1) 114 5 = g 114 5 := jw0 (by omega)
  have e16 : jwr g 114 32 (g 114 32 + 1) 114 16 = g 114 16 := jw0 (by omega)
  have eN : gN (jwr g 114 32 (g 114 32 + 1)) = gN g := by show (_ : Int).toNat = _; rw [e5]
  refine ⟨⟨⟨?_, ?_, ?_, ?_, ?_, ?_, ?_, fun j j1 j2 => ?_, ?_, ?_⟩, fun s s0 s1 => ?_, fun p p0 p1 => ?_⟩, fun s s0 s1 => ?_⟩
  · rw [jw0 (by omega), e1]; exact d1
  · rw [jw0 (by omega), e5]; exact d2
  · rw [jw0 (by omega)]; unfold gCnt at d3 ⊢; rw [eN, eg 123 (by decide)]; exact d3
  · rw [jw0 (by omega), jw0 (by omega)]; exact d4
  · rw [jw1 ⟨rfl, rfl⟩, jw1 ⟨rfl, rfl⟩]
  · rw [jw0 (by omega), jw0 (by omega)]; exact d6
  · rw [jw0 (by omega), e16]; exact d7
  · rw [jw0 (by omega), eg 115 (by decide)]; exact d8 j j1 j2
  · rw [jw0 (by omega)]; unfold gThere at d9 ⊢; rw [eN, eg 123 (by decide), eg 128 (by decide)]; exact d9
  · rw [jw0 (by omega)]; unfold gThere at d10 ⊢; rw [eN, eg 123 (by decide), eg 128 (by decide)]; exact d10
  · rw [e1] at s1
    have := sf s s0 s1
    have em : ∀ b, jwr M d 14 (g 114 32 + 1) (d + 20 + 2 * s) b = M (d + 20 + 2 * s) b := fun b => jw0 (by omega)
    unfold pdF gWeight gOn at this ⊢
    rw [em, em, em, em, em, eg 116 (by decide), eg 134 (by decide), eg 122 (by decide), eg 135 (by decide), eN, eg 123 (by decide), eg 124 (by decide), eg 125 (by decide)]
    exact this
  · rw [e5] at p1
    have := sp p p0 p1
    have em : ∀ b, jwr M d 14 (g 114 32 + 1) (d + 6 + p) b = M (d + 6 + p) b := fun b => jw0 (by omega)
    unfold pdP at this ⊢
    simp only [em]
    rw [eg 117 (by decide), eg 124 (by decide), eg 123 (by decide), eg 128 (by decide), eg 129 (by decide), eg 130 (by decide), eg 131 (by decide), eg 132 (by decide), eg 200 (by decide)]
    exact this
  · rw [e1] at s1
    refine pdX_fr (sx s s0 s1) (fun b => jw0 (by omega)) (same_wr (.inr ⟨rfl, by decide⟩)) (fun p x y _ _ => ?_)
    unfold gAt
    rw [eg 123 (by decide), eg 124 (by decide), eg 125 (by decide), eg 126 (by decide), eg 127 (by decide)]
