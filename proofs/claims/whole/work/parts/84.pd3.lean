/-! the program: a stair's step as the ghost's -/
theorem pdC_126 {d : Int} {M g g' : jMm} (S : pdC d M g) (h : ∀ a b, a ≠ 126 → g' a b = g a b) : pdC d M g' := by
  have e : ∀ a, a ≠ 126 → g' a = g a := fun a ha => funext fun b => h a b ha
  unfold pdC pdD pdF pdP gCnt gThere gWeight gN gOn at S ⊢
  rw [e 114 (by decide), e 115 (by decide), e 116 (by decide), e 117 (by decide), e 122 (by decide), e 123 (by decide), e 124 (by decide), e 125 (by decide), e 128 (by decide), e 129 (by decide), e 130 (by decide), e 131 (by decide), e 132 (by decide), e 134 (by decide), e 135 (by decide), e 200 (by decide)]
  exact S
theorem pdC_mem {d : Int} {M M' g : jMm} (S : pdC d M g) (hk : g 114 1 ≤ 3) (hn : g 114 5 ≤ 14) (h : ∀ a b, (∀ s, 0 ≤ s → s < 3 → a ≠ d + 21 + 2 * s) → M' a b = M a b) : pdC d M' g := by
  obtain ⟨⟨d1, d2, d3, d4, d5, d6, d7, d8, d9, d10⟩, sf, sp⟩ := S
  have e : ∀ a b, (a < d + 21 ∨ ∃ s, 0 ≤ s ∧ a = d + 20 + 2 * s) → M' a b = M a b := fun a b hab => h a b (fun s s0 s1 => by
    rcases hab with q | ⟨s', q0, q⟩ <;> omega)
  refine ⟨⟨?_, ?_, ?_, ?_, ?_, ?_, ?_, fun j j1 j2 => ?_, ?_, ?_⟩, fun s s0 s1 => ?_, fun p p0 p1 => ?_⟩
  · rw [e _ _ (.inl (by omega))]; exact d1
  · rw [e _ _ (.inl (by omega))]; exact d2
  · rw [e _ _ (.inl (by omega))]; exact d3
  · rw [e _ _ (.inl (by omega))]; exact d4
  · rw [e _ _ (.inl (by omega))]; exact d5
  · rw [e _ _ (.inl (by omega))]; exact d6
  · rw [e _ _ (.inl (by omega))]; exact d7
  · rw [e _ _ (.inl (by omega))]; exact d8 j j1 j2
  · rw [e _ _ (.inl (by omega))]; exact d9
  · rw [e _ _ (.inl (by omega))]; exact d10
  · have := sf s s0 s1
    unfold pdF at this ⊢
    rw [e _ _ (.inr ⟨s, s0, rfl⟩), e _ _ (.inr ⟨s, s0, rfl⟩), e _ _ (.inr ⟨s, s0, rfl⟩), e _ _ (.inr ⟨s, s0, rfl⟩), e _ _ (.inr ⟨s, s0, rfl⟩)]
    exact this
  · have := sp p p0 p1
    unfold pdP at this ⊢
    have e' : ∀ b, M' (d + 6 + p) b = M (d + 6 + p) b := fun b => e _ _ (.inl (by omega))
    simp only [e']
    exact this
theorem pd_bound {d : Int} {M g : jMm} {T B : Int} (S : pdS d M g) (ok : gOK T B g) {s : Int} (s0 : 0 ≤ s) (s1 : s < g 114 1) : M (d + 20 + 2 * s) 1 = g 116 (3 * s) ∧ 3 ≤ g 116 (3 * s) ∧ g 116 (3 * s) ≤ 10 := by
  have v := ok.1.2.2.1 s s0 s1
  exact ⟨(S.1.2.1 s s0 s1).1, v.1, v.2.1⟩
/-- who is on a place -/
theorem pd_spot {d : Int} {M g : jMm} {s x y : Int} (X : pdX d M g s) (x0 : 0 ≤ x) (x1 : x < g 116 (3 * s)) (y0 : 0 ≤ y) (y1 : y ≤ 1) : M (d + 21 + 2 * s) (2 * x + y) = -1 ∧ (∀ p, 0 ≤ p → p < g 114 5 → ¬ gAt g p s x y) ∨ (0 ≤ M (d + 21 + 2 * s) (2 * x + y) ∧ M (d + 21 + 2 * s) (2 * x + y) < g 114 5 ∧ gAt g (M (d + 21 + 2 * s) (2 * x + y)) s x y ∧ ∀ p, 0 ≤ p → p < g 114 5 → gAt g p s x y → p = M (d + 21 + 2 * s) (2 * x + y)) := by
  obtain ⟨h1, h2⟩ := X x y x0 x1 y0 y1
  generalize M (d + 21 + 2 * s) (2 * x + y) = v at *
  by_cases c : v = -1
  · refine .inl ⟨c, fun p p0 p1 hat => ?_⟩
    have := (h2 p p0).mpr ⟨p1, hat⟩
    omega
  · have v0 : 0 ≤ v := by omega
    have := (h2 v v0).mp rfl
    exact .inr ⟨v0, this.1, this.2, fun p p0 p1 hat => ((h2 p p0).mpr ⟨p1, hat⟩).symm⟩
theorem pd_gostep {d s t : Int} {M g : jMm} {Q : jMm → Prop} (hd : isDay d) (S : pdS d M g) {B : Int} (ok : gOK (t + 1) B g) (s0 : 0 ≤ s) (s1 : s < g 114 1) (hg : gGoes g s) (hj : ¬ gJam g s)
    (hq : ∀ M', pdS d M' (gMove t s g) → pdFr d M M' → Q M') : f_X0_land [d, d + 20 + 2 * s, 0, t] M (fun _ M1 => f_X0_land [d, d + 20 + 2 * s, 1, t] M1 (fun _ M2 => f_X1_goOneStep [d + 20 + 2 * s] M2 (fun _ M3 => Q M3))) := by
  have v := ok.1
  have hk := v.1.2.1
  have hn0 := v.1.2.2.1
  have hn := v.1.2.2.2.1
  have s3 : s < 3 := by omega
  obtain ⟨bl, l3, l10⟩ := pd_bound S ok s0 s1
  have X := S.2 s s0 s1
  obtain ⟨f1, f2, f3, f4, f5⟩ := S.1.2.1 s s0 s1
  have gs := ok.2.2.1 s s0 s3
  have hway : g 134 s = 1 ∨ g 134 s = 2 := by unfold gSt at gs; omega
  have efl : gFl g s = if M (d + 20 + 2 * s) 2 = 2 then 0 else 1 := by
    unfold gFl; rw [f2]; rcases hway with q | q <;> rw [q] <;> decide
  have ffl : gFl g s = 0 ∨ gFl g s = 1 := by unfold gFl; split <;> omega
  have crowd : ∀ f, f = 0 ∨ f = 1 → M (d + 5) f = gThere g f := fun f hf => by
    rcases hf with q | q <;> rw [q]
    · exact S.1.1.2.2.2.2.2.2.2.2.1
    · exact S.1.1.2.2.2.2.2.2.2.2.2
  have there : ∀ (h : jMm) f, h 114 5 = g 114 5 → 0 ≤ gThere h f ∧ gThere h f ≤ 14 := fun h f e => by
    have en : ((gN h : Nat) : Int) = h 114 5 := gN_eq (by omega)
    have a : 0 ≤ gThere h f := sm_nonneg _ (fun p _ _ => by split <;> omega)
    have b : gThere h f ≤ 1 * (gN h : Nat) := sm_le 1 _ (fun p _ _ => by split <;> omega)
    omega
  generalize hf : gFl g s = f at *
  generalize hlen : g 116 (3 * s) = len at *
  have Pr := pd_spot X (x := len - 1) (y := 0) (by omega) (by omega) (by decide) (by decide)
  have Pl := pd_spot X (x := len - 1) (y := 1) (by omega) (by omega) (by decide) (by decide)
  generalize hr : M (d + 21 + 2 * s) (2 * (len - 1) + 0) = r at *
  generalize hl : M (d + 21 + 2 * s) (2 * (len - 1) + 1) = l at *
  have rr14 : r < 14 := by rcases Pr with ⟨q, -⟩ | ⟨-, q, -⟩ <;> omega
  have ll14 : l < 14 := by rcases Pl with ⟨q, -⟩ | ⟨-, q, -⟩ <;> omega
  have hset : ∀ b, 0 ≤ b → b < g 114 5 → ((gOn g b s ∧ g 126 b = len - 1) ↔ (b = r ∨ b = l)) := fun b b0 b1 => by
    constructor
    · rintro ⟨on, st⟩
      have gp := (ok.2.1 b b0 b1).2.2.2.2.1 on.1
      by_cases y : g 127 b = 0
      · left
        rcases Pr with ⟨-, q⟩ | ⟨-, -, -, q⟩
        · exact absurd ⟨on, st, .inl y⟩ (q b b0 b1)
        · exact q b b0 b1 ⟨on, st, .inl y⟩
      · right
        have y1 : g 127 b = 1 := by omega
        rcases Pl with ⟨-, q⟩ | ⟨-, -, -, q⟩
        · exact absurd ⟨on, st, .inl y1⟩ (q b b0 b1)
        · exact q b b0 b1 ⟨on, st, .inl y1⟩
    · rintro (q | q)
      · rcases Pr with ⟨z, -⟩ | ⟨-, -, z, -⟩
        · omega
        · rw [q]; exact ⟨z.1, z.2.1⟩
      · rcases Pl with ⟨z, -⟩ | ⟨-, -, z, -⟩
        · omega
        · rw [q]; exact ⟨z.1, z.2.1⟩
  have wl : ∀ (M : jMm) (g' : jMm) (q : Int), pdC d M g' → g' 114 1 = g 114 1 → g' 114 5 = g 114 5 → 0 ≤ q → q < g 114 5 → -1000 ≤ M (d + 20 + 2 * s) 5 - M (d + 6 + q) 3 ∧ M (d + 20 + 2 * s) 5 - M (d + 6 + q) 3 ≤ 1000 := fun M g' q C e1 e5 q0 q1 => by
    have a := (C.2.1 s s0 (by rw [e1]; exact s1)).2.2.2.2
    have b := (C.2.2 q q0 (by rw [e5]; exact q1)).2.2.2.1
    have w := weight_le (g := g') (s := s) (by omega) (by omega)
    have z := wt_le (g' 124 q)
    rw [a, b]; omega
  have ph2 : ∀ (M g' : jMm) (q : Int), pdC d M g' → g' 114 5 = g 114 5 → 0 ≤ q → q < g 114 5 → M (d + 6 + q) 4 = ph (g' 123 q) := fun M g' q C e5 q0 q1 => (C.2.2 q q0 (by rw [e5]; exact q1)).2.2.2.2.1
  -- the right one
  have fin : ∀ (M2 g2 : jMm), pdC d M2 g2 → (∀ a b, a ≠ 126 → gMove t s g a b = g2 a b) → pdFr d M M2 → (∀ s' b, 0 ≤ s' → s' < 3 → M2 (d + 21 + 2 * s') b = M (d + 21 + 2 * s') b) → M2 (d + 20 + 2 * s) 1 = len → f_X1_goOneStep [d + 20 + 2 * s] M2 (fun _ M3 => Q M3) := fun M2 g2 C2 hg2 F2 X2 el => by
    refine pd_goOneStep hd s0 s3 (by omega) (by omega) (fun M3 h3 h30 h31 h3b => ?_)
    rw [el] at h3b
    have C3 : pdC d M2 (gMove t s g) := pdC_126 C2 hg2
    have em1 : gMove t s g 114 1 = g 114 1 := same_move.1 1 (by decide)
    have em5 : gMove t s g 114 5 = g 114 5 := same_move.1 5 (by decide)
    refine hq M3 ⟨pdC_mem C3 (by rw [em1]; exact hk) (by rw [em5]; exact hn) (fun a b ha => h3 a b (ha s s0 s3)), fun s' s0' s1' => ?_⟩ ?_
    · rw [em1] at s1'
      by_cases c : s' = s
      · subst c
        intro x y x0 x1 y0 y1
        rw [(same_move.2 _).2.1, hlen] at x1
        rw [em5]
        have key : ∀ p, 0 ≤ p → p < g 114 5 → (gAt (gMove t s' g) p s' x y ↔ gAt g p s' (x - 1) y) := fun p p0 p1 => by
          by_cases on : gOn g p s'
          · have gp := (ok.2.1 p p0 p1).2.2.2.2.1 on.1
            by_cases la : g 126 p = len - 1
            · have e : gMove t s' g 123 p = 3 := by simp [gMove, p0, p1, on, la, hlen]
              constructor
              · intro z; rw [gAt, e] at z; exact absurd z.1.1 (by decide)
              · intro z; have := z.2.1; omega
            · have e3 : gMove t s' g 123 p = g 123 p := by simp [gMove, la, hlen]
              have e5 : gMove t s' g 125 p = g 125 p := by simp [gMove]
              have e6 : gMove t s' g 126 p = g 126 p + 1 := by simp [gMove, p0, p1, on, la, hlen]
              have e7 : gMove t s' g 127 p = g 127 p := by simp [gMove]
              have e4 : gMove t s' g 124 p = g 124 p := by simp [gMove]
              unfold gAt
              rw [e3, e4, e5, e6, e7]
              constructor
              · rintro ⟨z1, z2, z3⟩; exact ⟨z1, by omega, z3⟩
              · rintro ⟨z1, z2, z3⟩; exact ⟨z1, by omega, z3⟩
          · have on' : ¬ (g 123 p = 2 ∧ g 125 p = s') := on
            have e : ∀ a, gMove t s' g a p = g a p := fun a => by simp [gMove, on']
            unfold gAt
            rw [e, e]
            exact ⟨fun z => absurd z.1 on, fun z => absurd z.1 on⟩
        by_cases cx : x = 0
        · subst cx
          have e : M3 (d + 21 + 2 * s') (2 * 0 + y) = -1 := by
            by_cases cy : y = 0
            · subst cy; exact h30
            · have : y = 1 := by omega
              subst this; exact h31
          rw [e]
          refine ⟨by decide, fun p p0 => ⟨fun q => by omega, fun q => ?_⟩⟩
          have z := (key p p0 q.1).mp q.2
          have gp := (ok.2.1 p p0 q.1).2.2.2.2.1 z.1.1
          have := z.2.1
          omega
        · have e : M3 (d + 21 + 2 * s') (2 * x + y) = M (d + 21 + 2 * s') (2 * (x - 1) + y) := by
            rw [h3b _ (by omega) (by omega), X2 s' _ s0 s3]
            have : 2 * x + y - 2 = 2 * (x - 1) + y := by omega
            rw [this]
          rw [e]
          obtain ⟨w1, w2⟩ := X (x - 1) y (by omega) (by omega) y0 y1
          refine ⟨w1, fun p p0 => ?_⟩
          rw [w2 p p0]
          exact ⟨fun q => ⟨q.1, (key p p0 q.1).mpr q.2⟩, fun q => ⟨q.1, (key p p0 q.1).mp q.2⟩⟩
      · refine pdX_fr (S.2 s' s0' s1') (fun b => ?_) same_move (fun p x y p0 p1 => ?_)
        · rw [h3 _ _ (by omega), X2 s' b s0' (by omega)]
        · by_cases on : gOn g p s
          · constructor
            · rintro ⟨⟨z1, z2⟩, -⟩
              have e5 : gMove t s g 125 p = g 125 p := by simp [gMove]
              rw [e5, on.2] at z2
              exact absurd z2.symm c
            · rintro ⟨⟨z1, z2⟩, -⟩
              rw [on.2] at z2
              exact absurd z2.symm c
          · have on' : ¬ (g 123 p = 2 ∧ g 125 p = s) := on
            have e : ∀ a, gMove t s g a p = g a p := fun a => by simp [gMove, on']
            unfold gAt
            rw [e, e, e, e, e]
    · refine pdFr_tr F2 ⟨fun a b hab => h3 a b (by omega), fun b _ => h3 _ _ (by omega), fun b => h3 _ _ (by omega)⟩
  have mvg : ∀ (g2 : jMm), (∀ a b, a ≠ 126 → (b = r ∨ b = l) → 0 ≤ b → g2 a b = if a = 123 then 3 else if a = 128 then f else if a = 129 then t else g a b) → (∀ a b, (b < 0 ∨ (b ≠ r ∧ b ≠ l)) → g2 a b = g a b) → ∀ a b, a ≠ 126 → gMove t s g a b = g2 a b := fun g2 h1 h2 a b ha => by
    by_cases c : 0 ≤ b ∧ b < g 114 5
    · by_cases c2 : b = r ∨ b = l
      · have := (hset b c.1 c.2).mpr c2
        rw [h1 a b ha c2 c.1]
        unfold gMove
        rw [if_pos ⟨c.1, c.2, this.1⟩, hlen, if_pos this.2, hf]
      · have z : ¬ (gOn g b s ∧ g 126 b = len - 1) := fun z => c2 ((hset b c.1 c.2).mp z)
        rw [h2 a b (.inr (by omega))]
        unfold gMove
        by_cases on : gOn g b s
        · rw [if_pos ⟨c.1, c.2, on⟩, hlen, if_neg (fun q => z ⟨on, q⟩), if_neg ha]
        · rw [if_neg (fun q => on q.2.2)]
    · have e : gMove t s g a b = g a b := by unfold gMove; rw [if_neg (fun q => c ⟨q.1, q.2.1⟩)]
      have nb : b < 0 ∨ (b ≠ r ∧ b ≠ l) := by
        by_cases b0 : b < 0
        · exact .inl b0
        · right
          rcases Pr with ⟨q1, -⟩ | ⟨-, q1, -⟩ <;> rcases Pl with ⟨q2, -⟩ | ⟨-, q2, -⟩ <;> omega
      rw [e, h2 a b nb]
  have C := S.1
  have tb := there g f rfl
  have lenM : M (d + 20 + 2 * s) 1 = len := bl
  have hr2 : ∀ M1 : jMm, M1 (d + 20 + 2 * s) 1 = len → (∀ b, M1 (d + 21 + 2 * s) b = M (d + 21 + 2 * s) b) → M1 (d + 21 + 2 * s) (2 * (M1 (d + 20 + 2 * s) 1 - 1) + 1) = l := fun M1 e1 e2 => by rw [e1, e2, hl]
  refine pd_land hd s0 s3 (by omega) (by omega) (by decide) (by decide) (r := r) (f := f) (by rw [lenM, hr]) rr14 efl (by rw [crowd f ffl]; omega) (fun r0 => wl M g r C rfl rfl r0 (by rcases Pr with ⟨q, -⟩ | ⟨-, q, -⟩ <;> omega)) (fun c => ?_) (fun c1 c2 => ?_)
  · have rneg : r < 0 := by
      rcases Pr with ⟨q, -⟩ | ⟨q0, q1, q2, -⟩
      · omega
      · rcases c with c | c
        · exact c
        · have := ph2 M g r C rfl q0 q1
          rw [q2.1.1] at this
          exact absurd this c
    refine pd_land hd s0 s3 (by omega) (by omega) (by decide) (by decide) (r := l) (f := f) (by rw [lenM, hl]) ll14 efl (by rw [crowd f ffl]; omega) (fun r0 => wl M g l C rfl rfl r0 (by rcases Pl with ⟨q, -⟩ | ⟨-, q, -⟩ <;> omega)) (fun c' => ?_) (fun c1' c2' => ?_)
    · have lneg : l < 0 := by
        rcases Pl with ⟨q, -⟩ | ⟨q0, q1, q2, -⟩
        · omega
        · rcases c' with c | c
          · exact c
          · have := ph2 M g l C rfl q0 q1
            rw [q2.1.1] at this
            exact absurd this c
      exact fin M g C (mvg g (fun a b ha hb b0 => by omega) (fun a b _ => rfl)) pdFr_rfl (fun _ _ _ _ => rfl) lenM
    · rcases Pl with ⟨q, -⟩ | ⟨q0, q1, q2, -⟩
      · omega
      have C2 := pdC_land (t := t) C s0 s1 hk q0 q1 hn q2.1 ffl
      refine fin (mLd d s t f l M) (gLd t f l g) C2 (mvg _ (fun a b ha hb b0 => ?_) (fun a b hb => ?_)) ?_ (fun s' b s0' s1' => ?_) ?_
      · have : b = l := by omega
        subst this
        simp [gLd]
      · unfold gLd; rw [if_neg (by omega)]
      · unfold mLd
        refine pdFr_wr (pdFr_wr (pdFr_wr (pdFr_wr (pdFr_wr pdFr_rfl ?_) ?_) ?_) ?_) ?_ <;> unfold pdCell <;> omega
      · unfold mLd; rw [jw0 (by omega), jw0 (by omega), jw0 (by omega), jw0 (by omega), jw0 (by omega)]
      · unfold mLd; rw [jw0 (by omega), jw0 (by omega), jw0 (by omega), jw0 (by omega), jw0 (by omega)]; exact lenM
  · rcases Pr with ⟨q, -⟩ | ⟨q0, q1, q2, -⟩
    · omega
    have C1 := pdC_land (t := t) C s0 s1 hk q0 q1 hn q2.1 ffl
    have F1 : pdFr d M (mLd d s t f r M) := by
      unfold mLd
      refine pdFr_wr (pdFr_wr (pdFr_wr (pdFr_wr (pdFr_wr pdFr_rfl ?_) ?_) ?_) ?_) ?_ <;> unfold pdCell <;> omega
    have X1 : ∀ s' b, 0 ≤ s' → s' < 3 → (mLd d s t f r M) (d + 21 + 2 * s') b = M (d + 21 + 2 * s') b := fun s' b s0' s1' => by unfold mLd; rw [jw0 (by omega), jw0 (by omega), jw0 (by omega), jw0 (by omega), jw0 (by omega)]
    have len1 : (mLd d s t f r M) (d + 20 + 2 * s) 1 = len := by unfold mLd; rw [jw0 (by omega), jw0 (by omega), jw0 (by omega), jw0 (by omega), jw0 (by omega)]; exact lenM
    have way1 : (mLd d s t f r M) (d + 20 + 2 * s) 2 = M (d + 20 + 2 * s) 2 := by unfold mLd; rw [jw0 (by omega), jw0 (by omega), jw0 (by omega), jw0 (by omega), jw0 (by omega)]
    have e1 : gLd t f r g 114 1 = g 114 1 := by simp [gLd]
    have e5 : gLd t f r g 114 5 = g 114 5 := by simp [gLd]
    have crowd1 : (mLd d s t f r M) (d + 5) f = gThere (gLd t f r g) f := by
      rcases ffl with q | q
      · have := C1.1.2.2.2.2.2.2.2.2.1
        rw [q] at this ⊢; exact this
      · have := C1.1.2.2.2.2.2.2.2.2.2
        rw [q] at this ⊢; exact this
    have tb1 := there (gLd t f r g) f e5
    generalize mLd d s t f r M = M1 at *
    refine pd_land hd s0 s3 (by omega) (by omega) (by decide) (by decide) (r := l) (f := f) (hr2 M1 len1 (fun b => X1 s b s0 s3)) ll14 (by rw [way1]; exact efl) (by rw [crowd1]; omega) (fun l0 => wl M1 _ l C1 e1 e5 l0 (by rcases Pl with ⟨q, -⟩ | ⟨-, q, -⟩ <;> omega)) (fun c' => ?_) (fun c1' c2' => ?_)
    · have lr : l < 0 ∨ l = r := by
        rcases Pl with ⟨q, -⟩ | ⟨z0, z1, z2, -⟩
        · omega
        · rcases c' with c | c
          · exact .inl c
          · by_cases e : l = r
            · exact .inr e
            · have := ph2 M1 _ l C1 e5 z0 z1
              have e' : gLd t f r g 123 l = g 123 l := by simp [gLd, e]
              rw [e', z2.1.1] at this
              exact absurd this c
      refine fin M1 (gLd t f r g) C1 (mvg _ (fun a b ha hb b0 => ?_) (fun a b hb => ?_)) F1 X1 len1
      · have : b = r := by omega
        subst this
        simp [gLd]
      · unfold gLd; rw [if_neg (by omega)]
    · rcases Pl with ⟨q, -⟩ | ⟨z0, z1, z2, -⟩
      · omega
      have lr : l ≠ r := fun e => by
        have := ph2 M1 _ l C1 e5 z0 z1
        have e' : gLd t f r g 123 l = 3 := by simp [gLd, e]
        rw [e', c2'] at this
        exact absurd this (by decide)
      have on1 : gOn (gLd t f r g) l s := by
        unfold gOn
        have a1 : gLd t f r g 123 l = g 123 l := by simp [gLd, lr]
        have a2 : gLd t f r g 125 l = g 125 l := by simp [gLd]
        rw [a1, a2]; exact z2.1
      have C2 := pdC_land (t := t) C1 s0 (by rw [e1]; exact s1) (by rw [e1]; exact hk) z0 (by rw [e5]; exact z1) (by rw [e5]; exact hn) on1 ffl
      refine fin (mLd d s t f l M1) (gLd t f l (gLd t f r g)) C2 (mvg _ (fun a b ha hb b0 => ?_) (fun a b hb => ?_)) (pdFr_tr F1 ?_) (fun s' b s0' s1' => ?_) ?_
      · by_cases c : b = l
        · subst c
          by_cases w1 : a = 123
          · simp [gLd, w1]
          · by_cases w2 : a = 128
            · simp [gLd, w2]
            · by_cases w3 : a = 129
              · simp [gLd, w3]
              · simp [gLd, w1, w2, w3]
        · have : b = r := by omega
          subst this
          have c' : ¬ b = l := c
          simp [gLd, c']
      · unfold gLd; rw [if_neg (by omega), if_neg (by omega)]
      · unfold mLd
        refine pdFr_wr (pdFr_wr (pdFr_wr (pdFr_wr (pdFr_wr pdFr_rfl ?_) ?_) ?_) ?_) ?_ <;> unfold pdCell <;> omega
      · unfold mLd; rw [jw0 (by omega), jw0 (by omega), jw0 (by omega), jw0 (by omega), jw0 (by omega)]; exact X1 s' b s0' s1'
      · unfold mLd; rw [jw0 (by omega), jw0 (by omega), jw0 (by omega), jw0 (by omega), jw0 (by omega)]; exact len1
