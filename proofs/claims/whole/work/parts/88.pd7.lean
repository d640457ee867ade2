/-! the program: who may step on, the first in the line -/
theorem grN_iff {g : jMm} {s : Int} : ∀ m : Nat, gGrN g s m = true ↔ ∃ p : Int, 0 ≤ p ∧ p < m ∧ gOn g p s ∧ g 126 p < 2 ∧ g 124 p ≠ 3
  | 0 => ⟨fun h => (by cases h), fun ⟨p, h0, h1, _⟩ => by omega⟩
  | m + 1 => by
    show (gGrN g s m || decide (gOn g m s ∧ g 126 m < 2 ∧ g 124 m ≠ 3)) = true ↔ _
    rw [Bool.or_eq_true, grN_iff m, decide_eq_true_eq]
    constructor
    · rintro (⟨p, h0, h1, h2⟩ | h)
      · exact ⟨p, h0, by omega, h2⟩
      · exact ⟨m, by omega, by omega, h⟩
    · rintro ⟨p, h0, h1, h2⟩
      by_cases e : p = m
      · right; rw [← e]; exact h2
      · left; exact ⟨p, h0, by omega, h2⟩
theorem who_spot {d : Int} {M g : jMm} {s x y : Int} (X : pdX d M g s) (hn0 : 0 ≤ g 114 5) (x0 : 0 ≤ x) (x1 : x < g 116 (3 * s)) (y0 : 0 ≤ y) (y1 : y ≤ 1) : (M (d + 21 + 2 * s) (2 * x + y) = -1 ∧ gWho g s x y = -4) ∨ (0 ≤ M (d + 21 + 2 * s) (2 * x + y) ∧ gWho g s x y = M (d + 21 + 2 * s) (2 * x + y)) := by
  rcases pd_spot X x0 x1 y0 y1 with ⟨a1, a2⟩ | ⟨a1, a2, a3, a4⟩ <;> rcases who_cases (g := g) (s := s) (x := x) (y := y) hn0 with ⟨b1, b2⟩ | ⟨b1, b2, b3⟩
  · exact .inl ⟨a1, b1⟩
  · exact absurd b3 (a2 _ b1 b2)
  · exact absurd a3 (b2 _ a1 a2)
  · exact .inr ⟨a1, a4 _ b1 b2 b3⟩
def gMayK (g : jMm) (k s y : Int) : Prop := (g 114 16 = 0 ∨ y = (if k = 1 then 1 else 0)) ∧ (k ≠ 2 ∨ (y = 0 ∧ gWho g s 0 1 < 0)) ∧ (k ≠ 4 ∨ g 122 s = 1) ∧ (k ≠ 3 ∨ gGrN g s (gN g) = true)
theorem mayK {g : jMm} {p s y : Int} : gMay g p s y = true ↔ gMayK g (g 124 p) s y := by
  unfold gMay gMayK
  rw [decide_eq_true_eq]
theorem pd_may {d k s y : Int} {M g : jMm} {Q : Int → jMm → Prop} (hd : isDay d) (S : pdS d M g) {T B : Int} (ok : gOK T B g) (s0 : 0 ≤ s) (s1 : s < g 114 1) (y01 : y = 0 ∨ y = 1) (h1 : gMayK g k s y → Q 1 M) (h0 : ¬ gMayK g k s y → Q 0 M) : f_X0_mayBoard [d, k, d + 20 + 2 * s, y] M Q := by
  unfold f_X0_mayBoard
  have hk := ok.1.1.2.1
  have hn0 := ok.1.1.2.2.1
  have hn := ok.1.1.2.2.2.1
  have hr := ok.1.1.2.2.2.2
  have s3 : s < 3 := by omega
  have en := gN_eq hn0
  obtain ⟨bl, l3, l10⟩ := pd_bound S ok s0 s1
  have X := S.2 s s0 s1
  have f3 := (S.1.2.1 s s0 s1).2.2.1
  have e0 : M (d + 3) 0 = g 114 16 := S.1.1.2.2.2.2.2.2.1
  have w01 := who_spot X hn0 (x := 0) (y := 1) (by decide) (by omega) (by decide) (by decide)
  have i3 : (0 : Int) ≤ 1 ∧ (1 : Int) < 20 := by decide
  have i0 : (0 : Int) ≤ 0 ∧ (0 : Int) < 7 := by decide
  refine mt_ (sq_ (if_pc (k = 2) (fun T F => by simp [kR, xV, xC, jIn]) (fun c2 => ?_) (fun c2 => ?_)))
  · have pp : (y = 0 ∧ gWho g s 0 1 < 0) ↔ gMayK g k s y := by
      unfold gMayK
      have z1 : ¬ k = 1 := by omega
      have z4 : k ≠ 4 := by omega
      have z3 : k ≠ 3 := by omega
      rw [if_neg z1]
      constructor
      · intro z; exact ⟨.inr z.1, .inr z, .inl z4, .inl z3⟩
      · intro z; exact z.2.1.resolve_left (fun q => q c2)
    refine ret_tern (y = 0 ∧ M (d + 21 + 2 * s) (2 * 0 + 1) < 0) (fun T F => propext ?_) ?_
    · by_cases a : y = 0 <;> by_cases b : M (d + 21 + 2 * s) (2 * 0 + 1) < 0
      · have b' : M (d + 21 + 2 * s) 1 < 0 := b
        simp [-Int.not_lt, kAnd, kZ, kR, xV, xC, xAl, xGr, jIn, dfp hd s0 s3, dfl hd s0 s3, a, b, b']
      · have b' : ¬ M (d + 21 + 2 * s) 1 < 0 := b
        simp [-Int.not_lt, kAnd, kZ, kR, xV, xC, xAl, xGr, jIn, dfp hd s0 s3, dfl hd s0 s3, a, b, b']
      · simp [-Int.not_lt, kAnd, kZ, kR, xV, xC, xAl, xGr, jIn, a]
      · simp [-Int.not_lt, kAnd, kZ, kR, xV, xC, xAl, xGr, jIn, a]
    · by_cases a : y = 0 ∧ M (d + 21 + 2 * s) (2 * 0 + 1) < 0
      · rw [if_pos a]; exact h1 (pp.mp ⟨a.1, by have := a.2; omega⟩)
      · rw [if_neg a]; exact h0 (fun z => a ⟨(pp.mpr z).1, by have := (pp.mpr z).2; omega⟩)
  show tSeq _ _ (jIn [0, 1, 2, 3] [d, k, d + 20 + 2 * s, y]) M _ _
  refine sq_ (if_pc (g 114 16 = 1 ∧ y ≠ (if k = 1 then 1 else 0)) (fun T F => propext ?_) (fun c => ?_) (fun c => ?_))
  · by_cases a : g 114 16 = 1 <;> by_cases b : k = 1 <;> rcases y01 with y01 | y01 <;> simp [kAnd, kR, xTern, xV, xC, xAl, xGr, jIn, drf2 hd, dln3 hd, e0, a, b, y01]
  · exact ⟨.inl rfl, h0 (fun z => by have := z.1; omega)⟩
  have cR : g 114 16 = 0 ∨ y = (if k = 1 then 1 else 0) := by
    rcases hr with q | q
    · exact .inl q
    · right; exact Classical.not_not.mp (fun z => c ⟨q, z⟩)
  show tSeq _ _ (jIn [0, 1, 2, 3] [d, k, d + 20 + 2 * s, y]) M _ _
  refine sq_ (if_pc (k = 4) (fun T F => by simp [kR, xV, xC, jIn]) (fun c4 => ?_) (fun c4 => ?_))
  · have pp : g 122 s = 1 ↔ gMayK g k s y := by
      unfold gMayK
      have z3 : k ≠ 3 := by omega
      constructor
      · intro z; exact ⟨cR, .inl c2, .inr z, .inl z3⟩
      · intro z; exact z.2.2.1.resolve_left (fun q => q c4)
    refine ret_tern (g 122 s = 1) (fun T F => by simp [kR, xV, xC, xGf, jIn, f3]) ?_
    by_cases a : g 122 s = 1
    · rw [if_pos a]; exact h1 (pp.mp a)
    · rw [if_neg a]; exact h0 (fun z => a (pp.mpr z))
  show tSeq _ _ (jIn [0, 1, 2, 3] [d, k, d + 20 + 2 * s, y]) M _ _
  refine sq_ (set_tern (k ≠ 3) (fun T F => by simp [kR, xV, xC, jIn]) (sq_ (sq_ (st_c ?_))))
  have spv : ∀ q, 0 ≤ q → q < 4 → 0 ≤ M (d + 21 + 2 * s) q → M (d + 21 + 2 * s) q < g 114 5 ∧ gOn g (M (d + 21 + 2 * s) q) s ∧ g 126 (M (d + 21 + 2 * s) q) < 2 := fun q q0 q4 hq => by
    have e : 2 * (q / 2) + q % 2 = q := by omega
    rcases pd_spot X (x := q / 2) (y := q % 2) (by omega) (by omega) (by omega) (by omega) with ⟨z, -⟩ | ⟨z1, z2, z3, -⟩
    · rw [e] at z; omega
    · rw [e] at z2 z3; exact ⟨z2, z3.1, by have := z3.2.1; omega⟩
  have grown : gGrN g s (gN g) = true ↔ ∃ q, 0 ≤ q ∧ q < 4 ∧ 0 ≤ M (d + 21 + 2 * s) q ∧ g 124 (M (d + 21 + 2 * s) q) ≠ 3 := by
    rw [grN_iff]
    constructor
    · rintro ⟨p, p0, p1, on, st, kd⟩
      have p1' : p < g 114 5 := by omega
      have gp := (ok.2.1 p p0 p1').2.2.2.2.1 on.1
      rw [on.2] at gp
      have z := pd_spot X (x := g 126 p) (y := g 127 p) gp.2.2.1 gp.2.2.2.1 gp.2.2.2.2.1 gp.2.2.2.2.2.1
      have at' : gAt g p s (g 126 p) (g 127 p) := ⟨on, rfl, .inl rfl⟩
      rcases z with ⟨-, z⟩ | ⟨z1, -, -, z⟩
      · exact absurd at' (z p p0 p1')
      · have e := z p p0 p1' at'
        exact ⟨2 * g 126 p + g 127 p, by omega, by omega, z1, by rw [← e]; exact kd⟩
    · rintro ⟨q, q0, q4, h, kd⟩
      have z := spv q q0 q4 h
      exact ⟨_, h, by omega, z.2.1, z.2.2, kd⟩
  have fin : ∀ L : jLo, (L 4 = 0 ∨ L 4 = 1) → (L 4 = 1 ↔ (k ≠ 3 ∨ gGrN g s (gN g) = true)) → tRetZ (xV 4) L M (fun _ _ => False) Q := fun L hL hE => by
    refine ⟨hL, ?_⟩
    have pp : L 4 = 1 ↔ gMayK g k s y := by
      rw [hE]; unfold gMayK
      exact ⟨fun z => ⟨cR, .inl c2, .inl c4, z⟩, fun z => z.2.2.2⟩
    rcases hL with z | z
    · rw [z]; exact h0 (fun q => by have := pp.mpr q; omega)
    · rw [z]; exact h1 (pp.mp z)
  have cnd : ∀ (L : jLo) (T F : jMm → Prop), (L 5 < 4 → L 4 = 0 → T M) → ((¬ L 5 < 4 ∨ L 4 ≠ 0) → F M) → (kAnd (kR (fun x y => x < y) (xV 5) (xC 4)) (kNot (kZ (fun x y => x ≠ y) (xV 4)))) L M T F := fun L T F a b => ⟨fun c => ⟨fun n => b (.inr n), fun n => a c (Classical.not_not.mp n)⟩, fun n => b (.inl n)⟩
  by_cases k3 : k = 3
  · refine wh_rule (fun m L M1 => M1 = M ∧ L 0 = d ∧ L 2 = d + 20 + 2 * s ∧ 0 ≤ L 5 ∧ L 5 ≤ 4 ∧ m = (4 - L 5).toNat ∧ (L 4 = 0 ∨ L 4 = 1) ∧ (L 4 = 1 ↔ ∃ q, 0 ≤ q ∧ q < L 5 ∧ 0 ≤ M (d + 21 + 2 * s) q ∧ g 124 (M (d + 21 + 2 * s) q) ≠ 3)) ?_ (k := 4) ⟨rfl, rfl, rfl, by show (0 : Int) ≤ 0; decide, by show (0 : Int) ≤ 4; decide, by rfl, .inl (by show (if k ≠ 3 then (1 : Int) else 0) = 0; rw [if_neg (by omega)]), ?_⟩
    · rintro m L M1 ⟨rfl, l0, l2, l50, l54, hm, l4, hE⟩ N' hN'
      refine cnd L _ _ (fun c5 c4' => ?_) (fun c5 => ?_)
      · have hq20 : 0 ≤ L 5 ∧ L 5 < 20 := by omega
        refine sq_ (sq_ (st_v (v := M1 (d + 21 + 2 * s) (L 5)) (fun Q => ?_) ?_))
        · simp only [xAl, xGr, xV, l2, dfp hd s0 s3, dfl hd s0 s3, hq20, true_and]
        have nE : ¬ ∃ q, 0 ≤ q ∧ q < L 5 ∧ 0 ≤ M1 (d + 21 + 2 * s) q ∧ g 124 (M1 (d + 21 + 2 * s) q) ≠ 3 := fun z => by have := hE.mpr z; omega
        have i5 : ir (L 5 + 1) := ⟨by omega, by omega⟩
        have kd : 0 ≤ M1 (d + 21 + 2 * s) (L 5) → M1 (d + 6 + M1 (d + 21 + 2 * s) (L 5)) 2 = g 124 (M1 (d + 21 + 2 * s) (L 5)) := fun z => (S.1.2.2 _ z (spv _ l50 c5 z).1).2.2.1
        have sp14 : 0 ≤ M1 (d + 21 + 2 * s) (L 5) → M1 (d + 21 + 2 * s) (L 5) < 14 := fun z => by have := (spv _ l50 c5 z).1; omega
        refine set_tern (0 ≤ M1 (d + 21 + 2 * s) (L 5) ∧ g 124 (M1 (d + 21 + 2 * s) (L 5)) ≠ 3) (fun T F => propext ?_) ⟨i5, hN' _ _ _ ?_ ⟨rfl, l0, l2, ?_, ?_, rfl, ?_, ?_⟩⟩
        · by_cases a : 0 ≤ M1 (d + 21 + 2 * s) (L 5)
          · have z := sp14 a
            simp [kAnd, kZ, kR, xV, xC, xGf, xAr, xGr, jup, l0, drf0 hd, dln1 hd, drr hd a z, kd a, a, z]
          · simp [kAnd, kZ, xV, jup, a]
        · show ((4 : Int) - (L 5 + 1)).toNat < m
          omega
        · show 0 ≤ L 5 + 1
          omega
        · show L 5 + 1 ≤ 4
          omega
        · show (if _ then (1 : Int) else 0) = 0 ∨ (if _ then (1 : Int) else 0) = 1
          split
          · exact .inr rfl
          · exact .inl rfl
        · show ((if 0 ≤ M1 (d + 21 + 2 * s) (L 5) ∧ g 124 (M1 (d + 21 + 2 * s) (L 5)) ≠ 3 then (1 : Int) else 0) = 1 ↔ ∃ q, 0 ≤ q ∧ q < L 5 + 1 ∧ _)
          constructor
          · intro z
            split at z
            · rename_i w
              exact ⟨L 5, l50, by omega, w.1, w.2⟩
            · exact absurd z (by decide)
          · rintro ⟨q, q0, q1, q2, q3⟩
            by_cases e : q = L 5
            · subst e; rw [if_pos ⟨q2, q3⟩]
            · exact absurd ⟨q, q0, by omega, q2, q3⟩ nE
      · refine fin L l4 ?_
        rw [hE, grown]
        constructor
        · rintro ⟨q, q0, q1, q2⟩
          exact .inr ⟨q, q0, by omega, q2⟩
        · rintro (z | ⟨q, q0, q1, q2⟩)
          · exact absurd k3 z
          · by_cases q5 : q < L 5
            · exact ⟨q, q0, q5, q2⟩
            · have : L 4 ≠ 0 := by
                rcases c5 with z | z
                · omega
                · exact z
              exact hE.mp (by omega)
    · constructor
      · intro z
        have : (if k ≠ 3 then (1 : Int) else 0) = 1 := z
        rw [if_neg (by omega)] at this
        exact absurd this (by decide)
      · rintro ⟨q, q0, q1, -⟩
        have q1 : q < 0 := q1
        omega
  · refine wh_out (fun T => cnd _ _ _ (fun _ z => ?_) (fun _ => fin _ (.inr ?_) ?_))
    · have z : (if k ≠ 3 then (1 : Int) else 0) = 0 := z
      rw [if_pos k3] at z
      exact absurd z (by decide)
    · show (if k ≠ 3 then (1 : Int) else 0) = 1
      rw [if_pos k3]
    · exact ⟨fun _ => .inl k3, fun _ => by show (if k ≠ 3 then (1 : Int) else 0) = 1; rw [if_pos k3]⟩
/-- the line of those who come -/
def pdL (d : Int) (M g : jMm) (t : Int) : Prop := (0 ≤ M d 8 ∧ M d 8 ≤ M d 7 ∧ M d 7 ≤ 14) ∧ (∀ i, 0 ≤ i → i < M d 7 → 0 ≤ M (d + 4) i ∧ M (d + 4) i < g 114 5 ∧ M (d + 4) i ≠ g 114 17) ∧ (∀ p, 0 ≤ p → p < g 114 5 → p ≠ g 114 17 → ∃ i, 0 ≤ i ∧ i < M d 7 ∧ M (d + 4) i = p) ∧ (∀ i j, 0 ≤ i → i < j → j < M d 7 → g 117 (3 * M (d + 4) i) < g 117 (3 * M (d + 4) j) ∨ (g 117 (3 * M (d + 4) i) = g 117 (3 * M (d + 4) j) ∧ M (d + 4) i < M (d + 4) j)) ∧ (∀ i, 0 ≤ i → i < M d 7 → (i < M d 8 ↔ g 117 (3 * M (d + 4) i) < t))
theorem pdL_fr {d t : Int} {M M' g g' : jMm} (h : pdL d M g t) (F : pdFr d M M') (sm : gSame g g') : pdL d M' g' t := by
  have e7 : M' d 7 = M d 7 := F.2.1 7 (by omega)
  have e8 : M' d 8 = M d 8 := F.2.1 8 (by omega)
  have e4 : ∀ b, M' (d + 4) b = M (d + 4) b := F.2.2
  have e17 : g' 114 17 = g 114 17 := sm.1 17 (by decide)
  have e5 : g' 114 5 = g 114 5 := sm.1 5 (by decide)
  have et : ∀ b, g' 117 b = g 117 b := fun b => (sm.2 b).2.2.1
  unfold pdL at h ⊢
  simp only [e7, e8, e4, e17, e5, et]
  exact h
