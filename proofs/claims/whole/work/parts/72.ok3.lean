theorem who_casesN (g : jMm) (s x y : Int) : ∀ m : Nat, (gWhoN g s x y m = -4 ∧ ∀ p : Int, 0 ≤ p → p < m → ¬ gAt g p s x y) ∨ (0 ≤ gWhoN g s x y m ∧ gWhoN g s x y m < m ∧ gAt g (gWhoN g s x y m) s x y ∧ ∀ p : Int, gWhoN g s x y m < p → p < m → ¬ gAt g p s x y)
  | 0 => .inl ⟨rfl, fun p h0 h1 => by omega⟩
  | m + 1 => by
    show (((if gAt g m s x y then (m : Int) else gWhoN g s x y m) = -4 ∧ _) ∨ _)
    by_cases c : gAt g m s x y
    · have e : gWhoN g s x y (m + 1) = m := by show (if gAt g m s x y then (m : Int) else gWhoN g s x y m) = m; rw [if_pos c]
      rw [e]
      exact .inr ⟨by omega, by omega, c, fun p h0 h1 => by omega⟩
    · have e : gWhoN g s x y (m + 1) = gWhoN g s x y m := by show (if gAt g m s x y then (m : Int) else gWhoN g s x y m) = _; rw [if_neg c]
      rw [e, if_neg c]
      rcases who_casesN g s x y m with ⟨a1, a2⟩ | ⟨a1, a2, a3, a4⟩
      · refine .inl ⟨a1, fun p h0 h1 => ?_⟩
        by_cases q : p = m
        · rw [q]; exact c
        · exact a2 p h0 (by omega)
      · refine .inr ⟨a1, by omega, a3, fun p h0 h1 => ?_⟩
        by_cases q : p = m
        · rw [q]; exact c
        · exact a4 p h0 (by omega)
theorem who_cases {g : jMm} {s x y : Int} (hn : 0 ≤ g 114 5) : (gWho g s x y = -4 ∧ ∀ p : Int, 0 ≤ p → p < g 114 5 → ¬ gAt g p s x y) ∨ (0 ≤ gWho g s x y ∧ gWho g s x y < g 114 5 ∧ gAt g (gWho g s x y) s x y) := by
  have e := gN_eq hn
  rcases who_casesN g s x y (gN g) with ⟨a1, a2⟩ | ⟨a1, a2, a3, -⟩
  · exact .inl ⟨a1, fun p h0 h1 => a2 p h0 (by omega)⟩
  · exact .inr ⟨a1, by show gWhoN g s x y (gN g) < _; omega, a3⟩
theorem gThere_wr {g : jMm} {k j v f : Int} (hk : 123 ≤ k) (h : k = 123 ∨ k = 128 → g 123 j ≠ 3 ∧ (k = 123 → v ≠ 3)) : gThere (jwr g k j v) f = gThere g f := by
  unfold gThere
  have e : gN (jwr g k j v) = gN g := by
    have : ¬ ((114 : Int) = k ∧ (5 : Int) = j) := by omega
    simp only [gN, jwr, if_neg this]
  rw [e]
  refine sm_congr _ (fun p _ _ => ?_)
  by_cases c : p = j
  · subst c
    by_cases k1 : k = 123
    · subst k1
      have := h (.inl rfl)
      simp [jwr, this.1, this.2 rfl]
    · by_cases k2 : k = 128
      · subst k2
        have := h (.inr rfl)
        simp [jwr, this.1]
      · have e1 : ¬ (123 = k) := fun q => k1 q.symm
        have e2 : ¬ (128 = k) := fun q => k2 q.symm
        simp [jwr, e1, e2]
  · simp [jwr, c]
theorem ok_walk {T B s x : Int} {g : jMm} (h : gOK T B g) (s0 : 0 ≤ s) (s1 : s < g 114 1) (x1 : x + 1 < g 116 (3 * s)) : gOK T B (gWalk s x g) := by
  have h' := h
  obtain ⟨hv, hp, hs, hf, hb⟩ := h
  unfold gWalk
  split
  · rename_i c
    obtain ⟨⟨c1, c2, c3⟩, c4⟩ := c
    rcases who_cases (g := g) (s := s) (x := x) (y := 1) hv.1.2.2.1 with ⟨a1, -⟩ | ⟨a1, a2, ⟨a3, a4⟩, a5, a6⟩
    · omega
    · generalize gWho g s x 1 = q at *
      refine ⟨gSame_V (same_wr (.inl (by decide))) hv, fun p p0 p1 => ?_, fun s' s0' s1' => ?_, ?_, ?_⟩
      · have p1 : p < g 114 5 := by simpa [jwr] using p1
        have := hp p p0 p1
        by_cases e : p = q
        · subst e
          simp [gPer, jwr, a3, a4, a5] at this ⊢
          omega
        · simpa [gPer, jwr, e] using this
      · have := hs s' s0' s1'
        simpa [gSt, jwr] using this
      · rw [gThere_wr (by decide) (fun q => absurd q (by decide)), gThere_wr (by decide) (fun q => absurd q (by decide))]
        simpa [jwr] using hf
      · simpa [jwr] using hb
  · exact h'
theorem lvp_cases {g : jMm} {f : Int} (hn : 0 ≤ g 114 5) : gLvP f g = -4 ∨ (0 ≤ gLvP f g ∧ gLvP f g < g 114 5 ∧ g 123 (gLvP f g) = 3 ∧ g 128 (gLvP f g) = f) := by
  have e := gN_eq hn
  rcases isFst_gFst (fun p => decide (g 123 p = 3 ∧ g 128 p = f)) (fun p => g 129 p) (gN g) with ⟨a1, -⟩ | ⟨a1, a2, a3, -⟩
  · exact .inl a1
  · simp only [decide_eq_true_eq] at a3
    exact .inr ⟨a1, by show gFst _ _ _ < _; omega, a3⟩
theorem there_lv {g : jMm} {q v t f : Int} (h0 : 0 ≤ q) (h1 : q < g 114 5) (h2 : g 123 q = 3) (hv : v ≠ 3) : gThere (jwr (jwr g 123 q v) 132 q t) f = gThere g f - (if g 128 q = f then 1 else 0) := by
  have e1 : gThere (jwr (jwr g 123 q v) 132 q t) f = gThere (jwr g 123 q v) f := gThere_wr (by decide) (fun q => absurd q (by decide))
  rw [e1]
  unfold gThere
  have e : gN (jwr g 123 q v) = gN g := by simp [gN, jwr]
  rw [e]
  have en : ((gN g : Nat) : Int) = g 114 5 := gN_eq (by omega)
  rw [sm_upd (f := fun p => if g 123 p = 3 ∧ g 128 p = f then 1 else 0) (q := q) (gN g) h0 (by omega) (fun p _ _ hp => by simp [jwr, hp])]
  simp [jwr, h2, hv]
theorem ok_lv {T B t f : Int} {g : jMm} (h : gOK T B g) (t0 : 0 ≤ t) (t1 : t ≤ 99) : gOK T B (gLv t f g) := by
  have h' := h
  obtain ⟨hv, hp, hs, hf, hb⟩ := h
  unfold gLv
  split
  · rename_i c
    rcases lvp_cases (g := g) (f := f) hv.1.2.2.1 with a1 | ⟨a1, a2, a3, a4⟩
    · omega
    · generalize gLvP f g = q at *
      refine ⟨gSame_V (gSame_tr (same_wr (.inl (by decide))) (same_wr (.inl (by decide)))) hv, fun p p0 p1 => ?_, fun s' s0' s1' => ?_, ?_, ?_⟩
      · have p1 : p < g 114 5 := by simpa [jwr] using p1
        have := hp p p0 p1
        by_cases e : p = q
        · subst e
          simp [gPer, jwr, a3] at this ⊢
          omega
        · simpa [gPer, jwr, e] using this
      · have := hs s' s0' s1'
        simpa [gSt, jwr] using this
      · rw [there_lv a1 a2 a3 (by decide), there_lv a1 a2 a3 (by decide)]
        simp [jwr]
        split <;> split <;> omega
      · simpa [jwr] using hb
  · exact h'
theorem ok_put {t B s y q : Int} {g : jMm} (h : gOK (t + 1) B g) (s0 : 0 ≤ s) (s1 : s < g 114 1) (t0 : 0 ≤ t) (t1 : t ≤ 99) (y0 : 0 ≤ y) (y1 : y ≤ 1) (q0 : 0 ≤ q) (q1 : q < g 114 5) (hq : g 123 q = 1) (hk : g 124 q = 2 → y = 0) (hg : g 134 s ≠ 0) : gOK (t + 1) B (gPut t s y q g) := by
  obtain ⟨hv, hp, hs, hf, hb⟩ := h
  refine ⟨gSame_V same_put hv, fun p p0 p1 => ?_, fun s' s0' s1' => ?_, ?_, ?_⟩
  · have p1 : p < g 114 5 := by simpa [gPut] using p1
    have := hp p p0 p1
    have v := hv.2.1 p p0 p1
    by_cases e : p = q
    · subst e
      have u := hv.2.2.1 s s0 s1
      simp [gPer, gPut, hq] at this ⊢
      omega
    · simpa [gPer, gPut, e] using this
  · have := hs s' s0' s1'
    simpa [gSt, gPut] using this
  · have key : ∀ f, gThere (gPut t s y q g) f = gThere g f := fun f => by
      unfold gThere
      have e : gN (gPut t s y q g) = gN g := by simp [gN, gPut]
      rw [e]
      refine sm_congr _ (fun p p0 p1 => ?_)
      by_cases c : p = q
      · subst c; simp [gPut, hq]
      · simp [gPut, c]
    rw [key, key]; simpa [gPut] using hf
  · simpa [gPut] using hb
theorem bdp_cases {g : jMm} {s y : Int} (hn : 0 ≤ g 114 5) : gBdP s y g = -4 ∨ (0 ≤ gBdP s y g ∧ gBdP s y g < g 114 5 ∧ g 123 (gBdP s y g) = 1 ∧ g 117 (3 * gBdP s y g + 1) = 1 - gFl g s ∧ gMay g (gBdP s y g) s y = true) := by
  have e := gN_eq hn
  rcases isFst_gFst (fun p => decide (g 123 p = 1 ∧ g 117 (3 * p + 1) = 1 - gFl g s) && gMay g p s y) (fun p => g 117 (3 * p)) (gN g) with ⟨a1, -⟩ | ⟨a1, a2, a3, -⟩
  · exact .inl a1
  · simp only [Bool.and_eq_true, decide_eq_true_eq] at a3
    exact .inr ⟨a1, by show gFst _ _ _ < _; omega, a3.1.1, a3.1.2, a3.2⟩
theorem ok_bd {t B s y : Int} {g : jMm} (h : gOK (t + 1) B g) (s0 : 0 ≤ s) (s1 : s < g 114 1) (t0 : 0 ≤ t) (t1 : t ≤ 99) (y0 : 0 ≤ y) (y1 : y ≤ 1) (hg : g 134 s ≠ 0) : gOK (t + 1) B (gBd t s y g) := by
  unfold gBd
  split
  · rename_i c
    rcases bdp_cases (g := g) (s := s) (y := y) h.1.1.2.2.1 with a1 | ⟨a1, a2, a3, a4, a5⟩
    · omega
    · refine ok_put h s0 s1 t0 t1 y0 y1 a1 a2 a3 (fun k => ?_) hg
      simp only [gMay, decide_eq_true_eq] at a5
      rcases a5.2.1 with z | z
      · exact absurd k z
      · exact z.1
  · exact h
theorem weight_le {g : jMm} {s : Int} (hn : 0 ≤ g 114 5) (hn2 : g 114 5 ≤ 14) : 0 ≤ gWeight g s ∧ gWeight g s ≤ 56 := by
  have e := gN_eq hn
  have a : 0 ≤ gWeight g s := sm_nonneg _ (fun p _ _ => by have := wt_le (g 124 p); split <;> omega)
  have b : gWeight g s ≤ 4 * (gN g : Nat) := sm_le 4 _ (fun p _ _ => by have := wt_le (g 124 p); split <;> omega)
  omega
theorem en_le {g : jMm} {s : Int} (v : gV g) : 0 ≤ gEn s g ∧ gEn s g ≤ 100 := by
  have w := weight_le (g := g) (s := s) v.1.2.2.1 v.1.2.2.2.1
  obtain ⟨-, -, -, w1, w2, w3, w4, w5, w6, w7, w8, w9, w10, w11, w12⟩ := v
  unfold gEn
  have h : 0 ≤ gWeight g s * g 115 6 / 10 := Int.ediv_nonneg (Int.mul_nonneg w.1 w11) (by decide)
  split
  · split
    · omega
    · split <;> omega
  · omega
theorem ok_load {T B s : Int} {g : jMm} (h : gOK T B g) (s0 : 0 ≤ s) (s1 : s < g 114 1) : gOK T (B + 1) (gLoad s g) := by
  obtain ⟨hv, hp, hs, hf, hb⟩ := h
  have he := en_le (s := s) hv
  have hs4 := hv.2.2.2
  have hk3 : g 114 1 ≤ 3 := hv.1.2.1
  refine ⟨gSame_V same_load hv, fun p p0 p1 => ?_, fun s' s0' s1' => ?_, ?_, ?_⟩
  · have p1 : p < g 114 5 := by simpa [gLoad] using p1
    have := hp p p0 p1
    have e5 : gLoad s g 125 p = g 125 p := by simp [gLoad]
    by_cases c : gTr s g
    · by_cases d : g 122 s = 2 ∧ gOn g p s ∧ g 124 p = 1
      · obtain ⟨d1, ⟨d2, d3⟩, d4⟩ := d
        simp [gPer, gLoad, c, d1, d2, d3, d4, p0, p1] at this ⊢
        omega
      · have d' : ¬ (g 122 s = 2 ∧ 0 ≤ p ∧ p < g 114 5 ∧ (g 123 p = 2 ∧ g 125 p = s) ∧ g 124 p = 1) := fun q => d ⟨q.1, q.2.2.2.1, q.2.2.2.2⟩
        simpa [gPer, gLoad, c, d'] using this
    · simpa [gPer, gLoad, c] using this
  · have := hs s' s0' s1'
    by_cases e : s' = s
    · subst e
      by_cases c : gTr s' g
      · simp [gSt, gLoad, c] at this ⊢
        omega
      · by_cases d : g 135 s' > 0
        · simp [gSt, gLoad, c, d] at this ⊢
          omega
        · have : g 135 s' = 0 := by unfold gSt at this; omega
          have this2 := hs s' s0' s1'
          simp [gSt, gLoad, c, this] at this2 ⊢
          omega
    · simpa [gSt, gLoad, e] using this
  · have key : ∀ f, gThere (gLoad s g) f = gThere g f := fun f => by
      unfold gThere
      have e : gN (gLoad s g) = gN g := by simp [gN, gLoad]
      rw [e]
      refine sm_congr _ (fun p p0 p1 => ?_)
      simp [gLoad]
    rw [key, key]; simpa [gLoad] using hf
  · by_cases c : gTr s g <;> simp [gLoad, c] <;> omega
