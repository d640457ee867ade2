theorem gN_lt {g : jMm} {p : Int} (h : p < (gN g : Nat)) : 0 ≤ p → p < g 114 5 := fun h0 => by
  have h : p < ((g 114 5).toNat : Nat) := h
  omega
theorem gPer_st {t p : Int} {g : jMm} (h : gPer t g p) : g 123 p = 0 ∨ g 123 p = 1 ∨ g 123 p = 2 ∨ g 123 p = 3 ∨ g 123 p = 4 := by
  obtain ⟨⟨h0, h1, -⟩, -⟩ := h
  omega
theorem ok_arr {t B : Int} {g : jMm} (h : gOK t B g) (h0 : 0 ≤ t) : gOK (t + 1) B (gArr t g) := by
  obtain ⟨hv, hp, hs, hf, hb⟩ := h
  refine ⟨gSame_V same_arr hv, fun p p0 p1 => ?_, fun s s0 s1 => ?_, ?_, ?_⟩
  · have p1 : p < g 114 5 := by simpa [gArr] using p1
    have := hp p p0 p1
    have v := hv.2.1 p p0 p1
    by_cases c : g 117 (3 * p) = t ∧ ¬ p = g 114 17
    · have e : g 123 p = 0 := this.2.1.mpr (.inl (by omega))
      simp [gPer, gArr, p0, p1, c.1, c.2, e] at this ⊢
      omega
    · have c' : ¬ (0 ≤ p ∧ p < g 114 5 ∧ g 117 (3 * p) = t ∧ ¬ p = g 114 17) := fun q => c q.2.2
      rcases gPer_st this with e | e | e | e | e <;> simp [gPer, gArr, c', e] at this ⊢ <;> omega
  · have := hs s s0 s1
    simp [gSt, gArr] at this ⊢
    exact this
  · have key : ∀ f, gThere (gArr t g) f = gThere g f := fun f => by
      unfold gThere
      have e : gN (gArr t g) = gN g := by simp [gN, gArr]
      rw [e]
      refine sm_congr _ (fun p p0 p1 => ?_)
      have p1 := gN_lt p1 p0
      have := hp p p0 p1
      by_cases c : g 117 (3 * p) = t ∧ ¬ p = g 114 17
      · have e3 : g 123 p = 0 := this.2.1.mpr (.inl (by omega))
        simp [gArr, p0, p1, c.1, c.2, e3]
      · have c' : ¬ (0 ≤ p ∧ p < g 114 5 ∧ g 117 (3 * p) = t ∧ ¬ p = g 114 17) := fun q => c q.2.2
        simp [gArr, c']
    rw [key, key]; simpa [gArr] using hf
  · simpa [gArr] using hb
theorem ok_chg {t T B s : Int} {w : Int → Int} {g : jMm} (h : gOK T B g) (s0 : 0 ≤ s) (s1 : s < g 114 1) (w0 : 0 ≤ w s) (w2 : w s ≤ 2) (t0 : 0 ≤ t) (t1 : t ≤ 99) : gOK T B (gChg t w s g) := by
  obtain ⟨hv, hp, hs, hf, hb⟩ := h
  refine ⟨gSame_V same_chg hv, fun p p0 p1 => ?_, fun s' s0' s1' => ?_, ?_, ?_⟩
  · have p1 : p < g 114 5 := by simpa [gChg] using p1
    have := hp p p0 p1
    by_cases c : gOn g p s
    · obtain ⟨c1, c2⟩ := c
      have v := hv.2.2.1 s s0 s1
      by_cases e : g 134 s = w s
      · simp [gPer, gChg, c1, c2, e, p0, p1] at this ⊢
        omega
      · by_cases z : w s = 0
        · rw [z] at e
          simp [gPer, gChg, c1, c2, e, z, p0, p1] at this ⊢
          omega
        · simp [gPer, gChg, c1, c2, e, z, p0, p1] at this ⊢
          omega
    · have c' : ¬ (g 123 p = 2 ∧ g 125 p = s) := c
      rcases gPer_st this with e | e | e | e | e
      · simp [gPer, gChg, e] at this ⊢; omega
      · simp [gPer, gChg, e] at this ⊢; omega
      · have c2 : ¬ g 125 p = s := fun q => c ⟨e, q⟩
        have e2 : gChg t w s g 134 (g 125 p) = g 134 (g 125 p) := by simp [gChg, c2]
        simp only [gPer] at this ⊢
        rw [show gChg t w s g 125 p = g 125 p by simp [gChg, c2], e2]
        simp [gChg, e, c2] at this ⊢
        omega
      · simp [gPer, gChg, e] at this ⊢; omega
      · simp [gPer, gChg, e] at this ⊢; omega
  · have := hs s' s0' s1'
    by_cases e : s' = s
    · subst e
      simp [gSt, gChg] at this ⊢
      exact ⟨w0, w2, this.2.2⟩
    · simp [gSt, gChg, e] at this ⊢
      exact this
  · have key : ∀ f, gThere (gChg t w s g) f = gThere g f := fun f => by
      unfold gThere
      have e : gN (gChg t w s g) = gN g := by simp [gN, gChg]
      rw [e]
      refine sm_congr _ (fun p p0 p1 => ?_)
      by_cases c : gOn g p s
      · obtain ⟨c1, c2⟩ := c
        by_cases e : g 134 s = w s <;> by_cases z : w s = 0 <;> simp [gChg, c1, c2, e, z] <;> (split <;> simp)
      · have c' : ¬ (g 123 p = 2 ∧ g 125 p = s) := c
        simp [gChg, c']
    rw [key, key]; simpa [gChg] using hf
  · simpa [gChg] using hb
theorem there_move {t s f : Int} {g : jMm} : gThere (gMove t s g) f = gThere g f + (if f = gFl g s then gMany g s else 0) := by
  have e : gN (gMove t s g) = gN g := by simp [gN, gMove]
  have e2 : (if f = gFl g s then gMany g s else 0) = sm (fun p => if f = gFl g s ∧ gOn g p s ∧ g 126 p = g 116 (3 * s) - 1 then 1 else 0) (gN g) := by
    split
    · rename_i c
      unfold gMany
      refine sm_congr _ (fun p _ _ => ?_)
      simp only [c, true_and]
    · rename_i c
      exact (sm_zero _ (fun p _ _ => by simp [c])).symm
  rw [e2]
  unfold gThere
  rw [e, ← sm_add]
  refine sm_congr _ (fun p p0 p1 => ?_)
  have p1 := gN_lt p1 p0
  by_cases c1 : g 123 p = 2 <;> by_cases c2 : g 125 p = s <;> by_cases c3 : g 126 p = g 116 (3 * s) - 1 <;> by_cases c4 : f = gFl g s <;> simp [gMove, gOn, p0, p1, c1, c2, c3, c4] <;> (try (intro q; exact absurd q.symm c4)) <;> (try (intro q; exact absurd q c4))
theorem ok_move {t B s : Int} {g : jMm} (h : gOK (t + 1) B g) (s0 : 0 ≤ s) (s1 : s < g 114 1) (t0 : 0 ≤ t) (t1 : t ≤ 99) (hj : ¬ gJam g s) : gOK (t + 1) B (gMove t s g) := by
  obtain ⟨hv, hp, hs, hf, hb⟩ := h
  refine ⟨gSame_V same_move hv, fun p p0 p1 => ?_, fun s' s0' s1' => ?_, ?_, ?_⟩
  · have p1 : p < g 114 5 := by simpa [gMove] using p1
    have := hp p p0 p1
    by_cases c : gOn g p s
    · obtain ⟨c1, c2⟩ := c
      have v := hv.2.2.1 s s0 s1
      have hfl : 0 ≤ gFl g s ∧ gFl g s ≤ 1 := by unfold gFl; split <;> omega
      have e5 : gMove t s g 125 p = s := by simp [gMove, c2]
      by_cases e : g 126 p = g 116 (3 * s) - 1
      · simp [gPer, gMove, c1, c2, e, p0, p1, -Int.sub_nonneg] at this ⊢
        generalize gFl g s = F at *
        omega
      · simp [gPer, gMove, c1, c2, e, p0, p1] at this ⊢
        omega
    · have c' : ¬ (g 123 p = 2 ∧ g 125 p = s) := c
      rcases gPer_st this with e | e | e | e | e
      · simp [gPer, gMove, e] at this ⊢; omega
      · simp [gPer, gMove, e] at this ⊢; omega
      · have c2 : ¬ g 125 p = s := fun q => c ⟨e, q⟩
        have e5 : gMove t s g 125 p = g 125 p := by simp [gMove]
        simp only [gPer] at this ⊢
        rw [e5, show gMove t s g 134 (g 125 p) = g 134 (g 125 p) by simp [gMove]]
        simp [gMove, e, c2] at this ⊢
        omega
      · simp [gPer, gMove, e] at this ⊢; omega
      · simp [gPer, gMove, e] at this ⊢; omega
  · have := hs s' s0' s1'
    simp [gSt, gMove] at this ⊢
    exact this
  · rw [there_move, there_move]
    have e : gMove t s g 115 1 = g 115 1 := by simp [gMove]
    rw [e]
    unfold gJam at hj
    have hfl : gFl g s = 0 ∨ gFl g s = 1 := by unfold gFl; split <;> omega
    rcases hfl with q | q <;> rw [q] at hj ⊢ <;> simp <;> omega
  · simpa [gMove] using hb
theorem gThere_jam {g : jMm} {k j v f : Int} (h : k < 123 ∨ 128 < k) (h2 : ¬ (k = 114 ∧ j = 5)) : gThere (jwr g k j v) f = gThere g f := by
  unfold gThere
  have e : gN (jwr g k j v) = gN g := by
    have : ¬ ((114 : Int) = k ∧ (5 : Int) = j) := fun q => h2 ⟨q.1.symm, q.2.symm⟩
    simp only [gN, jwr, if_neg this]
  rw [e]
  refine sm_congr _ (fun p _ _ => ?_)
  have e1 : ¬ (123 = k ∧ p = j) := by omega
  have e2 : ¬ (128 = k ∧ p = j) := by omega
  simp only [jwr, if_neg e1, if_neg e2]
theorem ok_jam {T B : Int} {g : jMm} (h : gOK T B g) : gOK T (B + 1) (jwr g 114 32 (g 114 32 + 1)) := by
  obtain ⟨hv, hp, hs, hf, hb⟩ := h
  refine ⟨gSame_V (same_wr (.inr ⟨rfl, by decide⟩)) hv, fun p p0 p1 => ?_, fun s' s0' s1' => ?_, ?_, ?_⟩
  · have := hp p p0 (by simpa [jwr] using p1)
    simpa [gPer, jwr] using this
  · have := hs s' s0' s1'
    simpa [gSt, jwr] using this
  · rw [gThere_jam (.inl (by decide)) (by decide), gThere_jam (.inl (by decide)) (by decide)]
    simpa [jwr] using hf
  · simp [jwr]; omega
