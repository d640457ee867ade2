/-! sums of waits -/
def gCon (t : Int) (g : jMm) (p : Int) : Int := if g 123 p = 1 then t - g 117 (3 * p) else g 133 p
def gKeep (t : Int) (g g' : jMm) : Prop := gSame g g' ∧ ∀ p, 0 ≤ p → p < g 114 5 → gCon t g' p = gCon t g p
theorem keep_rfl {t : Int} {g : jMm} : gKeep t g g := ⟨gSame_rfl, fun _ _ _ => rfl⟩
theorem keep_tr {t : Int} {g h k : jMm} (a : gKeep t g h) (b : gKeep t h k) : gKeep t g k := ⟨gSame_tr a.1 b.1, fun p p0 p1 => (b.2 p p0 (by rw [a.1.1 5 (by decide)]; exact p1)).trans (a.2 p p0 p1)⟩
theorem keep_of {t : Int} {g g' : jMm} (sm : gSame g g') (h : ∀ p, 0 ≤ p → p < g 114 5 → (g' 123 p = 1 ↔ g 123 p = 1) ∧ g' 133 p = g 133 p) : gKeep t g g' := ⟨sm, fun p p0 p1 => by
  obtain ⟨h1, h2⟩ := h p p0 p1
  unfold gCon
  rw [h2, (sm.2 _).2.2.1]
  by_cases c : g 123 p = 1
  · rw [if_pos c, if_pos (h1.mpr c)]
  · rw [if_neg c, if_neg (fun z => c (h1.mp z))]⟩
theorem keep_sum {t : Int} {g g' : jMm} (k : gKeep t g g') : gSum t g' = gSum t g := by
  have e : gN g' = gN g := by show (_ : Int).toNat = _; rw [k.1.1 5 (by decide)]
  unfold gSum
  rw [e]
  exact sm_congr _ (fun p p0 p1 => k.2 p p0 (gN_lt p1 p0))
theorem keep_arr {t B : Int} {g : jMm} (ok : gOK t B g) : gKeep t g (gArr t g) := ⟨same_arr, fun p p0 p1 => by
  have gp := ok.2.1 p p0 p1
  unfold gCon
  have e33 : gArr t g 133 p = g 133 p := by simp [gArr]
  have e17 : gArr t g 117 (3 * p) = g 117 (3 * p) := by simp [gArr]
  rw [e33, e17]
  by_cases c : g 117 (3 * p) = t ∧ p ≠ g 114 17
  · have z : g 123 p = 0 := gp.2.1.mpr (.inl (by omega))
    have e : gArr t g 123 p = 1 := by unfold gArr; rw [if_pos ⟨rfl, p0, p1, c⟩]
    have := (gp.2.2.1 (by omega)).2.2
    rw [e, if_pos rfl, z, if_neg (by decide), this, c.1]; omega
  · have e : gArr t g 123 p = g 123 p := by unfold gArr; rw [if_neg (fun z => c z.2.2.2)]
    rw [e]⟩
theorem keep_chg {t t' s : Int} {w : Int → Int} {g : jMm} : gKeep t g (gChg t' w s g) := keep_of same_chg (fun p p0 p1 => by
  refine ⟨?_, chg_eq (by decide) (by decide) (by decide) (by decide)⟩
  by_cases on : gOn g p s
  · have : gChg t' w s g 123 p = 4 ∨ gChg t' w s g 123 p = g 123 p := by
      unfold gChg
      rw [if_neg (by omega)]
      split
      · split
        · exact .inl rfl
        · right; rfl
      · exact .inr rfl
    have := on.1
    omega
  · rw [chg_at on (by decide)])
theorem keep_move {t t' s : Int} {g : jMm} : gKeep t g (gMove t' s g) := keep_of same_move (fun p p0 p1 => by
  refine ⟨?_, by simp [gMove]⟩
  by_cases on : gOn g p s
  · by_cases c : g 126 p = g 116 (3 * s) - 1
    · have e : gMove t' s g 123 p = 3 := by simp [gMove, p0, p1, on, c]
      have := on.1
      omega
    · have e : gMove t' s g 123 p = g 123 p := by simp [gMove, c]
      rw [e]
  · have on' : ¬ (g 123 p = 2 ∧ g 125 p = s) := on
    have e : gMove t' s g 123 p = g 123 p := by simp [gMove, on']
    rw [e])
theorem keep_wr {t k j v : Int} {g : jMm} (h1 : 123 ≤ k ∨ (k = 114 ∧ 17 < j)) (h2 : k ≠ 123) (h3 : k ≠ 133) : gKeep t g (jwr g k j v) := keep_of (same_wr h1) (fun p _ _ => by rw [jw0 (by omega), jw0 (by omega)]; exact ⟨Iff.rfl, rfl⟩)
theorem keep_go {t t' s : Int} : ∀ (m : Nat) {g : jMm}, gKeep t g (gGo t' s m g)
  | 0, _ => keep_rfl
  | m + 1, g => by
    show gKeep t g (if gJam g s then jwr g 114 32 (g 114 32 + 1) else gGo t' s m (gMove t' s g))
    split
    · exact keep_wr (.inr ⟨rfl, by decide⟩) (by decide) (by decide)
    · exact keep_tr keep_move (keep_go m)
theorem keep_walks {t s : Int} : ∀ (m : Nat) {g : jMm}, gKeep t g (gWalks s m g)
  | 0, _ => keep_rfl
  | m + 1, g => by
    refine keep_tr (h := gWalk s m g) ?_ (keep_walks m)
    unfold gWalk
    split
    · exact keep_wr (.inl (by decide)) (by decide) (by decide)
    · exact keep_rfl
theorem keep_stair {t t' s : Int} {g : jMm} : gKeep t g (gStair t' s g) := by
  unfold gStair
  split
  · exact keep_tr (keep_go _) (keep_walks _)
  · exact keep_rfl
theorem keep_lv {t t' f : Int} {g : jMm} (hn : 0 ≤ g 114 5) : gKeep t g (gLv t' f g) := by
  unfold gLv
  split
  · rename_i c
    rcases lvp_cases (f := f) hn with z | ⟨z1, z2, z3, z4⟩
    · omega
    · refine keep_of (gSame_tr (same_wr (.inl (by decide))) (same_wr (.inl (by decide)))) (fun p _ _ => ?_)
      refine ⟨?_, by rw [jw0 (by omega), jw0 (by omega)]⟩
      rw [jw0 (by omega)]
      by_cases e : p = gLvP f g
      · rw [e, jw1 ⟨rfl, rfl⟩]; omega
      · rw [jw0 (.inr e)]
  · exact keep_rfl
theorem keep_lvs {t t' f : Int} : ∀ (m : Nat) {g : jMm}, 0 ≤ g 114 5 → gKeep t g (gLvs t' f m g)
  | 0, _, _ => keep_rfl
  | m + 1, g, hn => keep_tr (keep_lv hn) (keep_lvs m (by rw [same_lv.1 5 (by decide)]; exact hn))
theorem keep_leave {t t' : Int} {g : jMm} (hn : 0 ≤ g 114 5) : gKeep t g (gLeave t' g) := keep_tr (keep_lvs _ hn) (keep_lvs _ (by rw [(same_lvs _).1 5 (by decide)]; exact hn))
theorem keep_bd {t s y : Int} {g : jMm} (hn : 0 ≤ g 114 5) : gKeep t g (gBd t s y g) := by
  unfold gBd
  split
  · rename_i c
    rcases bdp_cases (s := s) (y := y) hn with z | ⟨z1, z2, z3, -⟩
    · omega
    · refine ⟨same_put, fun p _ _ => ?_⟩
      unfold gCon
      rw [(same_put.2 _).2.2.1]
      by_cases e : p = gBdP s y g
      · have e1 : gPut t s y (gBdP s y g) g 123 p = 2 := by simp [gPut, e]
        have e2 : gPut t s y (gBdP s y g) g 133 p = t - g 117 (3 * p) := by simp [gPut, e]
        rw [e1, e2, if_neg (by decide), if_pos (by rw [e]; exact z3)]
      · have e1 : ∀ a, gPut t s y (gBdP s y g) g a p = g a p := fun a => by simp [gPut, e]
        rw [e1, e1]
  · exact keep_rfl
theorem keep_board {t s : Int} {g : jMm} (hn : 0 ≤ g 114 5) : gKeep t g (gBoard t s g) := by
  unfold gBoard
  split
  · exact keep_tr (keep_bd hn) (keep_bd (by rw [same_bd.1 5 (by decide)]; exact hn))
  · exact keep_rfl
theorem keep_load {t s : Int} {g : jMm} : gKeep t g (gLoad s g) := keep_of same_load (fun p _ _ => by
  rw [load_fr (by decide) (by decide) (by decide) (by decide), load_fr (by decide) (by decide) (by decide) (by decide)]
  exact ⟨Iff.rfl, rfl⟩)
theorem keep_all {t : Int} {f : Int → jMm → jMm} (h : ∀ s g, 0 ≤ g 114 5 → gKeep t g (f s g)) : ∀ (m : Nat) {g : jMm}, 0 ≤ g 114 5 → gKeep t g (gAll f m g)
  | 0, _, _ => keep_rfl
  | m + 1, g, hn => keep_tr (keep_all h m hn) (h m _ (by rw [(keep_all (t := t) h m hn).1.1 5 (by decide)]; exact hn))
theorem keep_tick {c t B : Int} {w : Int → Int} {g : jMm} (ok : gOK t B g) : gKeep t g (gTick c w t g) := by
  have hn := ok.1.1.2.2.1
  have k1 := keep_arr ok
  have h1 : 0 ≤ gArr t g 114 5 := by rw [k1.1.1 5 (by decide)]; exact hn
  have k2 : gKeep t (gArr t g) (gChgs c w t (gArr t g)) := by
    unfold gChgs
    split
    · exact keep_all (fun _ _ _ => keep_chg) _ h1
    · exact keep_rfl
  have h2 : 0 ≤ gChgs c w t (gArr t g) 114 5 := by rw [k2.1.1 5 (by decide)]; exact h1
  have k3 : gKeep t _ (gStairs t (gChgs c w t (gArr t g))) := keep_all (fun _ _ _ => keep_stair) _ h2
  have h3 : 0 ≤ gStairs t (gChgs c w t (gArr t g)) 114 5 := by rw [k3.1.1 5 (by decide)]; exact h2
  have k4 : gKeep t _ (gLeave t (gStairs t (gChgs c w t (gArr t g)))) := keep_leave h3
  have h4 : 0 ≤ gLeave t (gStairs t (gChgs c w t (gArr t g))) 114 5 := by rw [k4.1.1 5 (by decide)]; exact h3
  have k5 : gKeep t _ (gBoards t (gLeave t (gStairs t (gChgs c w t (gArr t g))))) := keep_all (fun _ _ h => keep_board h) _ h4
  have h5 : 0 ≤ gBoards t (gLeave t (gStairs t (gChgs c w t (gArr t g)))) 114 5 := by rw [k5.1.1 5 (by decide)]; exact h4
  have k6 : gKeep t _ (gLoads (gBoards t (gLeave t (gStairs t (gChgs c w t (gArr t g)))))) := keep_all (fun _ _ _ => keep_load) _ h5
  exact keep_tr k1 (keep_tr k2 (keep_tr k3 (keep_tr k4 (keep_tr k5 k6))))
theorem sum_next {t : Int} {g : jMm} : gSum (t + 1) g = gSum t g + gCnt g := by
  unfold gSum gCnt
  rw [← sm_add]
  refine sm_congr _ (fun p _ _ => ?_)
  split <;> omega
theorem sum_tick {c t B : Int} {w : Int → Int} {g : jMm} (ok : gOK t B g) : gSum (t + 1) (gTick c w t g) = gSum t g + gCnt (gTick c w t g) := by
  rw [sum_next, keep_sum (keep_tick ok)]
theorem cnt_le {g : jMm} (hn : 0 ≤ g 114 5) (hn2 : g 114 5 ≤ 14) : 0 ≤ gCnt g ∧ gCnt g ≤ 14 := by
  have en := gN_eq hn
  have a : 0 ≤ gCnt g := sm_nonneg _ (fun p _ _ => by split <;> omega)
  have b : gCnt g ≤ 1 * (gN g : Nat) := sm_le 1 _ (fun p _ _ => by split <;> omega)
  omega
theorem sum_le {t B : Int} {g : jMm} (ok : gOK t B g) (t0 : 0 ≤ t) : 0 ≤ gSum t g ∧ gSum t g ≤ 14 * (t + 100) := by
  have hn := ok.1.1.2.2.1
  have hn2 := ok.1.1.2.2.2.1
  have en := gN_eq hn
  have each : ∀ p : Int, 0 ≤ p → p < (gN g : Nat) → 0 ≤ (if g 123 p = 1 then t - g 117 (3 * p) else g 133 p) ∧ (if g 123 p = 1 then t - g 117 (3 * p) else g 133 p) ≤ t + 100 := fun p p0 p1 => by
    have p1 := gN_lt p1 p0
    have gp := ok.2.1 p p0 p1
    have v := ok.1.2.1 p p0 p1
    split
    · rename_i c
      have nz : ¬ g 123 p = 0 := by omega
      have : ¬ (t ≤ g 117 (3 * p) ∨ p = g 114 17) := fun z => nz (gp.2.1.mpr z)
      omega
    · by_cases z : g 123 p < 2
      · have := (gp.2.2.1 z).2.2; omega
      · have := gp.2.2.2.1 (by omega); omega
  have a : 0 ≤ gSum t g := sm_nonneg _ (fun p p0 p1 => (each p p0 p1).1)
  have b : gSum t g ≤ (t + 100) * (gN g : Nat) := sm_le (t + 100) _ (fun p p0 p1 => (each p p0 p1).2)
  have c : (t + 100) * (gN g : Nat) ≤ (t + 100) * 14 := Int.mul_le_mul_of_nonneg_left (by omega) (by omega)
  omega
