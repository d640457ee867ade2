theorem ok_mono {T B B' : Int} {g : jMm} (h : gOK T B g) (hB : B ≤ B') : gOK T B' g := by
  obtain ⟨hv, hp, hs, hf, hb⟩ := h
  exact ⟨hv, hp, hs, hf, by omega⟩
theorem ok_go {t s : Int} (s0 : 0 ≤ s) (t0 : 0 ≤ t) (t1 : t ≤ 99) : ∀ (m : Nat) {B : Int} {g : jMm}, s < g 114 1 → gOK (t + 1) B g → gOK (t + 1) (B + 1) (gGo t s m g)
  | 0, _, _, _, h => ok_mono h (by omega)
  | m + 1, B, g, s1, h => by
    show gOK (t + 1) (B + 1) (if gJam g s then jwr g 114 32 (g 114 32 + 1) else gGo t s m (gMove t s g))
    split
    · exact ok_jam h
    · rename_i c
      exact ok_go s0 t0 t1 m (by rw [same_move.1 1 (by decide)]; exact s1) (ok_move h s0 s1 t0 t1 c)
theorem ok_walks {T B s : Int} (s0 : 0 ≤ s) : ∀ (m : Nat) {g : jMm}, s < g 114 1 → (m : Int) ≤ g 116 (3 * s) - 1 → gOK T B g → gOK T B (gWalks s m g)
  | 0, _, _, _, h => h
  | m + 1, g, s1, h1, h => by
    show gOK T B (gWalks s m (gWalk s m g))
    refine ok_walks s0 m ?_ ?_ (ok_walk h s0 s1 (by omega))
    · rw [same_walk.1 1 (by decide)]; exact s1
    · rw [(same_walk.2 (3 * s)).2.1]; omega
theorem ok_stair {t s B : Int} {g : jMm} (h : gOK (t + 1) B g) (s0 : 0 ≤ s) (s1 : s < g 114 1) (t0 : 0 ≤ t) (t1 : t ≤ 99) : gOK (t + 1) (B + 1) (gStair t s g) := by
  unfold gStair
  split
  · have v := h.1.2.2.1 s s0 s1
    refine ok_walks s0 _ ?_ ?_ (ok_go s0 t0 t1 _ s1 h)
    · rw [(same_go _).1 1 (by decide)]; exact s1
    · rw [((same_go _).2 (3 * s)).2.1]; omega
  · exact ok_mono h (by omega)
theorem ok_lvs {T B t f : Int} (t0 : 0 ≤ t) (t1 : t ≤ 99) : ∀ (m : Nat) {g : jMm}, gOK T B g → gOK T B (gLvs t f m g)
  | 0, _, h => h
  | m + 1, _, h => ok_lvs t0 t1 m (ok_lv h t0 t1)
theorem ok_leave {T B t : Int} {g : jMm} (h : gOK T B g) (t0 : 0 ≤ t) (t1 : t ≤ 99) : gOK T B (gLeave t g) := ok_lvs t0 t1 _ (ok_lvs t0 t1 _ h)
theorem bd_134 {t s y : Int} {g : jMm} {b : Int} : gBd t s y g 134 b = g 134 b := by
  unfold gBd
  split
  · simp [gPut]
  · rfl
theorem ok_board {t s B : Int} {g : jMm} (h : gOK (t + 1) B g) (s0 : 0 ≤ s) (s1 : s < g 114 1) (t0 : 0 ≤ t) (t1 : t ≤ 99) : gOK (t + 1) B (gBoard t s g) := by
  unfold gBoard
  split
  · rename_i c
    refine ok_bd (ok_bd h s0 s1 t0 t1 (by decide) (by decide) (by omega)) s0 ?_ t0 t1 (by decide) (by decide) ?_
    · rw [same_bd.1 1 (by decide)]; exact s1
    · rw [bd_134]; omega
  · exact h
theorem ok_all {T : Int} {f : Int → jMm → jMm} (hf : ∀ s g, gSame g (f s g)) (h : ∀ (s B : Int) (g : jMm), gOK T B g → 0 ≤ s → s < g 114 1 → gOK T (B + 1) (f s g)) : ∀ (m : Nat) {B : Int} {g : jMm}, (m : Int) ≤ g 114 1 → gOK T B g → gOK T (B + m) (gAll f m g)
  | 0, B, g, _, k => by
    have : B + ((0 : Nat) : Int) = B := by omega
    rw [this]; exact k
  | m + 1, B, g, hm, k => by
    have e : B + ((m + 1 : Nat) : Int) = B + (m : Int) + 1 := by omega
    rw [e]
    refine h m _ _ (ok_all hf h m (by omega) k) (by omega) ?_
    rw [(same_all hf m).1 1 (by decide)]; omega
theorem gK_eq {g : jMm} (h : 0 ≤ g 114 1) : ((gK g : Nat) : Int) = g 114 1 := Int.toNat_of_nonneg h
theorem ok_chgs {c t B : Int} {w : Int → Int} {g : jMm} (hw : ∀ s, 0 ≤ s → s < 3 → 0 ≤ w s ∧ w s ≤ 2) (h : gOK (t + 1) B g) (t0 : 0 ≤ t) (t1 : t ≤ 99) : gOK (t + 1) (B + 3) (gChgs c w t g) := by
  have v := h.1.1
  have ek := gK_eq v.1
  unfold gChgs
  split
  · refine ok_mono (ok_all (f := gChg t w) (T := t + 1) (fun _ _ => same_chg) (fun s B g h s0 s1 => ?_) (gK g) (by omega) h) (by omega)
    have := h.1.1.2.1
    have := hw s s0 (by omega)
    exact ok_mono (ok_chg h s0 s1 this.1 this.2 t0 t1) (by omega)
  · exact ok_mono h (by omega)
theorem ok_stairs {t B : Int} {g : jMm} (h : gOK (t + 1) B g) (t0 : 0 ≤ t) (t1 : t ≤ 99) : gOK (t + 1) (B + 3) (gStairs t g) := by
  have v := h.1.1
  have ek := gK_eq v.1
  exact ok_mono (ok_all (f := gStair t) (T := t + 1) (fun _ _ => same_stair) (fun s B g h s0 s1 => ok_stair h s0 s1 t0 t1) (gK g) (by omega) h) (by omega)
theorem ok_boards {t B : Int} {g : jMm} (h : gOK (t + 1) B g) (t0 : 0 ≤ t) (t1 : t ≤ 99) : gOK (t + 1) (B + 3) (gBoards t g) := by
  have v := h.1.1
  have ek := gK_eq v.1
  exact ok_mono (ok_all (f := gBoard t) (T := t + 1) (fun _ _ => same_board) (fun s B g h s0 s1 => ok_mono (ok_board h s0 s1 t0 t1) (by omega)) (gK g) (by omega) h) (by omega)
theorem ok_loads {T B : Int} {g : jMm} (h : gOK T B g) : gOK T (B + 3) (gLoads g) := by
  have v := h.1.1
  have ek := gK_eq v.1
  exact ok_mono (ok_all (f := gLoad) (T := T) (fun _ _ => same_load) (fun s B g h s0 s1 => ok_load h s0 s1) (gK g) (by omega) h) (by omega)
theorem ok_tick {c t B : Int} {w : Int → Int} {g : jMm} (hw : ∀ s, 0 ≤ s → s < 3 → 0 ≤ w s ∧ w s ≤ 2) (h : gOK t B g) (t0 : 0 ≤ t) (t1 : t ≤ 99) : gOK (t + 1) (B + 12) (gTick c w t g) :=
  ok_mono (ok_loads (ok_boards (ok_leave (ok_stairs (ok_chgs hw (ok_arr h t0) t0 t1) t0 t1) t0 t1) t0 t1)) (by omega)
theorem ok_run {c : Int} {w : Int → Int} {g : jMm} (hw : ∀ s, 0 ≤ s → s < 3 → 0 ≤ w s ∧ w s ≤ 2) (h : gOK 0 0 g) : ∀ m : Nat, m ≤ 100 → gOK m (12 * m) (gRun c w g m)
  | 0, _ => h
  | m + 1, hm => by
    have e1 : ((m + 1 : Nat) : Int) = (m : Int) + 1 := by omega
    have e2 : 12 * ((m : Int) + 1) = 12 * (m : Int) + 12 := by omega
    rw [e1, e2]
    exact ok_tick hw (ok_run hw h m (by omega)) (by omega) (by omega)
/-- the plan as it is told, in the model's places -/
def gPl (P : jMm) : Prop := (0 ≤ P 114 1 ∧ P 114 1 ≤ 3 ∧ 0 ≤ P 114 5 ∧ P 114 5 ≤ 14) ∧ (∀ p, 0 ≤ p → p < P 114 5 → 0 ≤ P 117 (3 * p) ∧ P 117 (3 * p) ≤ 99 ∧ 0 ≤ P 117 (3 * p + 1) ∧ P 117 (3 * p + 1) ≤ 1 ∧ 0 ≤ P 117 (3 * p + 2) ∧ P 117 (3 * p + 2) ≤ 4) ∧ (∀ s, 0 ≤ s → s < P 114 1 → 3 ≤ P 116 (3 * s) ∧ P 116 (3 * s) ≤ 10) ∧ (1 ≤ P 115 1 ∧ P 115 1 ≤ 9 ∧ 1 ≤ P 115 2 ∧ P 115 2 ≤ 3 ∧ 2 ≤ P 115 3 ∧ P 115 3 ≤ 40 ∧ 1 ≤ P 115 4 ∧ P 115 4 ≤ 9 ∧ 0 ≤ P 115 5 ∧ P 115 5 ≤ 9 ∧ 0 ≤ P 115 6 ∧ P 115 6 ≤ 10)
theorem ok_begin {P : jMm} {rule without : Int} {ways paces : Int → Int} (h : gPl P) (hr : rule = 0 ∨ rule = 1) (hw : ∀ s, 0 ≤ s → s < 3 → 0 ≤ ways s ∧ ways s ≤ 2) (hpc : ∀ s, 0 ≤ s → s < P 114 1 → 1 ≤ paces s ∧ paces s ≤ 2) : gOK 0 0 (gBegin P rule without ways paces) := by
  obtain ⟨h1, h2, h3, h4⟩ := h
  refine ⟨⟨⟨?_, ?_, ?_, ?_, ?_⟩, fun p p0 p1 => ?_, fun s s0 s1 => ?_, ?_⟩, fun p p0 p1 => ?_, fun s s0 s1 => ?_, ⟨?_, ?_⟩, ?_⟩
  · simp [gBegin]; omega
  · simp [gBegin]; omega
  · simp [gBegin]; omega
  · simp [gBegin]; omega
  · simpa [gBegin] using hr
  · have := h2 p p0 (by simpa [gBegin] using p1)
    simp [gBegin]; omega
  · have s1 : s < P 114 1 := by simpa [gBegin] using s1
    have := h3 s s0 s1
    have := hpc s s0 s1
    simp [gBegin]; omega
  · simpa [gBegin] using h4
  · have := h2 p p0 (by simpa [gBegin] using p1)
    simp [gPer, gBegin]; omega
  · have := hw s s0 s1
    simp [gSt, gBegin]; omega
  · have e : gThere (gBegin P rule without ways paces) 0 = 0 := sm_zero _ (fun p _ _ => by simp [gBegin])
    rw [e]; simp [gBegin]; omega
  · have e : gThere (gBegin P rule without ways paces) 1 = 0 := sm_zero _ (fun p _ _ => by simp [gBegin])
    rw [e]; simp [gBegin]; omega
  · simp [gBegin]
