/-! what the ghost keeps -/
def gV (g : jMm) : Prop := (0 ≤ g 114 1 ∧ g 114 1 ≤ 3 ∧ 0 ≤ g 114 5 ∧ g 114 5 ≤ 14 ∧ (g 114 16 = 0 ∨ g 114 16 = 1)) ∧ (∀ p, 0 ≤ p → p < g 114 5 → 0 ≤ g 117 (3 * p) ∧ g 117 (3 * p) ≤ 99 ∧ 0 ≤ g 117 (3 * p + 1) ∧ g 117 (3 * p + 1) ≤ 1) ∧ (∀ s, 0 ≤ s → s < g 114 1 → 3 ≤ g 116 (3 * s) ∧ g 116 (3 * s) ≤ 10 ∧ 1 ≤ g 122 s ∧ g 122 s ≤ 2) ∧ (1 ≤ g 115 1 ∧ g 115 1 ≤ 9 ∧ 1 ≤ g 115 2 ∧ g 115 2 ≤ 3 ∧ 2 ≤ g 115 3 ∧ g 115 3 ≤ 40 ∧ 1 ≤ g 115 4 ∧ g 115 4 ≤ 9 ∧ 0 ≤ g 115 5 ∧ g 115 5 ≤ 9 ∧ 0 ≤ g 115 6 ∧ g 115 6 ≤ 10)
def gPer (t : Int) (g : jMm) (p : Int) : Prop :=
  (0 ≤ g 123 p ∧ g 123 p ≤ 4 ∧ 0 ≤ g 124 p ∧ g 124 p ≤ 4 ∧ (g 200 p = 0 ∨ g 200 p = 1)) ∧
  (g 123 p = 0 ↔ (t ≤ g 117 (3 * p) ∨ p = g 114 17)) ∧
  (g 123 p < 2 → g 130 p = -4 ∧ g 131 p = -4 ∧ g 133 p = 0) ∧
  (2 ≤ g 123 p → 0 ≤ g 130 p ∧ g 130 p ≤ 99 ∧ g 133 p = g 130 p - g 117 (3 * p) ∧ 0 ≤ g 133 p ∧ 0 ≤ g 131 p) ∧
  (g 123 p = 2 → 0 ≤ g 125 p ∧ g 125 p < g 114 1 ∧ 0 ≤ g 126 p ∧ g 126 p < g 116 (3 * g 125 p) ∧ 0 ≤ g 127 p ∧ g 127 p ≤ 1 ∧ g 134 (g 125 p) ≠ 0 ∧ g 131 p = g 125 p ∧ (g 124 p = 2 → g 127 p = 0)) ∧
  (g 123 p = 3 → 0 ≤ g 128 p ∧ g 128 p ≤ 1 ∧ 0 ≤ g 129 p ∧ g 129 p ≤ 99) ∧
  (g 123 p = 4 → 0 ≤ g 132 p ∧ g 132 p ≤ 99) ∧ (g 123 p ≠ 4 → g 132 p = -4)
def gSt (g : jMm) (s : Int) : Prop := 0 ≤ g 134 s ∧ g 134 s ≤ 2 ∧ 0 ≤ g 135 s ∧ g 135 s ≤ 9 ∧ (g 114 1 ≤ s → g 135 s = 0)
def gOK (t B : Int) (g : jMm) : Prop := gV g ∧ (∀ p, 0 ≤ p → p < g 114 5 → gPer t g p) ∧ (∀ s, 0 ≤ s → s < 3 → gSt g s) ∧ (gThere g 0 ≤ g 115 1 ∧ gThere g 1 ≤ g 115 1) ∧ (0 ≤ g 114 32 ∧ g 114 32 ≤ B ∧ 0 ≤ g 114 33 ∧ g 114 33 ≤ B ∧ 0 ≤ g 114 34 ∧ g 114 34 ≤ 100 * B)
/-- what stays all day -/
def gSame (g h : jMm) : Prop := (∀ b, b ≤ 17 → h 114 b = g 114 b) ∧ ∀ b, h 115 b = g 115 b ∧ h 116 b = g 116 b ∧ h 117 b = g 117 b ∧ h 122 b = g 122 b
theorem gSame_rfl {g : jMm} : gSame g g := ⟨fun _ _ => rfl, fun _ => ⟨rfl, rfl, rfl, rfl⟩⟩
theorem gSame_tr {g h k : jMm} (a : gSame g h) (b : gSame h k) : gSame g k := ⟨fun x hx => (b.1 x hx).trans (a.1 x hx), fun x => ⟨(b.2 x).1.trans (a.2 x).1, (b.2 x).2.1.trans (a.2 x).2.1, (b.2 x).2.2.1.trans (a.2 x).2.2.1, (b.2 x).2.2.2.trans (a.2 x).2.2.2⟩⟩
theorem gSame_V {g h : jMm} (a : gSame g h) (v : gV g) : gV h := by
  obtain ⟨a1, a2⟩ := a
  have e1 := a1 1 (by decide)
  have e5 := a1 5 (by decide)
  have e16 := a1 16 (by decide)
  unfold gV at v ⊢
  rw [e1, e5, e16, (a2 1).1, (a2 2).1, (a2 3).1, (a2 4).1, (a2 5).1, (a2 6).1]
  refine ⟨v.1, fun p h0 h1 => ?_, fun s h0 h1 => ?_, v.2.2.2⟩
  · rw [(a2 (3 * p)).2.2.1, (a2 (3 * p + 1)).2.2.1]; exact v.2.1 p h0 h1
  · rw [(a2 (3 * s)).2.1, (a2 s).2.2.2]; exact v.2.2.1 s h0 h1
theorem same_arr {t : Int} {g : jMm} : gSame g (gArr t g) := ⟨fun b _ => by simp [gArr], fun b => by simp [gArr]⟩
theorem same_chg {t s : Int} {w : Int → Int} {g : jMm} : gSame g (gChg t w s g) := ⟨fun b _ => by simp [gChg], fun b => by simp [gChg]⟩
theorem same_move {t s : Int} {g : jMm} : gSame g (gMove t s g) := ⟨fun b _ => by simp [gMove], fun b => by simp [gMove]⟩
theorem same_wr {g : jMm} {k j v : Int} (h : (123 ≤ k ∨ (k = 114 ∧ 17 < j))) : gSame g (jwr g k j v) := by
  refine ⟨fun b hb => ?_, fun b => ⟨?_, ?_, ?_, ?_⟩⟩ <;> (unfold jwr; rw [if_neg]; omega)
theorem same_put {t s y p : Int} {g : jMm} : gSame g (gPut t s y p g) := ⟨fun b _ => by simp [gPut], fun b => by simp [gPut]⟩
theorem same_load {s : Int} {g : jMm} : gSame g (gLoad s g) := by
  refine ⟨fun b hb => ?_, fun b => ?_⟩
  · have h1 : ¬ b = 34 := by omega
    have h2 : ¬ b = 33 := by omega
    simp [gLoad, h1, h2]
  · simp [gLoad]
theorem same_go {t s : Int} : ∀ (m : Nat) {g : jMm}, gSame g (gGo t s m g)
  | 0, _ => gSame_rfl
  | m + 1, g => by
    show gSame g (if gJam g s then jwr g 114 32 (g 114 32 + 1) else gGo t s m (gMove t s g))
    split
    · exact same_wr (.inr ⟨rfl, by decide⟩)
    · exact gSame_tr same_move (same_go m)
theorem same_walk {s x : Int} {g : jMm} : gSame g (gWalk s x g) := by
  unfold gWalk
  split
  · exact same_wr (.inl (by decide))
  · exact gSame_rfl
theorem same_walks {s : Int} : ∀ (m : Nat) {g : jMm}, gSame g (gWalks s m g)
  | 0, _ => gSame_rfl
  | m + 1, g => gSame_tr same_walk (same_walks m)
theorem same_stair {t s : Int} {g : jMm} : gSame g (gStair t s g) := by
  unfold gStair
  split
  · exact gSame_tr (same_go _) (same_walks _)
  · exact gSame_rfl
theorem same_lv {t f : Int} {g : jMm} : gSame g (gLv t f g) := by
  unfold gLv
  split
  · exact gSame_tr (same_wr (.inl (by decide))) (same_wr (.inl (by decide)))
  · exact gSame_rfl
theorem same_lvs {t f : Int} : ∀ (m : Nat) {g : jMm}, gSame g (gLvs t f m g)
  | 0, _ => gSame_rfl
  | m + 1, g => gSame_tr same_lv (same_lvs m)
theorem same_leave {t : Int} {g : jMm} : gSame g (gLeave t g) := gSame_tr (same_lvs _) (same_lvs _)
theorem same_bd {t s y : Int} {g : jMm} : gSame g (gBd t s y g) := by
  unfold gBd
  split
  · exact same_put
  · exact gSame_rfl
theorem same_board {t s : Int} {g : jMm} : gSame g (gBoard t s g) := by
  unfold gBoard
  split
  · exact gSame_tr same_bd same_bd
  · exact gSame_rfl
theorem same_all {f : Int → jMm → jMm} (h : ∀ s g, gSame g (f s g)) : ∀ (m : Nat) {g : jMm}, gSame g (gAll f m g)
  | 0, _ => gSame_rfl
  | m + 1, g => gSame_tr (same_all h m) (h m _)
theorem same_chgs {c t : Int} {w : Int → Int} {g : jMm} : gSame g (gChgs c w t g) := by
  unfold gChgs
  split
  · exact same_all (fun _ _ => same_chg) _
  · exact gSame_rfl
theorem same_tick {c t : Int} {w : Int → Int} {g : jMm} : gSame g (gTick c w t g) := gSame_tr same_arr (gSame_tr same_chgs (gSame_tr (same_all (fun _ _ => same_stair) _) (gSame_tr same_leave (gSame_tr (same_all (fun _ _ => same_board) _) (same_all (fun _ _ => same_load) _)))))
theorem same_run {c : Int} {w : Int → Int} {g : jMm} : ∀ m : Nat, gSame g (gRun c w g m)
  | 0 => gSame_rfl
  | m + 1 => gSame_tr (same_run m) same_tick
