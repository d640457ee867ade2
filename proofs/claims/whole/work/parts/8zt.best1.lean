/-! pairs: best; days with one change, the first of the least -/
theorem k_arr {t b : Int} {g : jMm} : gArr t g 134 b = g 134 b := by simp [gArr]
theorem k_go {t s b : Int} : ∀ (m : Nat) {g : jMm}, gGo t s m g 134 b = g 134 b
  | 0, _ => rfl
  | m + 1, g => by
    show (if gJam g s then jwr g 114 32 (g 114 32 + 1) else gGo t s m (gMove t s g)) 134 b = _
    by_cases c : gJam g s
    · rw [if_pos c, jw0 (.inl (by decide))]
    · rw [if_neg c, k_go m]
      simp [gMove]
theorem k_walks {s b : Int} : ∀ (m : Nat) {g : jMm}, gWalks s m g 134 b = g 134 b
  | 0, _ => rfl
  | m + 1, g => by
    show gWalks s m (gWalk s m g) 134 b = _
    rw [k_walks m]
    unfold gWalk
    split
    · exact jw0 (.inl (by decide))
    · rfl
theorem k_stair {t s b : Int} {g : jMm} : gStair t s g 134 b = g 134 b := by
  unfold gStair
  split
  · rw [k_walks, k_go]
  · rfl
theorem k_lvs {t f b : Int} : ∀ (m : Nat) {g : jMm}, gLvs t f m g 134 b = g 134 b
  | 0, _ => rfl
  | m + 1, g => by
    show gLvs t f m (gLv t f g) 134 b = _
    rw [k_lvs m]
    unfold gLv
    split
    · rw [jw0 (.inl (by decide)), jw0 (.inl (by decide))]
    · rfl
theorem k_leave {t b : Int} {g : jMm} : gLeave t g 134 b = g 134 b := by unfold gLeave; rw [k_lvs, k_lvs]
theorem k_board {t s b : Int} {g : jMm} : gBoard t s g 134 b = g 134 b := by
  unfold gBoard
  split
  · rw [bd_134, bd_134]
  · rfl
theorem k_all {f : Int → jMm → jMm} {b : Int} (h : ∀ s g, f s g 134 b = g 134 b) : ∀ (m : Nat) {g : jMm}, gAll f m g 134 b = g 134 b
  | 0, _ => rfl
  | m + 1, g => by
    show f m (gAll f m g) 134 b = _
    rw [h, k_all h m]
theorem k_rest {t b : Int} {g : jMm} : gLoads (gBoards t (gLeave t (gStairs t g))) 134 b = g 134 b := by
  unfold gLoads gBoards gStairs
  rw [k_all (fun s g => load_fr (by decide) (by decide) (by decide) (by decide)), k_all (fun s g => k_board), k_leave, k_all (fun s g => k_stair)]
theorem chg_id {t s : Int} {w : Int → Int} {g : jMm} (h : g 134 s = w s) : gChg t w s g = g := by
  funext a b
  unfold gChg
  by_cases c : a = 134 ∧ b = s
  · rw [if_pos c, c.1, c.2, h]
  · rw [if_neg c, if_neg (fun z => z.1 h)]
theorem chgs_id {t : Int} {w : Int → Int} {g : jMm} (h : ∀ s, g 134 s = w s) : ∀ m : Nat, gAll (gChg t w) m g = g
  | 0 => rfl
  | m + 1 => by
    show gChg t w m (gAll (gChg t w) m g) = g
    rw [chgs_id h m]
    exact chg_id (h m)
/-- with no change yet -/
theorem run_pre {c c' : Int} {w w' : Int → Int} {g : jMm} : ∀ m : Nat, (∀ i : Nat, i < m → ¬ (c = i ∧ (i : Int) > 0) ∧ ¬ (c' = i ∧ (i : Int) > 0)) → gRun c w g m = gRun c' w' g m
  | 0, _ => rfl
  | m + 1, h => by
    show gTick c w m (gRun c w g m) = gTick c' w' m (gRun c' w' g m)
    rw [run_pre m (fun i hi => h i (by omega))]
    have k := h m (by omega)
    unfold gTick gChgs
    rw [if_neg k.1, if_neg k.2]
theorem run_134 {c : Int} {w : Int → Int} {g : jMm} : ∀ m : Nat, (∀ i : Nat, i < m → ¬ (c = i ∧ (i : Int) > 0)) → ∀ b, gRun c w g m 134 b = g 134 b
  | 0, _, _ => rfl
  | m + 1, h, b => by
    show gTick c w m (gRun c w g m) 134 b = _
    unfold gTick gChgs
    rw [if_neg (h m (by omega)), k_rest, k_arr]
    exact run_134 m (fun i hi => h i (by omega)) b
/-- a change to the ways as they are is none -/
theorem run_same {c : Int} {w w' : Int → Int} {g : jMm} (hw : ∀ s, g 134 s = w s) : ∀ m : Nat, gRun c w g m = gRun 0 w' g m ∧ ∀ b, gRun c w g m 134 b = g 134 b
  | 0 => ⟨rfl, fun _ => rfl⟩
  | m + 1 => by
    obtain ⟨h1, h2⟩ := run_same (c := c) (w' := w') hw m
    have e0 : gTick 0 w' m (gRun 0 w' g m) = gLoads (gBoards m (gLeave m (gStairs m (gArr m (gRun 0 w' g m))))) := by
      unfold gTick gChgs
      rw [if_neg (by omega)]
    have e1 : gTick c w m (gRun c w g m) = gLoads (gBoards m (gLeave m (gStairs m (gArr m (gRun c w g m))))) := by
      unfold gTick gChgs
      by_cases z : c = m ∧ (m : Int) > 0
      · rw [if_pos z, chgs_id (fun s => by rw [k_arr, h2, hw])]
      · rw [if_neg z]
    refine ⟨?_, fun b => ?_⟩
    · show gTick c w m (gRun c w g m) = gTick 0 w' m (gRun 0 w' g m)
      rw [e1, e0, h1]
    · show gTick c w m (gRun c w g m) 134 b = _
      rw [e1, k_rest, k_arr, h2]
theorem wb_same {P : jMm} {t k : Int} : gWb P t k k = gWy P k := by
  unfold gWb gWy gW
  rw [(run_same (c := t) (w := wy k) (w' := tw P) (fun s => by
    show (if _ then _ else _) = _
    rw [if_neg (by decide), if_neg (by decide), if_neg (by decide), if_neg (by decide), if_neg (by decide), if_pos rfl]) 100).1]
/-! the first of the least, with a bound -/
def sB (W : Int → Int) (B : Int) : Nat → Int
  | 0 => B
  | m + 1 => min (sB W B m) (W m)
theorem gBs_y {W : Int → Int} {m : Nat} (h : gBs W m < 0 ∨ W m < W (gBs W m)) : gBs W (m + 1) = m := if_pos h
theorem gBs_n {W : Int → Int} {m : Nat} (h : ¬ (gBs W m < 0 ∨ W m < W (gBs W m))) : gBs W (m + 1) = gBs W m := if_neg h
theorem sB_le {W : Int → Int} {B : Int} : ∀ (m : Nat) (i : Nat), i < m → sB W B m ≤ W i
  | 0, i, h => by omega
  | m + 1, i, h => by
    show min (sB W B m) (W m) ≤ W i
    by_cases e : i = m
    · subst e; exact Int.min_le_right _ _
    · exact Int.le_trans (Int.min_le_left _ _) (sB_le m i (by omega))
theorem sB_c {W : Int → Int} {B : Int} : ∀ m : Nat, (sB W B m = B ∧ (m = 0 ∨ B ≤ W (gBs W m))) ∨ (sB W B m < B ∧ 0 < m ∧ sB W B m = W (gBs W m))
  | 0 => .inl ⟨rfl, .inl rfl⟩
  | m + 1 => by
    have h := sB_c (W := W) (B := B) m
    have e : sB W B (m + 1) = min (sB W B m) (W m) := rfl
    have r := bs_r (W := W) m
    by_cases y : gBs W m < 0 ∨ W m < W (gBs W m)
    · rw [gBs_y y, e]
      rcases h with ⟨h1, h2⟩ | ⟨h1, h2, h3⟩
      · by_cases z : W m < B
        · exact .inr ⟨by omega, by omega, by omega⟩
        · exact .inl ⟨by omega, .inr (by omega)⟩
      · rcases y with y | y
        · omega
        · exact .inr ⟨by omega, by omega, by omega⟩
    · rw [gBs_n y, e]
      have y1 : ¬ gBs W m < 0 := fun z => y (.inl z)
      have y2 : ¬ W m < W (gBs W m) := fun z => y (.inr z)
      rcases h with ⟨h1, h2⟩ | ⟨h1, h2, h3⟩
      · rcases h2 with h2 | h2
        · subst h2; omega
        · exact .inl ⟨by omega, .inr h2⟩
      · exact .inr ⟨by omega, by omega, by omega⟩
theorem sB_y {W : Int → Int} {B : Int} {m : Nat} (h : W m < sB W B m) : sB W B (m + 1) = W m ∧ sB W B (m + 1) < B ∧ gBs W (m + 1) = m := by
  have e : sB W B (m + 1) = min (sB W B m) (W m) := rfl
  have r := bs_r (W := W) m
  have c := sB_c (W := W) (B := B) m
  refine ⟨by omega, by omega, gBs_y ?_⟩
  rcases c with ⟨h1, h2⟩ | ⟨h1, h2, h3⟩
  · rcases h2 with h2 | h2
    · left; omega
    · right; omega
  · right; omega
theorem sB_n {W : Int → Int} {B : Int} {m : Nat} (h : ¬ W m < sB W B m) : sB W B (m + 1) = sB W B m ∧ (sB W B m < B → gBs W (m + 1) = gBs W m) := by
  have e : sB W B (m + 1) = min (sB W B m) (W m) := rfl
  have r := bs_r (W := W) m
  have c := sB_c (W := W) (B := B) m
  refine ⟨by omega, fun z => gBs_n ?_⟩
  rcases c with ⟨h1, h2⟩ | ⟨h1, h2, h3⟩
  · omega
  · intro y
    rcases y with y | y <;> omega
theorem sB_skip {W : Int → Int} {B : Int} {m : Nat} : ∀ k : Nat, (∀ i : Nat, m ≤ i → i < m + k → sB W B m ≤ W i) → sB W B (m + k) = sB W B m ∧ (sB W B m < B → gBs W (m + k) = gBs W m)
  | 0, _ => ⟨rfl, fun _ => rfl⟩
  | k + 1, h => by
    obtain ⟨h1, h2⟩ := sB_skip (W := W) (B := B) (m := m) k (fun i a b => h i a (by omega))
    have n := sB_n (W := W) (B := B) (m := m + k) (by have := h (m + k) (by omega) (by omega); omega)
    exact ⟨n.1.trans h1, fun z => (n.2 (by omega)).trans (h2 z)⟩
