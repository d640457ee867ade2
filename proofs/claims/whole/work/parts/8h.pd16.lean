/-! the program: runs of ticks -/
def pdZ (d c : Int) (w : Int → Int) (g0 : jMm) (t : Nat) (M : jMm) : Prop := pdS d M (gRun c w g0 t) ∧ pdL d M (gRun c w g0 t) t ∧ M d 12 = gSum t (gRun c w g0 t) ∧ M d 10 = c ∧ (c > 0 → 0 ≤ M d 11 ∧ ∀ s, 0 ≤ s → s < g0 114 1 → w s = wy (M d 11) s)
def gGd (w : Int → Int) (g0 : jMm) : Prop := gOK 0 0 g0 ∧ ∀ s, 0 ≤ s → s < 3 → 0 ≤ w s ∧ w s ≤ 2
def oFr (d : Int) (M M' : jMm) : Prop := ∀ a b, (a < d ∨ d + 26 ≤ a) → M' a b = M a b
theorem oFr_rfl {d : Int} {M : jMm} : oFr d M M := fun _ _ _ => rfl
theorem oFr_tr {d : Int} {M M' M'' : jMm} (h : oFr d M M') (h' : oFr d M' M'') : oFr d M M'' := fun a b n => (h' a b n).trans (h a b n)
theorem pd_tickZ {d c : Int} {w : Int → Int} {g0 : jMm} {t : Nat} {M : jMm} {Q : Int → jMm → Prop} (hd : isDay d) (G : gGd w g0) (Z : pdZ d c w g0 t M) (ht : t < 100) (hq : ∀ M', pdZ d c w g0 (t + 1) M' → oFr d M M' → M' d 12 = M d 12 + gCnt (gRun c w g0 (t + 1)) → Q 0 M') : f_X0_passTick [d, (t : Int)] M Q := by
  obtain ⟨S, Li, h12, h10, hw⟩ := Z
  have ok := ok_run (c := c) G.2 G.1 t (by omega)
  have sl := sum_le ok (by omega)
  have e1 : gRun c w g0 t 114 1 = g0 114 1 := (same_run t).1 1 (by decide)
  refine pd_tick hd S ok (by omega) Li (by omega) (by omega) G.2 h10 (fun c0 => ?_) (by omega) (fun M' S' Li' F w' => ?_)
  · rw [e1]; exact hw c0
  · have e11 : M' d 11 = M d 11 := F.2.1 11 (by omega)
    have e10 : M' d 10 = M d 10 := F.2.1 10 (by omega)
    refine hq M' ⟨S', Li', ?_, by rw [e10]; exact h10, fun c0 => by rw [e11]; exact hw c0⟩ F.1 w'
    rw [w', h12]
    have := sum_tick (c := c) (w := w) ok
    show _ = gSum ((t + 1 : Nat) : Int) (gTick c w t (gRun c w g0 t))
    rw [show ((t + 1 : Nat) : Int) = (t : Int) + 1 by omega, this]
theorem pd_run {d c : Int} {w : Int → Int} {g0 : jMm} {a b : Nat} {M : jMm} {Q : Int → jMm → Prop} (hd : isDay d) (G : gGd w g0) (Z : pdZ d c w g0 a M) (hab : a ≤ b) (hb : b ≤ 100) (hq : ∀ M', pdZ d c w g0 b M' → oFr d M M' → Q 0 M') : f_X0_run [d, (a : Int), (b : Int) - 1] M Q := by
  unfold f_X0_run
  refine mt_ (sq_ (sq_ (st_v (v := (a : Int)) (fun Q => by simp [xV, jIn]) ?_)))
  refine le_rule ((b : Int) - 1) (a : Int) (fun j L M1 => L 0 = d ∧ L 2 = (b : Int) - 1 ∧ oFr d M M1 ∧ pdZ d c w g0 j.toNat M1) rfl (by omega) (by omega) (by omega) ⟨rfl, rfl, oFr_rfl, by simpa using Z⟩ ?_ ?_ ?_
  · rintro j L M1 Q ⟨-, l2, -⟩ hq
    show Q (L 2) M1
    rw [l2]; exact hq
  · rintro j L M1 N1 h0 h1 hi ⟨l0, l2, F, Z1⟩ hN
    have ej : ((j.toNat : Nat) : Int) = j := by omega
    refine do2 ?_
    rw [l0, hi, ← ej]
    refine pd_tickZ hd G Z1 (by omega) (fun M2 Z2 F2 _ => hN L M2 hi ⟨l0, l2, oFr_tr F F2, ?_⟩)
    have : (j + 1).toNat = j.toNat + 1 := by omega
    rw [this]; exact Z2
  · rintro L M1 hi ⟨-, -, F, Z1⟩
    have : ((b : Int) - 1 + 1).toNat = b := by omega
    rw [this] at Z1
    exact hq M1 Z1 F
/-! nobody waits any more -/
def gUp (g g' : jMm) : Prop := gSame g g' ∧ ∀ p, g' 123 p = g 123 p ∨ 2 ≤ g' 123 p
theorem up_rfl {g : jMm} : gUp g g := ⟨gSame_rfl, fun _ => .inl rfl⟩
theorem up_tr {g h k : jMm} (a : gUp g h) (b : gUp h k) : gUp g k := ⟨gSame_tr a.1 b.1, fun p => by
  have := a.2 p
  have := b.2 p
  omega⟩
theorem up_wr {g : jMm} {k j v : Int} (h : 123 < k ∨ (k = 114 ∧ 17 < j)) : gUp g (jwr g k j v) := ⟨same_wr (by omega), fun p => .inl (jw0 (by omega))⟩
theorem up_chg {t s : Int} {w : Int → Int} {g : jMm} : gUp g (gChg t w s g) := ⟨same_chg, fun p => by
  unfold gChg
  rw [if_neg (by omega)]
  split
  · split
    · right; rw [if_pos rfl]; decide
    · left; rfl
  · exact .inl rfl⟩
theorem up_move {t s : Int} {g : jMm} : gUp g (gMove t s g) := ⟨same_move, fun p => by
  unfold gMove
  split
  · split
    · right; rw [if_pos rfl]; decide
    · left; rfl
  · exact .inl rfl⟩
theorem up_go {t s : Int} : ∀ (m : Nat) {g : jMm}, gUp g (gGo t s m g)
  | 0, _ => up_rfl
  | m + 1, g => by
    show gUp g (if gJam g s then jwr g 114 32 (g 114 32 + 1) else gGo t s m (gMove t s g))
    split
    · exact up_wr (.inr ⟨rfl, by decide⟩)
    · exact up_tr up_move (up_go m)
theorem up_walks {s : Int} : ∀ (m : Nat) {g : jMm}, gUp g (gWalks s m g)
  | 0, _ => up_rfl
  | m + 1, g => by
    refine up_tr (h := gWalk s m g) ?_ (up_walks m)
    unfold gWalk
    split
    · exact up_wr (.inl (by decide))
    · exact up_rfl
theorem up_stair {t s : Int} {g : jMm} : gUp g (gStair t s g) := by
  unfold gStair
  split
  · exact up_tr (up_go _) (up_walks _)
  · exact up_rfl
theorem up_lv {t f : Int} {g : jMm} : gUp g (gLv t f g) := by
  unfold gLv
  split
  · refine ⟨gSame_tr (same_wr (.inl (by decide))) (same_wr (.inl (by decide))), fun p => ?_⟩
    rw [jw0 (by omega)]
    by_cases e : p = gLvP f g
    · rw [e, jw1 ⟨rfl, rfl⟩]; right; decide
    · rw [jw0 (.inr e)]; exact .inl rfl
  · exact up_rfl
theorem up_lvs {t f : Int} : ∀ (m : Nat) {g : jMm}, gUp g (gLvs t f m g)
  | 0, _ => up_rfl
  | m + 1, _ => up_tr up_lv (up_lvs m)
theorem up_bd {t s y : Int} {g : jMm} : gUp g (gBd t s y g) := by
  unfold gBd
  split
  · refine ⟨same_put, fun p => ?_⟩
    unfold gPut
    split
    · right; rw [if_pos rfl]; decide
    · exact .inl rfl
  · exact up_rfl
theorem up_board {t s : Int} {g : jMm} : gUp g (gBoard t s g) := by
  unfold gBoard
  split
  · exact up_tr up_bd up_bd
  · exact up_rfl
theorem up_load {s : Int} {g : jMm} : gUp g (gLoad s g) := ⟨same_load, fun p => .inl (load_fr (by decide) (by decide) (by decide) (by decide))⟩
theorem up_all {f : Int → jMm → jMm} (h : ∀ s g, gUp g (f s g)) : ∀ (m : Nat) {g : jMm}, gUp g (gAll f m g)
  | 0, _ => up_rfl
  | m + 1, _ => up_tr (up_all h m) (h m _)
def gDone (g : jMm) : Prop := ∀ p, 0 ≤ p → p < g 114 5 → g 123 p ≠ 1 ∧ (g 123 p = 0 → p = g 114 17)
theorem done_cnt {g : jMm} (h : gDone g) : gCnt g = 0 := sm_zero _ (fun p p0 p1 => by rw [if_neg (h p p0 (gN_lt p1 p0)).1])
theorem done_tick {c t B : Int} {w : Int → Int} {g : jMm} (ok : gOK t B g) (h : gDone g) : gDone (gTick c w t g) := by
  have e : gArr t g = g := by
    funext a b
    unfold gArr
    rw [if_neg]
    rintro ⟨-, b0, b1, bt, bw⟩
    have z := (ok.2.1 b b0 b1).2.1.mpr (.inl (by omega))
    exact bw ((h b b0 b1).2 z)
  have u : gUp g (gTick c w t g) := by
    unfold gTick
    rw [e]
    refine up_tr (h := gChgs c w t g) ?_ (up_tr (up_all (fun _ _ => up_stair) _) (up_tr (up_tr (up_lvs _) (up_lvs _)) (up_tr (up_all (fun _ _ => up_board) _) (up_all (fun _ _ => up_load) _))))
    unfold gChgs
    split
    · exact up_all (fun _ _ => up_chg) _
    · exact up_rfl
  intro p p0 p1
  rw [u.1.1 5 (by decide)] at p1
  rw [u.1.1 17 (by decide)]
  have h1 := h p p0 p1
  have := u.2 p
  refine ⟨?_, fun z => h1.2 ?_⟩
  · have := h1.1; omega
  · omega
theorem done_run {c : Int} {w : Int → Int} {g0 : jMm} (G : gGd w g0) {t : Nat} (h : gDone (gRun c w g0 t)) : ∀ k : Nat, t + k ≤ 100 → gDone (gRun c w g0 (t + k)) ∧ gSum ((t + k : Nat) : Int) (gRun c w g0 (t + k)) = gSum t (gRun c w g0 t)
  | 0, _ => ⟨h, rfl⟩
  | k + 1, hk => by
    obtain ⟨h1, h2⟩ := done_run G h k (by omega)
    have ok := ok_run (c := c) G.2 G.1 (t + k) (by omega)
    have h3 := done_tick (c := c) (w := w) ok h1
    refine ⟨h3, ?_⟩
    show gSum ((t + k + 1 : Nat) : Int) (gTick c w ((t + k : Nat) : Int) (gRun c w g0 (t + k))) = _
    rw [show ((t + k + 1 : Nat) : Int) = ((t + k : Nat) : Int) + 1 by omega, sum_tick ok, done_cnt h3, h2]; omega
theorem sum_mono {c : Int} {w : Int → Int} {g0 : jMm} (G : gGd w g0) (t : Nat) : ∀ k : Nat, t + k ≤ 100 → gSum t (gRun c w g0 t) ≤ gSum ((t + k : Nat) : Int) (gRun c w g0 (t + k))
  | 0, _ => Int.le_refl _
  | k + 1, hk => by
    have h2 := sum_mono (c := c) G t k (by omega)
    have ok := ok_run (c := c) G.2 G.1 (t + k) (by omega)
    have ok1 := ok_run (c := c) G.2 G.1 (t + k + 1) (by omega)
    have cn := cnt_le ok1.1.1.2.2.1 ok1.1.1.2.2.2.1
    show _ ≤ gSum ((t + k + 1 : Nat) : Int) (gTick c w ((t + k : Nat) : Int) (gRun c w g0 (t + k)))
    rw [show ((t + k + 1 : Nat) : Int) = ((t + k : Nat) : Int) + 1 by omega, sum_tick ok]
    have : gCnt (gTick c w ((t + k : Nat) : Int) (gRun c w g0 (t + k))) = gCnt (gRun c w g0 (t + k + 1)) := rfl
    omega
/-- the waits together -/
def gW (c : Int) (w : Int → Int) (g0 : jMm) : Int := gSum 100 (gRun c w g0 100)
theorem done_of {d c : Int} {w : Int → Int} {g0 : jMm} {t : Nat} {M : jMm} (Z : pdZ d c w g0 t M) (h9 : ¬ M d 9 > 0) (h8 : ¬ M d 8 < M d 7) {B : Int} (ok : gOK t B (gRun c w g0 t)) : gDone (gRun c w g0 t) := by
  obtain ⟨S, Li, -⟩ := Z
  have hn := ok.1.1.2.2.1
  have en := gN_eq hn
  obtain ⟨⟨a0, a7, a14⟩, L1, L2, L3, L4⟩ := Li
  have c0 : gCnt (gRun c w g0 t) ≤ 0 := by rw [← S.1.1.2.2.1]; omega
  intro p p0 p1
  refine ⟨fun z => ?_, fun z => ?_⟩
  · have := sm_pos (f := fun p => if gRun c w g0 t 123 p = 1 then 1 else 0) (q := p) (gN (gRun c w g0 t)) (fun q _ _ => by split <;> omega) p0 (by omega)
    rw [if_pos z] at this
    unfold gCnt at c0
    omega
  · refine Classical.byContradiction (fun nw => ?_)
    obtain ⟨i, i0, i7, ib⟩ := L2 p p0 p1 nw
    have := (L4 i i0 i7).mp (by omega)
    rw [ib] at this
    have := (ok.2.1 p p0 p1).2.1.mp z
    omega
theorem pd_runWaits {d c bound : Int} {w : Int → Int} {g0 : jMm} {a : Nat} {M : jMm} {Q : Int → jMm → Prop} (hd : isDay d) (G : gGd w g0) (Z : pdZ d c w g0 a M) (ha : a < 100) (hq : ∀ M', oFr d M M' → (M' d 12 = gW c w g0 ∨ (bound ≤ M' d 12 ∧ M' d 12 ≤ gW c w g0)) → Q 0 M') : f_X0_runWaits [d, (a : Int), bound] M Q := by
  unfold f_X0_runWaits
  refine mt_ (sq_ (st_c (sq_ (sq_ (st_v (v := (a : Int)) (fun Q => by simp [xV, jIn, jup]) ?_)))))
  refine wh_rule (fun m L M1 => L 0 = d ∧ L 2 = bound ∧ oFr d M M1 ∧ ∃ t : Nat, L 4 = (t : Int) ∧ t ≤ 100 ∧ m = 100 - t ∧ pdZ d c w g0 t M1 ∧ (L 3 = 1 ∨ (L 3 = 0 ∧ (bound ≤ M1 d 12 ∨ gDone (gRun c w g0 t))))) ?_ (k := 100 - a) ⟨rfl, rfl, oFr_rfl, a, rfl, by omega, rfl, Z, .inl rfl⟩
  rintro m L M1 ⟨l0, l2, F1, t, l4, t100, hm, Z1, hl3⟩ N' hN'
  have ok1 := ok_run (c := c) G.2 G.1 t t100
  have tot : ∀ k, t + k = 100 → gSum t (gRun c w g0 t) ≤ gW c w g0 ∧ (gDone (gRun c w g0 t) → gW c w g0 = gSum t (gRun c w g0 t)) := fun k hk => by
    have a1 := sum_mono (c := c) G t k (by omega)
    refine ⟨?_, fun dn => ?_⟩
    · rw [hk] at a1; exact a1
    · have a2 := (done_run G dn k (by omega)).2
      rw [hk] at a2; exact a2
  obtain ⟨k, hk⟩ : ∃ k, t + k = 100 := ⟨100 - t, by omega⟩
  obtain ⟨tm, td⟩ := tot k hk
  have e12 := Z1.2.2.1
  have fin : (L 3 = 0 ∨ t = 100) → tRet0 L M1 (fun _ _ => False) Q := fun hx => by
    refine hq M1 F1 ?_
    rcases hl3 with z | ⟨-, z | z⟩
    · have t1 : t = 100 := by omega
      subst t1
      exact .inl e12
    · exact .inr ⟨z, by rw [e12]; exact tm⟩
    · exact .inl (by rw [e12, td z])
  have cnd : ∀ T F : jMm → Prop, (t < 100 → L 3 = 1 → T M1) → ((L 3 = 0 ∨ t = 100) → F M1) → (kAnd (kR (fun x y => x ≤ y) (xV 4) (xC 99)) (kZ (fun x y => x ≠ y) (xV 3))) L M1 T F := fun T F hT hF => by
    have h3 : L 3 = 0 ∨ L 3 = 1 := by omega
    refine ⟨fun z => ⟨fun n => hT (by have z : L 4 ≤ 99 := z; omega) ?_, fun n => hF (.inl ?_)⟩, fun z => hF (.inr (by have z : ¬ L 4 ≤ 99 := z; omega))⟩
    · have n : L 3 ≠ 0 := n
      omega
    · exact Classical.not_not.mp n
  refine cnd _ _ (fun ht h31 => ?_) fin
  refine sq_ (sq_ (do2 ?_))
  rw [l0, l4]
  refine pd_tickZ hd G Z1 ht (fun M2 Z2 F2 _ => ?_)
  have ok2 := ok_run (c := c) G.2 G.1 (t + 1) (by omega)
  have i4 : ir (L 4 + 1) := ⟨by omega, by omega⟩
  refine set_tern (M2 d 12 < bound ∧ (M2 d 9 > 0 ∨ M2 d 8 < M2 d 7)) (fun T F => propext ?_) ⟨i4, hN' (100 - (t + 1)) _ M2 (by omega) ⟨l0, l2, oFr_tr F1 F2, t + 1, ?_, by omega, rfl, Z2, ?_⟩⟩
  · by_cases c1 : M2 d 12 < bound <;> by_cases c2 : M2 d 9 > 0 <;> by_cases c3 : M2 d 8 < M2 d 7 <;> simp [-Int.not_lt, -Int.not_le, kAnd, kOr, kZ, kR, xGf, xV, l0, l2, c1, c2, c3]
  · show L 4 + 1 = ((t + 1 : Nat) : Int)
    omega
  · by_cases q : M2 d 12 < bound ∧ (M2 d 9 > 0 ∨ M2 d 8 < M2 d 7)
    · left
      show (if _ then (1 : Int) else 0) = 1
      rw [if_pos q]
    · right
      refine ⟨?_, ?_⟩
      · show (if _ then (1 : Int) else 0) = 0
        rw [if_neg q]
      · by_cases q1 : M2 d 12 < bound
        · right
          exact done_of Z2 (fun z => q ⟨q1, .inl z⟩) (fun z => q ⟨q1, .inr z⟩) ok2
        · exact .inl (by omega)
