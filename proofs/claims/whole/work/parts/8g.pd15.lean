/-! the program: a tick as a whole -/
theorem stair_idle {t s T B : Int} {g : jMm} (ok : gOK T B g) (s0 : 0 ≤ s) (s1 : s < g 114 1) (h : gWeight g s = 0) : gStair t s g = g := by
  have hn0 := ok.1.1.2.2.1
  have en := gN_eq hn0
  have none : ∀ p, 0 ≤ p → p < g 114 5 → ¬ gOn g p s := fun p p0 p1 on => by
    have := sm_pos (f := fun p => if gOn g p s then wt (g 124 p) else 0) (q := p) (gN g) (fun q _ _ => by have := wt_le (g 124 q); split <;> omega) p0 (by omega)
    rw [if_pos on] at this
    have w := wt_le (g 124 p)
    unfold gWeight at h
    omega
  have many : gMany g s = 0 := sm_zero _ (fun p p0 p1 => by rw [if_neg (fun z => none p p0 (gN_lt p1 p0) z.1)])
  have nj : ¬ gJam g s := fun z => by
    unfold gJam at z
    have h2 := ok.2.2.2.1
    have : gFl g s = 0 ∨ gFl g s = 1 := by unfold gFl; split <;> omega
    rcases this with q | q <;> rw [q] at z <;> omega
  have mv : gMove t s g = g := by
    funext a b
    unfold gMove
    rw [if_neg (fun z => none b z.1 z.2.1 z.2.2)]
  have go : ∀ m, gGo t s m g = g := fun m => by
    induction m with
    | zero => rfl
    | succ m ih =>
      show (if gJam g s then jwr g 114 32 (g 114 32 + 1) else gGo t s m (gMove t s g)) = g
      rw [if_neg nj, mv, ih]
  have wk : ∀ x, gWalk s x g = g := fun x => by
    unfold gWalk
    rcases who_cases (g := g) (s := s) (x := x) (y := 1) hn0 with ⟨a, -⟩ | ⟨a1, a2, a3⟩
    · rw [if_neg (by omega)]
    · exact absurd a3.1 (none _ a1 a2)
  have wks : ∀ m, gWalks s m g = g := fun m => by
    induction m with
    | zero => rfl
    | succ m ih =>
      show gWalks s m (gWalk s m g) = g
      rw [wk, ih]
  unfold gStair
  split
  · rw [go, wks]
  · rfl
theorem board_idle {t s : Int} {g : jMm} (hn0 : 0 ≤ g 114 5) (h : gCnt g = 0) : gBoard t s g = g := by
  have en := gN_eq hn0
  have none : ∀ p, 0 ≤ p → p < g 114 5 → ¬ g 123 p = 1 := fun p p0 p1 on => by
    have := sm_pos (f := fun p => if g 123 p = 1 then 1 else 0) (q := p) (gN g) (fun q _ _ => by split <;> omega) p0 (by omega)
    rw [if_pos on] at this
    unfold gCnt at h
    omega
  have bd : ∀ y, gBd t s y g = g := fun y => by
    unfold gBd
    rcases bdp_cases (s := s) (y := y) hn0 with z | ⟨z1, z2, z3, -⟩
    · rw [if_neg (by omega)]
    · exact absurd z3 (none _ z1 z2)
  unfold gBoard
  split
  · rw [bd, bd]
  · rfl
theorem pd_all {d t T B0 : Int} {f : Int → jMm → jMm} {Bd : jSt} {L0 : jLo} {M g : jMm} {N : jLo → jMm → Prop} {R : Int → jMm → Prop} (S : pdS d M g) (ok : gOK T B0 g) (l0 : L0 0 = d) (l1 : L0 1 = t) (hs : ∀ s h, gSame h (f s h)) (hok : ∀ (s B : Int) (h : jMm), gOK T B h → 0 ≤ s → s < h 114 1 → gOK T (B + 1) (f s h))
    (hB : ∀ (s : Nat) (h : jMm) (L : jLo) (M1 : jMm) (N1 : jLo → jMm → Prop), (s : Int) < h 114 1 → L 0 = d → L 1 = t → L 2 = (s : Int) → pdS d M1 h → gOK T (B0 + s) h → gSame g h → pdFr d M M1 → (∀ L' M', L' 0 = d → L' 1 = t → L' 2 = (s : Int) → pdS d M' (f s h) → pdFr d M1 M' → N1 L' M') → Bd L M1 N1 R)
    (hN : ∀ L' M', L' 0 = d → L' 1 = t → pdS d M' (gAll f (gK g) g) → pdFr d M M' → N L' M') : tSeq (tSet 2 (xC 0)) (tWh (kR (fun x y => x < y) (xV 2) (xGf (xV 0) 5)) (tSeq Bd (tInc 2 1))) L0 M N R := by
  have v := ok.1
  have ek := gK_eq v.1.1
  have hk := v.1.2.1
  refine sq_ (st_c ?_)
  have ok' : gOK T (B0 + ((0 : Nat) : Int)) g := by
    have e : B0 + ((0 : Nat) : Int) = B0 := by omega
    rw [e]; exact ok
  refine up0 (gK g) (fun s L M1 => L 0 = d ∧ L 1 = t ∧ pdS d M1 (gAll f s g) ∧ gOK T (B0 + s) (gAll f s g) ∧ pdFr d M M1) rfl (by omega) ⟨l0, l1, S, ok', pdFr_rfl⟩ ?_ ?_ ?_
  · rintro s L M1 Q ⟨l0, -, S1, -⟩ hq
    show Q (M1 (L 0) 5) M1
    rw [l0, S1.1.1.1, (same_all hs s).1 1 (by decide), ← ek]; exact hq
  · rintro s L M1 N1 hj hi ⟨l0, l1, S1, ok1, F1⟩ hN1
    have e1 : gAll f s g 114 1 = g 114 1 := (same_all hs s).1 1 (by decide)
    refine hB s (gAll f s g) L M1 N1 (by omega) l0 l1 hi S1 ok1 (same_all hs s) F1 (fun L' M' a0 a1 a2 a3 a4 => hN1 L' M' a2 ⟨a0, a1, a3, ?_, pdFr_tr F1 a4⟩)
    have := hok s (B0 + s) (gAll f s g) ok1 (by omega) (by omega)
    have e : B0 + ((s + 1 : Nat) : Int) = B0 + s + 1 := by omega
    rw [e]; exact this
  · rintro L M1 hi ⟨l0, l1, S1, -, F1⟩
    exact hN L M1 l0 l1 S1 F1
theorem doc3 {f : jMd} {c : Int} {i j : Nat} {L : jLo} {M : jMm} {N : jLo → jMm → Prop} {R : Int → jMm → Prop} (h : f [L i, c, L j] M (fun _ M1 => N L M1)) : tDo f (xsC (xV i) (xsC (xC c) (xsC (xV j) xsN))) L M N R := h
theorem doa3 {f : jMd} {e : jEx} {x : Int} {i j : Nat} {L : jLo} {M : jMm} {N : jLo → jMm → Prop} {R : Int → jMm → Prop} (he : ∀ Q, e L M Q = Q x M) (h : f [L i, x, L j] M (fun _ M1 => N L M1)) : tDo f (xsC (xV i) (xsC e (xsC (xV j) xsN))) L M N R := by
  show e L M (fun v M1 => f [L i, v, L j] M1 (fun _ M2 => N L M2))
  rw [he]; exact h
theorem pd_goes {d s : Int} {M g : jMm} {T B : Int} {L : jLo} (hd : isDay d) (S : pdS d M g) (ok : gOK T B g) (s0 : 0 ≤ s) (s1 : s < g 114 1) (l0 : L 0 = d) (l2 : L 2 = s) (T' F' : jMm → Prop) : (kZ (fun x y => x ≠ y) (xCall f_X1_moves (xsC (xAr (xGr (xV 0) 1) (xV 2)) (xsN)))) L M T' F' = ((gGoes g s → T' M) ∧ (¬ gGoes g s → F' M)) := by
  have hk := ok.1.1.2.1
  have s3 : s < 3 := by omega
  obtain ⟨f1, f2, f3, f4, f5⟩ := S.1.2.1 s s0 s1
  have gs := ok.2.2.1 s s0 s3
  unfold gSt at gs
  simp only [kZ, xCall, xsC, xsN, xAr, xGr, xV, l0, l2, drf1 hd, dln2 hd, dfs hd s0 s3, s0, s3, pd_moves, f2, f4, true_and, and_self]
  have iff : (g 134 s ≠ 0 ∧ g 135 s = 0) ↔ gGoes g s := ⟨fun z => ⟨by have := z.1; omega, z.2⟩, fun z => ⟨by have := z.1; omega, z.2⟩⟩
  generalize gGoes g s = G at *
  by_cases c : G
  · rw [if_pos (iff.mpr c)]
    simp [c]
  · rw [if_neg (fun z => c (iff.mp z))]
    simp [c]
theorem pd_tick {d c t B : Int} {w : Int → Int} {M g : jMm} {Q : Int → jMm → Prop} (hd : isDay d) (S : pdS d M g) (ok : gOK t B g) (hB : B ≤ 80000) (Li : pdL d M g t) (t0 : 0 ≤ t) (t1 : t ≤ 99) (hwr : ∀ s, 0 ≤ s → s < 3 → 0 ≤ w s ∧ w s ≤ 2) (h10 : M d 10 = c) (hw : c > 0 → 0 ≤ M d 11 ∧ ∀ s, 0 ≤ s → s < g 114 1 → w s = wy (M d 11) s) (h12 : 0 ≤ M d 12 ∧ M d 12 ≤ 100000)
    (hq : ∀ M', pdS d M' (gTick c w t g) → pdL d M' (gTick c w t g) (t + 1) → pdTr d M M' → M' d 12 = M d 12 + gCnt (gTick c w t g) → Q 0 M') : f_X0_passTick [d, t] M Q := by
  unfold f_X0_passTick
  have hk := ok.1.1.2.1
  have ok1 := ok_arr ok t0
  have ok2 := ok_chgs (c := c) (w := w) hwr ok1 t0 t1
  have ok3 := ok_stairs ok2 t0 t1
  have ok4 := ok_leave ok3 t0 t1
  have ok5 := ok_boards ok4 t0 t1
  have ok6 := ok_loads ok5
  refine mt_ (sq_ (do2 ?_))
  show f_X0_arrive [d, t] M _
  refine pd_arrive hd S ok Li t0 (fun M1 S1 Li1 F1 w1 => ?_)
  refine sq_cut (fun L2 M2 => L2 0 = d ∧ L2 1 = t ∧ pdS d M2 (gChgs c w t (gArr t g)) ∧ pdFr d M1 M2) (fun N1 hN1 => ?_) ?_
  · have e10 : M1 d 10 = c := by rw [F1.2.1 10 (by omega)]; exact h10
    have e11 : M1 d 11 = M d 11 := F1.2.1 11 (by omega)
    unfold gChgs at hN1
    refine if_pc (c = t ∧ t > 0) (fun T F => propext ?_) (fun q => ?_) (fun q => ?_)
    · by_cases q1 : c = t
      · subst q1
        by_cases q2 : c > 0 <;> simp [-Int.not_lt, -Int.not_le, kAnd, kZ, kR, xGf, xV, jIn, e10, q2]
      · have q1' : ¬ t = c := fun z => q1 z.symm
        by_cases q2 : c > 0 <;> simp [-Int.not_lt, -Int.not_le, kAnd, kZ, kR, xGf, xV, jIn, e10, q1, q1', q2]
    · rw [if_pos q] at hN1
      have hh := hw (by omega)
      refine do2 ?_
      show f_X0_turn [d, t] M1 _
      refine pd_turn hd S1 ok1 t0 t1 (by rw [e11]; exact hh.1) (fun s s0 s1 => ?_) (fun M2 S2 F2 => hN1 _ M2 ⟨rfl, rfl, S2, F2⟩)
      rw [e11]; exact hh.2 s s0 (by rw [same_arr.1 1 (by decide)] at s1; exact s1)
    · rw [if_neg q] at hN1
      exact hN1 _ M1 ⟨rfl, rfl, S1, pdFr_rfl⟩
  rintro L2 M2 ⟨a0, a1, S2, F2⟩
  refine sq_ (pd_all (f := gStair t) (T := t + 1) S2 ok2 a0 a1 (fun _ _ => same_stair) (fun s B h o s0 s1 => ok_stair o s0 s1 t0 t1) (fun s h L M' N1 hs b0 b1 b2 S o sm _ hN => ?_) (fun L3 M3 a0 a1 S3 F3 => ?_))
  · have s0 : (0 : Int) ≤ s := by omega
    have hk' := o.1.1.2.1
    have s3 : (s : Int) < 3 := by omega
    have w0 := weight_le (g := h) (s := (s : Int)) o.1.1.2.2.1 o.1.1.2.2.2.1
    have f5 := (S.1.2.1 s s0 hs).2.2.2.2
    refine if_pc (gGoes h s ∧ gWeight h s > 0) (fun T F => ?_) (fun q => ?_) (fun q => ?_)
    · show kZ _ _ L M' (fun M => kZ _ _ L M T F) F = _
      rw [pd_goes hd S o s0 hs b0 b2]
      apply propext
      by_cases c1 : gGoes h s <;> by_cases c2 : gWeight h s > 0 <;> simp [-Int.not_lt, -Int.not_le, kZ, xGf, xAr, xGr, xV, b0, b2, drf1 hd, dln2 hd, dfs hd s0 s3, s3, f5, c1, c2]
    · refine doa3 (x := d + 20 + 2 * s) (fun Q => ?_) ?_
      · simp only [xAr, xGr, xV, b0, b2, drf1 hd, dln2 hd, dfs hd s0 s3, s0, s3, true_and, and_self]
      rw [b0, b1]
      exact pd_advance hd S o (by omega) s0 hs t0 t1 q.1 (fun M4 S4 F4 => hN L M4 b0 b1 b2 S4 F4)
    · have e : gStair t s h = h := by
        by_cases c1 : gGoes h s
        · exact stair_idle o s0 hs (by have : ¬ gWeight h s > 0 := fun z => q ⟨c1, z⟩
                                       omega)
        · unfold gStair; rw [if_neg c1]
      exact hN L M' b0 b1 b2 (by rw [e]; exact S) pdFr_rfl
  have S3' : pdS d M3 (gStairs t (gChgs c w t (gArr t g))) := S3
  refine sq_ (doc3 ?_)
  rw [a0, a1]
  refine pd_leave hd S3' ok3 (.inl rfl) t0 t1 (fun M4 S4 F4 => ?_)
  have sm4 : gSame (gStairs t (gChgs c w t (gArr t g))) (gLvs t 0 (gStairs t (gChgs c w t (gArr t g)) 115 2).toNat (gStairs t (gChgs c w t (gArr t g)))) := same_lvs _
  refine sq_ (doc3 ?_)
  rw [a0, a1]
  refine pd_leave hd S4 (ok_lvs t0 t1 _ ok3) (.inr rfl) t0 t1 (fun M5 S5 F5 => ?_)
  rw [(sm4.2 2).1] at S5
  have S5' : pdS d M5 (gLeave t (gStairs t (gChgs c w t (gArr t g)))) := S5
  have Li5 : pdL d M5 (gLeave t (gStairs t (gChgs c w t (gArr t g)))) (t + 1) := pdL_fr (pdL_fr (pdL_fr (pdL_fr Li1 F2 same_chgs) F3 (same_all (fun _ _ => same_stair) _)) F4 gSame_rfl) F5 same_leave
  refine sq_ (pd_all (f := gBoard t) (T := t + 1) S5' ok4 a0 a1 (fun _ _ => same_board) (fun s B h o s0 s1 => ok_mono (ok_board o s0 s1 t0 t1) (by omega)) (fun s h L M' N1 hs b0 b1 b2 S o sm Fm hN => ?_) (fun L6 M6 a0 a1 S6 F6 => ?_))
  · have s0 : (0 : Int) ≤ s := by omega
    have hn0 := o.1.1.2.2.1
    have cn := cnt_le hn0 o.1.1.2.2.2.1
    have d9 := S.1.1.2.2.1
    refine if_pc (gGoes h s ∧ gCnt h > 0) (fun T F => ?_) (fun q => ?_) (fun q => ?_)
    · show kZ _ _ L M' (fun M => kZ _ _ L M T F) F = _
      rw [pd_goes hd S o s0 hs b0 b2]
      apply propext
      by_cases c1 : gGoes h s <;> by_cases c2 : gCnt h > 0 <;> simp [-Int.not_lt, -Int.not_le, kZ, xGf, xV, b0, d9, c1, c2]
    · refine do3 ?_
      rw [b0, b1, b2]
      exact pd_board hd S o (pdL_fr Li5 Fm sm) s0 hs q.1 t0 t1 (fun M4 S4 F4 => hN L M4 b0 b1 b2 S4 F4)
    · have e : gBoard t s h = h := by
        by_cases c1 : gGoes h s
        · exact board_idle hn0 (by have : ¬ gCnt h > 0 := fun z => q ⟨c1, z⟩
                                   omega)
        · unfold gBoard; rw [if_neg c1]
      exact hN L M' b0 b1 b2 (by rw [e]; exact S) pdFr_rfl
  have S6' : pdS d M6 (gBoards t (gLeave t (gStairs t (gChgs c w t (gArr t g))))) := S6
  refine sq_ (pd_all (f := gLoad) (T := t + 1) S6' ok5 a0 a1 (fun _ _ => same_load) (fun s B h o s0 s1 => ok_load o s0 s1) (fun s h L M' N1 hs b0 b1 b2 S o sm Fm hN => ?_) (fun L7 M7 a0 a1 S7 F7 => ?_))
  · have hk' := o.1.1.2.1
    refine do2 ?_
    rw [b0, b2]
    exact pd_weigh hd S o (by omega) (by omega) hs (fun M4 S4 F4 => hN L M4 b0 b1 b2 S4 F4)
  have S7' : pdS d M7 (gTick c w t g) := S7
  have FF : pdFr d M1 M7 := pdFr_tr (pdFr_tr (pdFr_tr (pdFr_tr (pdFr_tr F2 F3) F4) F5) F6) F7
  have e12 : M7 d 12 = M d 12 := by rw [FF.2.1 12 (by omega)]; exact w1
  have e9 : M7 d 9 = gCnt (gTick c w t g) := S7'.1.1.2.2.1
  have ok7 := ok_tick (c := c) (w := w) hwr ok t0 t1
  have cn := cnt_le ok7.1.1.2.2.1 ok7.1.1.2.2.2.1
  have i12 : ir (M7 d 12 + M7 d 9) := ⟨by omega, by omega⟩
  have k9 : (gTick c w t g) 114 1 ≤ 3 := ok7.1.1.2.1
  have n9 : (gTick c w t g) 114 5 ≤ 14 := ok7.1.1.2.2.2.1
  simp only [tSeq, tPutO, tRet0, xGf, xV, boAdd, a0]
  refine ⟨i12, hq _ ?_ ?_ (pdTr_wr (pdTr_tr F1 (pdTr_fr FF)) ⟨by omega, by omega, by omega, by omega⟩) ?_⟩
  · obtain ⟨⟨⟨d1, d2, d3, d4, d5, d6, d7, d8, d9, d10⟩, sf, sp⟩, X⟩ := S7'
    refine ⟨⟨⟨?_, ?_, ?_, ?_, ?_, ?_, ?_, fun j j1 j2 => ?_, ?_, ?_⟩, fun s s0 s1 => ?_, fun p p0 p1 => ?_⟩, fun s s0 s1 => ?_⟩
    · rw [jw0 (by omega)]; exact d1
    · rw [jw0 (by omega)]; exact d2
    · rw [jw0 (by omega)]; exact d3
    · rw [jw0 (by omega)]; exact d4
    · rw [jw0 (by omega)]; exact d5
    · rw [jw0 (by omega)]; exact d6
    · rw [jw0 (by omega)]; exact d7
    · rw [jw0 (by omega)]; exact d8 j j1 j2
    · rw [jw0 (by omega)]; exact d9
    · rw [jw0 (by omega)]; exact d10
    · have := sf s s0 s1
      have em : ∀ b, jwr M7 d 12 (M7 d 12 + M7 d 9) (d + 20 + 2 * s) b = M7 (d + 20 + 2 * s) b := fun b => jw0 (by omega)
      unfold pdF at this ⊢
      rw [em, em, em, em, em]; exact this
    · refine pdP_fr (sp p p0 p1) (fun b => jw0 (by omega)) gSame_rfl (fun _ _ _ _ _ => rfl)
    · exact pdX_fr (X s s0 s1) (fun b => jw0 (by omega)) gSame_rfl (fun _ _ _ _ _ => Iff.rfl)
  · have Li7 : pdL d M7 (gTick c w t g) (t + 1) := pdL_fr (pdL_fr Li5 F6 (same_all (fun _ _ => same_board) _)) F7 (same_all (fun _ _ => same_load) _)
    unfold pdL at Li7 ⊢
    have e8 : jwr M7 d 12 (M7 d 12 + M7 d 9) d 8 = M7 d 8 := jw0 (by omega)
    have e7 : jwr M7 d 12 (M7 d 12 + M7 d 9) d 7 = M7 d 7 := jw0 (by omega)
    have e4 : ∀ b, jwr M7 d 12 (M7 d 12 + M7 d 9) (d + 4) b = M7 (d + 4) b := fun b => jw0 (by omega)
    simp only [e8, e7, e4]
    exact Li7
  · rw [jw1 ⟨rfl, rfl⟩, e12, e9]
