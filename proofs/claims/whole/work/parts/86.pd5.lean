/-! the program: advance -/
theorem do1 {f : jMd} {i : Nat} {L : jLo} {M : jMm} {N : jLo → jMm → Prop} {R : Int → jMm → Prop} (h : f [L i] M (fun _ M1 => N L M1)) : tDo f (xsC (xV i) xsN) L M N R := h
theorem do2 {f : jMd} {i j : Nat} {L : jLo} {M : jMm} {N : jLo → jMm → Prop} {R : Int → jMm → Prop} (h : f [L i, L j] M (fun _ M1 => N L M1)) : tDo f (xsC (xV i) (xsC (xV j) xsN)) L M N R := h
theorem do3 {f : jMd} {i j k : Nat} {L : jLo} {M : jMm} {N : jLo → jMm → Prop} {R : Int → jMm → Prop} (h : f [L i, L j, L k] M (fun _ M1 => N L M1)) : tDo f (xsC (xV i) (xsC (xV j) (xsC (xV k) xsN))) L M N R := h
theorem seq3 {f g : jMd} {L : jLo} {M : jMm} {N : jLo → jMm → Prop} {R : Int → jMm → Prop} (h : f [L 0, L 1, 0, L 2] M (fun _ M1 => f [L 0, L 1, 1, L 2] M1 (fun _ M2 => g [L 1] M2 (fun _ M3 => N L M3)))) : (tSeq (tDo f (xsC (xV 0) (xsC (xV 1) (xsC (xC 0) (xsC (xV 2) (xsN)))))) (tSeq (tDo f (xsC (xV 0) (xsC (xV 1) (xsC (xC 1) (xsC (xV 2) (xsN)))))) (tDo g (xsC (xV 1) (xsN))))) L M N R := h
theorem kc_adv {L : jLo} {M : jMm} {T F : jMm → Prop} (h1 : L 5 < M (L 1) 3 → L 4 = 0 → T M) (h2 : L 5 < M (L 1) 3 → L 4 ≠ 0 → F M) (h3 : ¬ L 5 < M (L 1) 3 → F M) : (kAnd (kR (fun x y => x < y) (xV 5) (xGf (xV 1) 3)) (kNot (kZ (fun x y => x ≠ y) (xV 4)))) L M T F := ⟨fun c => ⟨fun n => h2 c n, fun n => h1 c (Classical.not_not.mp n)⟩, h3⟩
set_option maxHeartbeats 200000 in
theorem pd_advance {d s t : Int} {M g : jMm} {Q : Int → jMm → Prop} (hd : isDay d) (S : pdS d M g) {B : Int} (ok : gOK (t + 1) B g) (hB : B ≤ 90000) (s0 : 0 ≤ s) (s1 : s < g 114 1) (t0 : 0 ≤ t) (t1 : t ≤ 99) (hg : gGoes g s) (hq : ∀ M', pdS d M' (gStair t s g) → pdFr d M M' → Q 0 M') : f_X0_advance [d, d + 20 + 2 * s, t] M Q := by
  unfold f_X0_advance
  have v := ok.1
  have hk := v.1.2.1
  have s3 : s < 3 := by omega
  have vs := v.2.2.1 s s0 s1
  have em : (((g 122 s).toNat : Nat) : Int) = g 122 s := by omega
  have hst : gStair t s g = gWalks s (g 116 (3 * s) - 1).toNat (gGo t s (g 122 s).toNat g) := by unfold gStair; rw [if_pos hg]
  rw [hst] at hq
  generalize hm : (g 122 s).toNat = m at *
  have gs := ok.2.2.1 s s0 s3
  have hway : g 134 s = 1 ∨ g 134 s = 2 := by unfold gSt at gs; omega
  have f2 := (S.1.2.1 s s0 s1).2.1
  have ffl : gFl g s = 0 ∨ gFl g s = 1 := by unfold gFl; split <;> omega
  have efl : (if M (d + 20 + 2 * s) 2 = 2 then (0 : Int) else 1) = gFl g s := by
    unfold gFl; rw [f2]; rcases hway with q | q <;> rw [q] <;> decide
  refine mt_ (sq_ (st_v (v := gFl g s) (fun Q => ?_) (sq_ (st_c (sq_ (sq_ (st_c ?_)))))))
  · simp only [xCall, xsC, xsN, xV, jIn, reduceIte, Nat.reduceEqDiff, pd_endFloor, efl]
  refine wh_rule (fun k L M1 => L 0 = d ∧ L 1 = d + 20 + 2 * s ∧ L 2 = t ∧ L 3 = gFl g s ∧ L 5 = (m : Int) - k ∧ k ≤ m ∧ pdFr d M M1 ∧ ∃ h B', pdS d M1 h ∧ gOK (t + 1) B' h ∧ B' ≤ 90001 ∧ gSame g h ∧ (∀ b, h 134 b = g 134 b) ∧ (∀ b, h 135 b = g 135 b) ∧ ((L 4 = 0 ∧ gGo t s k h = gGo t s m g ∧ B' ≤ 90000) ∨ (L 4 = 1 ∧ h = gGo t s m g))) ?_ (k := m) ⟨rfl, rfl, rfl, rfl, by show (0 : Int) = (m : Int) - m; omega, Nat.le_refl _, pdFr_rfl, g, B, S, ok, by omega, gSame_rfl, fun _ => rfl, fun _ => rfl, .inl ⟨rfl, rfl, hB⟩⟩
  rintro k L M1 ⟨l0, l1, l2, l3, l5, hk2, F1, h, B', S1, ok1, hB', sm1, h134, h135, hcase⟩ N' hN'
  have s1' : s < h 114 1 := by rw [sm1.1 1 (by decide)]; exact s1
  have f1 := S1.1.2.1 s s0 s1'
  have e122 : M1 (d + 20 + 2 * s) 3 = (m : Int) := by rw [f1.2.2.1, (sm1.2 s).2.2.2]; omega
  have e116 : h 116 (3 * s) = g 116 (3 * s) := (sm1.2 _).2.1
  have hfl : gFl h s = gFl g s := by unfold gFl; rw [h134]
  have fin : h = gGo t s m g → (tSeq (tDo f_X0_walk (xsC (xV 0) (xsC (xV 1) (xsN)))) (tRet0)) L M1 (fun _ _ => False) Q := fun e => by
    refine sq_ (do2 ?_)
    rw [l0, l1]
    refine pd_walk hd S1 ok1 s0 s1' (fun M2 S2 F2 => hq M2 ?_ (pdFr_tr F1 F2))
    rw [e116, e] at S2
    exact S2
  refine kc_adv (fun hc h3 => ?_) (fun hc h3 => ?_) (fun hc => ?_) <;> rw [l1, l5, e122] at hc
  · rcases hcase with ⟨q3, hg2, hB2⟩ | ⟨q3, -⟩
    · obtain ⟨k', rfl⟩ : ∃ k', k = k' + 1 := ⟨k - 1, by omega⟩
      have hc5 := ok1.2.2.2.2
      have hg3 : (if gJam h s then jwr h 114 32 (h 114 32 + 1) else gGo t s k' (gMove t s h)) = gGo t s m g := hg2
      have goes1 : gGoes h s := by unfold gGoes; rw [h134, h135]; exact hg
      obtain ⟨bl, b3, b10⟩ := pd_bound S1 ok1 s0 s1'
      have hk1 : h 114 1 ≤ 3 := ok1.1.1.2.1
      have hn1 : h 114 5 ≤ 14 := ok1.1.1.2.2.2.1
      have hn0 : 0 ≤ h 114 5 := ok1.1.1.2.2.1
      have en1 := gN_eq hn0
      have cnt : ∀ Q, f_X1_countOnLastStep [d + 20 + 2 * s] M1 Q = Q (gMany h s) M1 := fun Q => by
        rw [pd_count hd s0 s3 (by omega) (by omega) rfl rfl]
        rw [many_eq S1 ok1 s0 s1' rfl rfl, bl]
      have crowd : M1 (d + 5) (gFl g s) = gThere h (gFl h s) := by
        rw [hfl]
        rcases ffl with q | q <;> rw [q]
        · exact S1.1.1.2.2.2.2.2.2.2.2.1
        · exact S1.1.1.2.2.2.2.2.2.2.2.2
      have room : M1 (d + 3) 1 = h 115 1 := S1.1.1.2.2.2.2.2.2.2.1 1 (by decide) (by decide)
      have tb0 : 0 ≤ gThere h (gFl h s) := sm_nonneg _ (fun p _ _ => by split <;> omega)
      have tb1 : gThere h (gFl h s) ≤ 1 * (gN h : Nat) := sm_le 1 _ (fun p _ _ => by split <;> omega)
      have v1 := ok1.1.2.2.2
      have jm : M1 d 14 = h 114 32 := S1.1.1.2.2.2.2.1
      refine sq_ (if_pc (gJam h s) (fun T F => ?_) (fun cj => ?_) (fun cj => ?_))
      · have i1 : ir (h 115 1 - gThere h (gFl h s)) := ⟨by omega, by omega⟩
        have i2 : 0 ≤ gFl g s ∧ gFl g s < 2 := by omega
        simp only [kR, xCall, xsC, xsN, xV, xC, xBin, boSub, xAl, xGr, l0, l1, l3, cnt, drf2 hd, drf4 hd, dln3 hd, dln5 hd, room, crowd, i1, i2, true_and]
        simp [gJam]
      · rw [if_pos cj] at hg3
        have i4 : ir (L 5 + 1) := ⟨by omega, by omega⟩
        have i5 : ir (h 114 32 + 1) := ⟨by omega, by omega⟩
        simp only [tSeq, tSet, tPutO, xC, xV, boAdd, jup, l0, jm, i5, true_and, reduceIte, Nat.reduceEqDiff]
        refine ⟨i4, hN' k' _ _ (by omega) ⟨l0, l1, l2, l3, ?_, by omega, pdFr_wr F1 (by unfold pdCell; omega), _, B' + 1, pd_jam hd S1 hk1 hn1, ok_jam ok1, by omega, gSame_tr sm1 (same_wr (.inr ⟨rfl, by decide⟩)), fun b => ?_, fun b => ?_, .inr ⟨rfl, ?_⟩⟩⟩
        · show (if (5 : Nat) = 5 then L 5 + 1 else _) = _
          rw [if_pos rfl]; omega
        · rw [jw0 (by omega)]; exact h134 b
        · rw [jw0 (by omega)]; exact h135 b
        · exact hg3
      · rw [if_neg cj] at hg3
        have i4 : ir (L 5 + 1) := ⟨by omega, by omega⟩
        refine seq3 ?_
        rw [l0, l1, l2]
        refine pd_gostep hd S1 ok1 s0 s1' goes1 cj (fun M2 S2 F2 => ⟨i4, hN' k' _ M2 (by omega) ⟨l0, l1, l2, l3, ?_, by omega, pdFr_tr F1 F2, _, B', S2, ok_move ok1 s0 s1' t0 t1 cj, by omega, gSame_tr sm1 same_move, fun b => ?_, fun b => ?_, .inl ⟨q3, hg3, hB2⟩⟩⟩)
        · show (if (5 : Nat) = 5 then L 5 + 1 else _) = _
          rw [if_pos rfl]; omega
        · rw [← h134 b]; simp [gMove]
        · rw [← h135 b]; simp [gMove]
    · rw [q3] at h3; exact absurd h3 (by decide)
  · rcases hcase with ⟨q3, -⟩ | ⟨-, hg2⟩
    · exact absurd q3 h3
    · exact fin hg2
  · rcases hcase with ⟨-, hg2, -⟩ | ⟨-, hg2⟩
    · have : k = 0 := by omega
      subst this
      exact fin hg2
    · exact fin hg2
