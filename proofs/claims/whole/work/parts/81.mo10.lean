theorem mo_all {f : Int → jMm → jMm} {Bd : jSt} {L0 : jLo} {M g : jMm} {t T B0 : Int} {N : jLo → jMm → Prop} {R : Int → jMm → Prop} (S : moS M g) (ok : gOK T B0 g) (l0 : L0 0 = 114) (l1 : L0 1 = t) (hs : ∀ s h, gSame h (f s h)) (hok : ∀ (s B : Int) (h : jMm), gOK T B h → 0 ≤ s → s < h 114 1 → gOK T (B + 1) (f s h))
    (hB : ∀ (s : Nat) (h : jMm) (L : jLo) (M : jMm) (N1 : jLo → jMm → Prop), (s : Int) < h 114 1 → L 0 = 114 → L 1 = t → L 2 = (s : Int) → moS M h → gOK T (B0 + s) h → (∀ L' M', L' 0 = 114 → L' 1 = t → L' 2 = (s : Int) → moS M' (f s h) → mFr M M' → N1 L' M') → Bd L M N1 R)
    (hN : ∀ L' M', L' 0 = 114 → L' 1 = t → moS M' (gAll f (gK g) g) → mFr M M' → N L' M') : tSeq (tSet 2 (xC 0)) (tWh (kR (fun x y => x < y) (xV 2) (xGf (xV 0) 1)) (tSeq Bd (tInc 2 1))) L0 M N R := by
  have v := ok.1
  have ek := gK_eq v.1.1
  have hk := v.1.2.1
  refine sq_ (st_c ?_)
  refine up0 (gK g) (fun s L M1 => L 0 = 114 ∧ L 1 = t ∧ moS M1 (gAll f s g) ∧ gOK T (B0 + s) (gAll f s g) ∧ mFr M M1) rfl (by omega) ⟨l0, l1, S, by have : B0 + ((0 : Nat) : Int) = B0 := by omega
                                                                                                                                                     rw [this]; exact ok, mFr_rfl⟩ ?_ ?_ ?_
  · rintro s L M1 Q ⟨l0, -, S1, -⟩ hq
    show Q (M1 (L 0) 1) M1
    rw [l0, S1.1.1, (same_all hs s).1 1 (by decide), ← ek]; exact hq
  · rintro s L M1 N1 hj hi ⟨l0, l1, S1, ok1, F1⟩ hN1
    have e1 : gAll f s g 114 1 = g 114 1 := (same_all hs s).1 1 (by decide)
    refine hB s (gAll f s g) L M1 N1 (by omega) l0 l1 hi S1 ok1 (fun L' M' a0 a1 a2 a3 a4 => hN1 L' M' a2 ⟨a0, a1, a3, ?_, mFr_tr F1 a4⟩)
    have := hok s (B0 + s) (gAll f s g) ok1 (by omega) (by omega)
    have e : B0 + ((s + 1 : Nat) : Int) = B0 + s + 1 := by omega
    rw [e]; exact this
  · rintro L M1 hi ⟨l0, l1, S1, -, F1⟩
    exact hN L M1 l0 l1 S1 F1
theorem mo_stair {L0 : jLo} {M g : jMm} {t s B : Int} {N : jLo → jMm → Prop} {R : Int → jMm → Prop} (S : moS M g) (ok : gOK (t + 1) B g) (hB : B ≤ 90000) (l0 : L0 0 = 114) (l1 : L0 1 = t) (l2 : L0 2 = s) (s0 : 0 ≤ s) (s1 : s < g 114 1) (t0 : 0 ≤ t) (t1 : t ≤ 99) (hN : ∀ L' M', L' 0 = 114 → L' 1 = t → L' 2 = s → moS M' (gStair t s g) → mFr M M' → N L' M') : tIf (kZ (fun x y => x ≠ y) (xCall f_X7_goes (xsC (xV 0) (xsC (xV 2) (xsN))))) (tSeq (tSet 3 (xC 1)) (tSeq (tSeq (tSet 4 (xC 0)) (tWh (kAnd (kR (fun x y => x < y) (xV 4) (xAl (xGr (xV 0) 14) (xV 2))) (kZ (fun x y => x ≠ y) (xV 3))) (tSeq (tSet 3 (xCall f_X7_goesOne (xsC (xV 0) (xsC (xV 2) (xsC (xV 1) (xsN)))))) (tInc 4 1)))) (tDo f_X7_walks (xsC (xV 0) (xsC (xV 2) (xsN)))))) tSkip L0 M N R := by
  have v := ok.1
  have hk := v.1.2.1
  have s3 : s < 3 := by omega
  have vs := v.2.2.1 s s0 s1
  have hgo : ∀ Q, f_X7_goes [114, s] M Q = Q (if gGoes g s then 1 else 0) M := fun Q => mo_goes S s0 s3
  refine if_pc (gGoes g s) (fun T F => ?_) (fun c => ?_) (fun c => ?_)
  · by_cases c : gGoes g s <;> simp only [kZ, xCall, xsC, xsN, xV, l0, l2, hgo, if_pos, if_neg, c] <;> simp
  · refine sq_ (st_c ?_)
    have em : (((g 122 s).toNat : Nat) : Int) = g 122 s := by omega
    have hst : gStair t s g = gWalks s (g 116 (3 * s) - 1).toNat (gGo t s (g 122 s).toNat g) := by unfold gStair; rw [if_pos c]
    rw [hst] at hN
    generalize hm : (g 122 s).toNat = m at *
    refine sq_ (sq_ (st_c ?_))
    refine wh_rule (fun k L M1 => L 0 = 114 ∧ L 1 = t ∧ L 2 = s ∧ L 4 = (m : Int) - k ∧ k ≤ m ∧ mFr M M1 ∧ ∃ h B', moS M1 h ∧ gOK (t + 1) B' h ∧ B' ≤ 90001 ∧ gSame g h ∧ ((L 3 = 1 ∧ gGo t s k h = gGo t s m g ∧ B' ≤ 90000) ∨ (L 3 = 0 ∧ h = gGo t s m g))) ?_ (k := m) ⟨l0, l1, l2, by show (0 : Int) = (m : Int) - m; omega, Nat.le_refl _, mFr_rfl, g, B, S, ok, by omega, gSame_rfl, .inl ⟨rfl, rfl, hB⟩⟩
    rintro k L M1 ⟨l0, l1, l2, l4, hk2, F1, h, B', S1, ok1, hB', sm1, hcase⟩ N' hN'
    have e122 : M1 122 s = (m : Int) := by rw [(S1.2.2.1 s s0 s3).1, (sm1.2 s).2.2.2]; omega
    have e116 : h 116 (3 * s) = g 116 (3 * s) := (sm1.2 _).2.1
    have s1' : s < h 114 1 := by rw [sm1.1 1 (by decide)]; exact s1
    have fin : h = gGo t s m g → tDo f_X7_walks (xsC (xV 0) (xsC (xV 2) (xsN))) L M1 N R := fun e => by
      show f_X7_walks [L 0, L 2] M1 _
      rw [l0, l2]
      refine mo_walks S1 ok1 s0 s1' (fun M2 S2 F2 => hN L M2 l0 l1 l2 ?_ (mFr_tr F1 F2))
      rw [e116, e] at S2
      exact S2
    simp (disch := omega) only [kAnd, kR, kZ, xV, xAl, xGr, l0, l2, l4, mrf14, mln122, ixE, e122]
    refine ⟨fun hc => ⟨fun h3 => ?_, fun h3 => ?_⟩, fun hc => ?_⟩
    · rcases hcase with ⟨q3, hg, hB2⟩ | ⟨q3, -⟩
      · obtain ⟨k', rfl⟩ : ∃ k', k = k' + 1 := ⟨k - 1, by omega⟩
        have hc5 := ok1.2.2.2.2
        have hg2 : (if gJam h s then jwr h 114 32 (h 114 32 + 1) else gGo t s k' (gMove t s h)) = gGo t s m g := hg
        refine sq_ ?_
        show f_X7_goesOne [L 0, L 2, L 1] M1 _
        rw [l0, l1, l2]
        have i4 : ir (L 4 + 1) := ⟨by omega, by omega⟩
        refine mo_goesOne S1 ok1.1 ok1.2.1 s0 s1' (by omega) (by omega) (fun cj M2 S2 F2 => ?_) (fun cj M2 S2 F2 => ?_)
        · rw [if_pos cj] at hg2
          refine ⟨i4, hN' k' _ M2 (by omega) ⟨l0, l1, l2, ?_, by omega, mFr_tr F1 F2, _, B' + 1, S2, ok_jam ok1, by omega, gSame_tr sm1 (same_wr (.inr ⟨rfl, by decide⟩)), .inr ⟨rfl, hg2⟩⟩⟩
          show (if (4 : Nat) = 4 then L 4 + 1 else _) = _
          rw [if_pos rfl]; omega
        · rw [if_neg cj] at hg2
          refine ⟨i4, hN' k' _ M2 (by omega) ⟨l0, l1, l2, ?_, by omega, mFr_tr F1 F2, _, B', S2, ok_move ok1 s0 s1' t0 t1 cj, by omega, gSame_tr sm1 same_move, .inl ⟨rfl, hg2, hB2⟩⟩⟩
          show (if (4 : Nat) = 4 then L 4 + 1 else _) = _
          rw [if_pos rfl]; omega
      · exact absurd q3 h3
    · rcases hcase with ⟨q3, -⟩ | ⟨-, hg⟩
      · rw [q3] at h3; exact absurd (by decide) h3
      · exact fin hg
    · rcases hcase with ⟨-, hg, -⟩ | ⟨-, hg⟩
      · have : k = 0 := by omega
        subst this
        exact fin hg
      · exact fin hg
  · refine hN L0 M l0 l1 l2 ?_ mFr_rfl
    have : gStair t s g = g := by unfold gStair; rw [if_neg c]
    rw [this]; exact S
theorem mo_runs {M P : jMm} {r wo c : Int} {w ways paces : Int → Int} {Q : Int → jMm → Prop} (hP : mPl M P r wo ways paces) (pl : gPl P) (hc : M 114 15 = c) (hw : ∀ s, 0 ≤ s → s < 3 → M 121 s = w s ∧ 0 ≤ w s ∧ w s ≤ 2) (hways : ∀ s, 0 ≤ s → s < 3 → 0 ≤ ways s ∧ ways s ≤ 2) (hpc : ∀ s, 0 ≤ s → s < P 114 1 → 1 ≤ paces s ∧ paces s ≤ 2) (hr : r = 0 ∨ r = 1)
    (hq : ∀ M', moS M' (gEnd (gRun c w (gBegin P r wo ways paces) 100)) → (∀ t : Nat, t < 100 → noS M' (gRun c w (gBegin P r wo ways paces) (t + 1)) t) → rFr M M' → Q 0 M') : f_X7_runs [114] M Q := by
  unfold f_X7_runs
  have ok0 := ok_begin (P := P) (rule := r) (without := wo) (ways := ways) (paces := paces) pl hr hways hpc
  have hw' : ∀ s, 0 ≤ s → s < 3 → 0 ≤ w s ∧ w s ≤ 2 := fun s h0 h1 => (hw s h0 h1).2
  have okr := fun m hm => ok_run (c := c) hw' ok0 m hm
  refine mt_ (sq_ ?_)
  show f_X7_begins [114] M _
  refine mo_begins hP (by rw [hP.1.2]; exact pl.1.2.2.2) (fun M1 S1 F1 => ?_)
  generalize hg0 : gBegin P r wo ways paces = g0 at *
  refine sq_cut (fun L M2 => L 0 = 114 ∧ moS M2 (gRun c w g0 100) ∧ (∀ t : Nat, t < 100 → noS M2 (gRun c w g0 (t + 1)) t) ∧ rFr M M2) (fun N1 hN1 => ?_) ?_
  · refine sq_ (st_c ?_)
    refine up0 100 (fun t L M2 => L 0 = 114 ∧ moS M2 (gRun c w g0 t) ∧ (∀ t' : Nat, t' < t → noS M2 (gRun c w g0 (t' + 1)) t') ∧ rFr M M2) rfl (by decide) ⟨rfl, S1, fun t' h => absurd h (Nat.not_lt_zero _), rFr_m F1⟩ (fun _ _ _ _ _ h => h) ?_ (fun L M2 _ h => hN1 L M2 h)
    rintro t L M2 N2 ht hi ⟨l0, S2, no2, F2⟩ hN2
    have ok := okr t (by omega)
    generalize hh : gRun c w g0 t = h at *
    have t0 : (0 : Int) ≤ t := by omega
    have t1 : (t : Int) ≤ 99 := by omega
    have ok1 := ok_arr ok t0
    have ok2 := ok_chgs (c := c) (w := w) hw' ok1 t0 t1
    have ok3 := ok_stairs ok2 t0 t1
    have ok4 := ok_leave ok3 t0 t1
    have ok5 := ok_boards ok4 t0 t1
    have ok6 := ok_loads ok5
    refine sq_ (mo_arr S2 ok.1 l0 hi (fun L3 M3 a0 a1 S3 F3 => ?_))
    refine sq_cut (fun L4 M4 => L4 0 = 114 ∧ L4 1 = (t : Int) ∧ moS M4 (gChgs c w t (gArr t h)) ∧ mFr M2 M4) (fun N4 hN4 => ?_) ?_
    · have e15 : M3 114 15 = c := by rw [F3 _ _ (by unfold mDyn; omega), F2 _ _ (by omega)]; exact hc
      unfold gChgs at hN4
      refine if_pc (c = (t : Int) ∧ (t : Int) > 0) (fun T F => propext ?_) (fun q => ?_) (fun q => ?_)
      · by_cases q1 : c = (t : Int) <;> by_cases q2 : (t : Int) > 0 <;> simp only [kAnd, kR, kZ, xGf, xV, a0, a1, e15, q1, q2] <;> simp
      · rw [if_pos q] at hN4
        show f_X7_changes [L3 0, L3 1] M3 _
        rw [a0, a1]
        refine mo_changes S3 ok1 t0 t1 (fun s s0 s3 => ?_) (fun M4 S4 F4 => hN4 L3 M4 ⟨a0, a1, S4, mFr_tr F3 F4⟩)
        rw [F3 _ _ (by unfold mDyn; omega), F2 _ _ (by omega)]; exact hw s s0 s3
      · rw [if_neg q] at hN4
        exact hN4 L3 M3 ⟨a0, a1, S3, F3⟩
    rintro L4 M4 ⟨a0, a1, S4, F4⟩
    refine sq_ (mo_all (f := gStair t) (T := (t : Int) + 1) S4 ok2 a0 a1 (fun _ _ => same_stair) (fun s B h o s0 s1 => ok_stair o s0 s1 t0 t1) (fun s h L M N1 hs b0 b1 b2 S o hN => mo_stair S o (by have := ok2.1.1.2.1; have := o.1.1.2.1; omega) b0 b1 b2 (by omega) hs t0 t1 hN) (fun L5 M5 a0 a1 S5 F5 => ?_))
    refine sq_ ?_
    show f_X7_leaves [L5 0, L5 1] M5 _
    rw [a0, a1]
    refine mo_leaves (g := gStairs t (gChgs c w t (gArr t h))) S5 ok3 t0 t1 (fun M6 S6 F6 => ?_)
    refine sq_ (mo_all (f := gBoard t) (T := (t : Int) + 1) S6 ok4 a0 a1 (fun _ _ => same_board) (fun s B h o s0 s1 => ok_mono (ok_board o s0 s1 t0 t1) (by omega)) (fun s h L M N1 hs b0 b1 b2 S o hN => ?_) (fun L7 M7 a0 a1 S7 F7 => ?_))
    · have hk := o.1.1.2.1
      have hgo : ∀ Q, f_X7_goes [114, (s : Int)] M Q = Q (if gGoes h s then 1 else 0) M := fun Q => mo_goes S (by omega) (by omega)
      refine if_pc (gGoes h s) (fun T F => ?_) (fun q => ?_) (fun q => ?_)
      · by_cases q : gGoes h s <;> simp only [kZ, xCall, xsC, xsN, xV, b0, b2, hgo, if_pos, if_neg, q] <;> simp
      · show f_X7_stepsOn [L 0, L 2, L 1] M _
        rw [b0, b1, b2]
        refine mo_stepsOn S o (by omega) hs q t0 t1 (fun M' S' F' => hN L M' b0 b1 b2 ?_ F')
        have : gBoard t s h = gBd t s 1 (gBd t s 0 h) := by unfold gBoard; rw [if_pos q]
        rw [this]; exact S'
      · refine hN L M b0 b1 b2 ?_ mFr_rfl
        have : gBoard t s h = h := by unfold gBoard; rw [if_neg q]
        rw [this]; exact S
    refine sq_ (mo_all (f := gLoad) (T := (t : Int) + 1) (g := gBoards t (gLeave t (gStairs t (gChgs c w t (gArr t h))))) S7 ok5 a0 a1 (fun _ _ => same_load) (fun s B h o s0 s1 => ok_load o s0 s1) (fun s h L M N1 hs b0 b1 b2 S o hN => ?_) (fun L8 M8 a0 a1 S8 F8 => ?_))
    · have hk := o.1.1.2.1
      show f_X7_loads [L 0, L 2] M _
      rw [b0, b2]
      exact mo_loads S o (by omega) (by omega) hs (fun M' S' F' => hN L M' b0 b1 b2 S' F')
    show f_X7_notes [L8 0, L8 1] M8 _
    rw [a0, a1]
    have eT : gRun c w g0 (t + 1) = gAll gLoad (gK (gBoards t (gLeave t (gStairs t (gChgs c w t (gArr t h)))))) (gBoards t (gLeave t (gStairs t (gChgs c w t (gArr t h))))) := by
      show gTick c w t (gRun c w g0 t) = _
      rw [hh]; rfl
    have FF : mFr M2 M8 := mFr_tr (mFr_tr (mFr_tr (mFr_tr F4 F5) F6) F7) F8
    refine mo_notes S8 ok6 t0 t1 (fun M9 F9 no9 => hN2 L8 M9 a1 ⟨a0, ?_, ?_, rFr_tr F2 (rFr_tr (rFr_m FF) (rFr_n F9))⟩)
    · rw [eT]; exact moS_fr S8 F9.1
    · intro t' ht'
      by_cases e : t' = t
      · subst e
        rw [eT]; exact no9
      · obtain ⟨n1, n2, n3⟩ := no2 t' (by omega)
        have z : ∀ a b, 136 ≤ a → a ≤ 138 → M8 a b = M2 a b := fun a b h1 h2 => FF a b (by unfold mDyn; omega)
        refine ⟨fun k k0 k4 => ?_, ?_, fun s x y h1 h2 h3 h4 h5 h6 => ?_⟩
        · rw [F9.2.1 _ (by omega), z _ _ (by decide) (by decide)]; exact n1 k k0 k4
        · rw [F9.2.2.1 _ (by omega), z _ _ (by decide) (by decide)]; exact n2
        · rw [F9.2.2.2 _ (by omega), z _ _ (by decide) (by decide)]; exact n3 s x y h1 h2 h3 h4 h5 h6
  rintro L2 M2 ⟨l0, S2, no2, F2⟩
  have okE := okr 100 (by decide)
  generalize hh : gRun c w g0 100 = h at *
  have v := okE.1
  have hn0 := v.1.2.2.1
  have hn := v.1.2.2.2.1
  have en := gN_eq hn0
  refine sq_ (sq_ (st_c ?_))
  have mst : ∀ a b, 133 < a → gEnd h a b = h a b := fun a b ha => by
    have a1 : ¬ a = 133 := by omega
    simp [gEnd, a1]
  refine up0 (gN h) (fun j L M3 => L 0 = 114 ∧ moS M3 (upto j (gEnd h) h) ∧ mFr M2 M3) rfl (by omega) ⟨l0, ?_, mFr_rfl⟩ ?_ ?_ ?_
  · rw [show ((0 : Nat) : Int) = 0 from rfl, upto_0 (fun a b hb => by have : ¬ 0 ≤ b := by omega
                                                                      simp [gEnd, this])]
    exact S2
  · rintro j L M3 Q ⟨l0, S3, -⟩ hq
    show Q (M3 (L 0) 5) M3
    rw [l0, moS_n S3, ← en]; exact hq
  · rintro j L M3 N3 hj hi ⟨l0, S3, F3⟩ hN3
    have hp' : (j : Int) < h 114 5 := by omega
    have P := moP_up (moS_get S3 (Int.natCast_nonneg j) (by rw [upto_lo (by decide)]; exact hp'))
    have e117 : M3 117 (3 * j) = h 117 (3 * j) := by rw [(S3.2.1 _).2.2, upto_lo (by decide)]
    have e1 : M3 123 j = h 123 j := P.1
    have e33 : M3 133 j = h 133 j := P.2.2.2.2.2.1
    have v1 := v.2.1 j (by omega) hp'
    have i1 : ir (3 * (j : Int)) := ⟨by omega, by omega⟩
    have i2 : ir (100 - h 117 (3 * j)) := ⟨by omega, by omega⟩
    have i3 : 0 ≤ 3 * (j : Int) ∧ 3 * (j : Int) < 42 := by omega
    have i4 : 0 ≤ (j : Int) ∧ (j : Int) < 14 := by omega
    have i0 : (0 : Int) ≤ j := by omega
    have key : ∀ v, v = gEnd h 133 j → N3 L (jwr M3 133 j v) := fun v hv => hN3 _ _ hi ⟨l0, by
      have := moS_up (j : Int) S3 mst (M' := jwr M3 133 j v) (fun a b hab => by unfold jwr; rw [if_neg (by omega)]) (by
        have eG : ∀ a, a ≠ 133 → gEnd h a j = h a j := fun a ha => by simp [gEnd, ha]
        have eM : ∀ a, a ≠ 133 → jwr M3 133 j v a j = M3 a j := fun a ha => by simp [jwr, ha]
        unfold moP at P ⊢
        rw [eG 123 (by decide), eG 124 (by decide), eG 125 (by decide), eG 126 (by decide), eG 127 (by decide), eG 128 (by decide), eG 129 (by decide), eG 130 (by decide), eG 131 (by decide), eG 132 (by decide), eM 123 (by decide), eM 124 (by decide), eM 125 (by decide), eM 126 (by decide), eM 127 (by decide), eM 128 (by decide), eM 129 (by decide), eM 130 (by decide), eM 131 (by decide), eM 132 (by decide), ← hv]
        exact ⟨P.1, P.2.1, P.2.2.1, P.2.2.2.1, P.2.2.2.2.1, by simp [jwr], P.2.2.2.2.2.2⟩)
      rwa [show ((j + 1 : Nat) : Int) = (j : Int) + 1 by omega], mFr_wr F3 (.inl ⟨by decide, by decide⟩)⟩
    by_cases q : h 123 j = 1
    · have k2 := key (100 - h 117 (3 * j)) (by simp [gEnd, i0, hp', q])
      simp only [tAst, xTern, kR, xV, xC, xGr, xAl, xBin, boSub, boMul, l0, hi, mrf6, mrf18, mrf28, mln117, mln123, mln133, e117, e1]
      simp only [i1, i2, i3, i4, q, true_and]
      simpa using k2
    · have k2 := key (h 133 j) (by simp [gEnd, q])
      simp only [tAst, xTern, kR, xV, xC, xGr, xAl, xBin, boSub, boMul, l0, hi, mrf6, mrf18, mrf28, mln117, mln123, mln133, e117, e1, e33]
      simp only [i1, i2, i3, i4, q, true_and]
      simpa using k2
  · rintro L M3 hi ⟨l0, S3, F3⟩
    rw [en, upto_n (fun a b hb => by
      rcases hb with hb | hb
      · have : ¬ b < h 114 5 := by omega
        simp [gEnd, this]
      · have a1 : ¬ a = 133 := by omega
        simp [gEnd, a1])] at S3
    refine hq _ S3 (fun t ht => ?_) (rFr_tr F2 (rFr_m F3))
    obtain ⟨n1, n2, n3⟩ := no2 t ht
    have z : ∀ a b, 136 ≤ a → a ≤ 138 → M3 a b = M2 a b := fun a b h1 h2 => F3 a b (by unfold mDyn; omega)
    refine ⟨fun k k0 k4 => ?_, ?_, fun s x y h1 h2 h3 h4 h5 h6 => ?_⟩
    · rw [z _ _ (by decide) (by decide)]; exact n1 k k0 k4
    · rw [z _ _ (by decide) (by decide)]; exact n2
    · rw [z _ _ (by decide) (by decide)]; exact n3 s x y h1 h2 h3 h4 h5 h6
