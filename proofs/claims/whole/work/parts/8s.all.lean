/-! pairs: all, at, fate -/
theorem stc1 {f : jMd} {i j : Nat} {L : jLo} {M : jMm} {N : jLo → jMm → Prop} {R : Int → jMm → Prop} (h : f [L j] M (fun v M1 => N (jup L i v) M1)) : tSet i (xCall f (xsC (xV j) xsN)) L M N R := h
theorem sw_ {lo : Int} {e : jEx} {ss : List jSt} {d : jSt} {v : Int} {L : jLo} {M : jMm} {N : jLo → jMm → Prop} {R : Int → jMm → Prop} (he : ∀ Q : Int → jMm → Prop, e L M Q = Q v M) (h : tSwS lo ss d v L M N R) : tSw lo e ss d L M N R := by
  show e L M _
  rw [he]; exact h
theorem swY {lo : Int} {s : jSt} {ss : List jSt} {d : jSt} {v : Int} {L : jLo} {M : jMm} {N : jLo → jMm → Prop} {R : Int → jMm → Prop} (h : v = lo) (k : s L M N R) : tSwS lo (s :: ss) d v L M N R := ⟨fun _ => k, fun n => absurd h n⟩
theorem swN {lo : Int} {s : jSt} {ss : List jSt} {d : jSt} {v : Int} {L : jLo} {M : jMm} {N : jLo → jMm → Prop} {R : Int → jMm → Prop} (h : ¬ v = lo) (k : tSwS (lo + 1) ss d v L M N R) : tSwS lo (s :: ss) d v L M N R := ⟨fun z => absurd z h, fun _ => k⟩
theorem swE {lo : Int} {d : jSt} {v : Int} {L : jLo} {M : jMm} {N : jLo → jMm → Prop} {R : Int → jMm → Prop} (k : d L M N R) : tSwS lo [] d v L M N R := k
theorem rc1 {f : jMd} {j : Nat} {L : jLo} {M : jMm} {N : jLo → jMm → Prop} {R : Int → jMm → Prop} (h : f [L j] M R) : tRet (xCall f (xsC (xV j) xsN)) L M N R := h
theorem rc2 {f : jMd} {j : Nat} {c : Int} {L : jLo} {M : jMm} {N : jLo → jMm → Prop} {R : Int → jMm → Prop} (h : f [L j, c] M R) : tRet (xCall f (xsC (xV j) (xsC (xC c) xsN))) L M N R := h
theorem mo_days {L : jLo} {M : jMm} {N : jLo → jMm → Prop} {R : Int → jMm → Prop} {rest : jSt} (l0 : L 0 = 114) (pl : iPl M) (h : ∀ M', moS M' (gEnd (gDay M)) → (∀ t : Nat, t < 100 → noS M' (gRun (M 114 3) (tw M) (gT M) (t + 1)) t) → iFr M M' → rest L M' N R) : tSeq (tDo f_X7_asTold (xsC (xV 0) xsN)) (tSeq (tDo f_X7_runs (xsC (xV 0) xsN)) rest) L M N R := by
  have k := mo_day (Q := fun _ M' => rest L M' N R) pl h
  rw [← l0] at k
  exact k
def gAns (w : Int) (g : jMm) : Int := if w = 0 then gSum 100 g else if w = 1 then g 114 34 else if w = 2 then g 114 32 else if w = 3 then g 114 33 else if w = 4 then gOr (g 200) (gN g) else if w = 5 then gThr g 99 else gLa g (gN g)
theorem ok_day {M : jMm} (pl : iPl M) : gOK 100 1200 (gDay M) := ok_run (c := M 114 3) (iPl_G pl).2 (iPl_G pl).1 100 (by decide)
theorem gN_end {g : jMm} : gN (gEnd g) = gN g := by unfold gN; rw [gEnd_lo (by decide)]
theorem day33 {g : jMm} {T B : Int} (ok : gOK T B g) (hT : T ≤ 100) : ∀ p, 0 ≤ p → p < gEnd g 114 5 → 0 ≤ gEnd g 133 p ∧ gEnd g 133 p ≤ 1000 := fun p p0 p1 => by
  rw [gEnd_lo (by decide)] at p1
  have gp := ok.2.1 p p0 p1
  have bp := ok.1.2.1 p p0 p1
  obtain ⟨h1, h2, h3, h4, -⟩ := gp
  unfold gEnd
  split
  · omega
  · by_cases c : g 123 p < 2
    · have := h3 c; omega
    · have := h4 (by omega); omega
theorem qa_all {w : Int} {M : jMm} {Q : Int → jMm → Prop} (pl : iPl M) (c : ¬ bt 0 w 6 = 0) (hq : ∀ M', iFr M M' → Q (gAns w (gDay M)) M') : f_X7_all [114, w] M Q := by
  unfold f_X7_all
  obtain ⟨w0, w6⟩ := bt_0 c
  have ok := ok_day pl
  have hn0 := ok.1.1.2.2.1
  have hn := ok.1.1.2.2.2.1
  refine mt_ (sq_ (if_pc False (fun T F => propext ?_) (fun c => c.elim) (fun _ => ?_)))
  · simp [kNot, kZ, xCall, xsC, xsN, xUn, xV, xC, jIn, q_X7_in, c]
  · refine sk_ (mo_days rfl pl (fun M1 S no F => ?_))
    have q := hq M1 F
    obtain ⟨-, -, -, -, s31, s32, s33, s34⟩ := id S
    have a5 : gEnd (gDay M) 114 5 = gDay M 114 5 := gEnd_lo (by decide)
    have a31 : gEnd (gDay M) 200 = gDay M 200 := funext fun b => gEnd_lo (by decide)
    unfold gAns at q
    refine sw_ (v := w) (fun Q => rfl) ?_
    by_cases c0 : w = 0
    · rw [if_pos c0] at q
      refine swY c0 (rc1 ?_)
      show f_X7_waits [114] M1 Q
      rw [mo_waits S (by rw [a5]; exact hn0) (by rw [a5]; exact hn) (day33 ok (by decide)), gTot_end hn0]; exact q
    · rw [if_neg c0] at q
      refine swN c0 ?_
      by_cases c1 : w = 1
      · rw [if_pos c1] at q
        refine swY c1 (rt_ ?_)
        show Q (M1 114 34) M1
        rw [s34, gEnd_lo (by decide)]; exact q
      · rw [if_neg c1] at q
        refine swN c1 ?_
        by_cases c2 : w = 2
        · rw [if_pos c2] at q
          refine swY c2 (rt_ ?_)
          show Q (M1 114 32) M1
          rw [s32, gEnd_lo (by decide)]; exact q
        · rw [if_neg c2] at q
          refine swN c2 ?_
          by_cases c3 : w = 3
          · rw [if_pos c3] at q
            refine swY c3 (rt_ ?_)
            show Q (M1 114 33) M1
            rw [s33, gEnd_lo (by decide)]; exact q
          · rw [if_neg c3] at q
            refine swN c3 ?_
            by_cases c4 : w = 4
            · rw [if_pos c4] at q
              refine swY c4 (rt_ ?_)
              show Q (M1 114 31) M1
              rw [S.2.2.2.2.1, gN_end, a31]; exact q
            · rw [if_neg c4] at q
              refine swN c4 ?_
              by_cases c5 : w = 5
              · rw [if_pos c5] at q
                refine swY c5 (rc2 ?_)
                show f_X7_throughBy [114, 100] M1 Q
                rw [mo_throughBy S (by rw [a5]; exact hn0) (by rw [a5]; exact hn), gThr_end, gThr_100 ok]; exact q
              · rw [if_neg c5] at q
                refine swN c5 (swE (rc1 ?_))
                show f_X7_last [114] M1 Q
                rw [mo_last S (by rw [a5]; exact hn0) (by rw [a5]; exact hn), gLa_end, gN_end]; exact q
theorem y_all {w : Int} : yPair Inv f_X6_all f_X7_all [w] := by
  intro M Q I hq
  unfold f_X6_all
  refine mt_ (sq_ (if_pc (bt 0 w 6 = 0) (fun T F => propext ?_) (fun c => ?_) (fun c => ?_)))
  · by_cases c : bt 0 w 6 = 0 <;> simp [kNot, kZ, xCall, xsC, xsN, xV, xC, jIn, q_X6_isBetween, c]
  · show f_X7_all [114, w] M _
    unfold f_X7_all
    refine mt_ (sq_ (if_pc True (fun T F => propext ?_) (fun _ => hq _ _ I) (fun c => absurd trivial c)))
    simp [kNot, kZ, xCall, xsC, xsN, xUn, xV, xC, jIn, q_X7_in, c]
  · refine sk_ (sq_ (stc1 (pd_toldDay I (fun M1 I1 Z F => ?_))))
    have g := gT_eq (P := M) (P' := M1) (fun b _ => F _ _ (by decide) (by omega)) (fun b => ⟨F _ _ (by decide) (by omega), F _ _ (by decide) (by omega), F _ _ (by decide) (by omega)⟩)
    have gd : gDay M1 = gDay M := by unfold gDay; rw [g.1, g.2.1, F 114 3 (by decide) (by decide)]
    have fin : ∀ v, v = gAns w (gDay M) → f_X7_all [114, w] M1 (fun b M2 => Q v b M2) := fun v hv => qa_all I1.1.1 c (fun M2 F2 => by
      rw [gd, hv]; exact hq _ _ (Inv_fr I1 F2))
    obtain ⟨S, -, h12, -⟩ := Z
    have ok := ok_day I.1.1
    have hd : isDay 28 := .inl rfl
    obtain ⟨-, -, -, d13, d14, d15, -⟩ := S.1.1
    generalize f_X7_all = X7 at *
    unfold gAns at fin
    refine sw_ (v := w) (fun Q => rfl) ?_
    by_cases c0 : w = 0
    · simp only [if_pos c0] at fin
      exact swY c0 (rt_ (fin _ h12))
    · simp only [if_neg c0] at fin
      refine swN c0 ?_
      by_cases c1 : w = 1
      · simp only [if_pos c1] at fin
        exact swY c1 (rt_ (fin _ d13))
      · simp only [if_neg c1] at fin
        refine swN c1 ?_
        by_cases c2 : w = 2
        · simp only [if_pos c2] at fin
          exact swY c2 (rt_ (fin _ d14))
        · simp only [if_neg c2] at fin
          refine swN c2 ?_
          by_cases c3 : w = 3
          · simp only [if_pos c3] at fin
            exact swY c3 (rt_ (fin _ d15))
          · simp only [if_neg c3] at fin
            refine swN c3 ?_
            by_cases c4 : w = 4
            · simp only [if_pos c4] at fin
              refine swY c4 (rc1 ?_)
              show f_X0_setOfFallen [28] M1 _
              rw [pd_setOfFallen hd S ok]
              exact fin _ rfl
            · simp only [if_neg c4] at fin
              refine swN c4 ?_
              by_cases c5 : w = 5
              · simp only [if_pos c5] at fin
                refine swY c5 (rc2 ?_)
                show f_X0_countThrough [28, 99] M1 _
                rw [pd_countThrough hd S ok]
                exact fin _ rfl
              · simp only [if_neg c5] at fin
                refine swN c5 (swE (rc1 ?_))
                show f_X0_lastThrough [28] M1 _
                rw [pd_lastThrough hd S ok]
                exact fin _ rfl
