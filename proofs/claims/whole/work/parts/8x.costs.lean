/-! pairs: costs, rules -/
def toldAs (M M' : jMm) : Prop := M' 114 15 = M 114 3 ∧ M' 114 16 = M 115 0 ∧ M' 114 17 = -4 ∧ ∀ s, 0 ≤ s → s < 3 → M' 120 s = M 116 (3 * s + 1) ∧ M' 121 s = tw M s ∧ M' 122 s = M 116 (3 * s + 2)
theorem mo_daysT {L : jLo} {M : jMm} {N : jLo → jMm → Prop} {R : Int → jMm → Prop} {rest : jSt} (l0 : L 0 = 114) (pl : iPl M) (h : ∀ M', moS M' (gEnd (gDay M)) → iFr M M' → toldAs M M' → rest L M' N R) : tSeq (tDo f_X7_asTold (xsC (xV 0) xsN)) (tSeq (tDo f_X7_runs (xsC (xV 0) xsN)) rest) L M N R := by
  refine sq_ (do1 ?_)
  rw [l0]
  refine mo_asTold pl (fun M1 F hs h15 h16 h17 => ?_)
  refine sq_ (do1 ?_)
  rw [l0]
  have F1 : iFr M M1 := fun a b n => F a b (by unfold scr at n; omega) (by unfold scr at n; omega)
  have G := iPl_G pl
  refine mo_would (c := M 114 3) (r := M 115 0) (wo := -4) (w := tw M) (ways := fun s => M 116 (3 * s + 1)) (paces := fun s => M 116 (3 * s + 2)) pl F1 h15 h16 h17 hs G pl.2.2.2.1 (fun s s0 s3 => pl.2.1 s s0 s3) (fun s s0 s1 => pl.2.2.1 s s0 s1) (fun M2 S F2 R2 => ?_)
  refine h M2 S F2 ⟨?_, ?_, ?_, fun s s0 s3 => ?_⟩
  · rw [R2 _ _ (by omega)]; exact h15
  · rw [R2 _ _ (by omega)]; exact h16
  · rw [R2 _ _ (by omega)]; exact h17
  · rw [R2 _ _ (by omega), R2 _ _ (by omega), R2 _ _ (by omega)]; exact hs s s0 s3
/-- the waits of the day as told but by a rule, or with one away -/
def gWr (M : jMm) (r wo : Int) : Int := gW (M 114 3) (tw M) (gBegin M r wo (fun s => M 116 (3 * s + 1)) (fun s => M 116 (3 * s + 2)))
theorem good_r {M : jMm} {r wo : Int} (pl : iPl M) (hr : r = 0 ∨ r = 1) : gGd (tw M) (gBegin M r wo (fun s => M 116 (3 * s + 1)) (fun s => M 116 (3 * s + 2))) := good pl hr (iPl_G pl).2 (fun s s0 s3 => pl.2.1 s s0 s3) (fun s s0 s1 => pl.2.2.1 s s0 s1)
theorem gWr_eq {M M' : jMm} {r wo : Int} (e : ∀ b, (b = 1 ∨ b = 3 ∨ b = 4 ∨ b = 5) → M' 114 b = M 114 b) (es : ∀ b, M' 115 b = M 115 b ∧ M' 116 b = M 116 b ∧ M' 117 b = M 117 b) : gWr M' r wo = gWr M r wo := by
  unfold gWr
  rw [(gT_eq e es).2.1, e 3 (by decide), begin_eq (e 1 (by decide)) (e 5 (by decide)) es (by funext s; exact (es _).2.1) (by funext s; exact (es _).2.1)]
theorem mo_wr {M M1 : jMm} {r wo : Int} {Q : Int → jMm → Prop} (pl : iPl M) (F : iFr M M1) (T : M1 114 15 = M 114 3 ∧ M1 114 16 = r ∧ M1 114 17 = wo ∧ ∀ s, 0 ≤ s → s < 3 → M1 120 s = M 116 (3 * s + 1) ∧ M1 121 s = tw M s ∧ M1 122 s = M 116 (3 * s + 2)) (hr : r = 0 ∨ r = 1) (hq : ∀ M', (∀ Q1 : Int → jMm → Prop, f_X7_waits [114] M' Q1 = Q1 (gWr M r wo) M') → iFr M M' → rFr M1 M' → Q 0 M') : f_X7_runs [114] M1 Q := by
  have G := good_r (wo := wo) pl hr
  refine mo_would (c := M 114 3) (r := r) (wo := wo) (w := tw M) (ways := fun s => M 116 (3 * s + 1)) (paces := fun s => M 116 (3 * s + 2)) pl F T.1 T.2.1 T.2.2.1 T.2.2.2 G hr (fun s s0 s3 => pl.2.1 s s0 s3) (fun s s0 s1 => pl.2.2.1 s s0 s1) (fun M2 S F2 R2 => hq M2 (fun Q1 => mo_sumw G S) F2 R2)
theorem qa_costs {p : Int} {M : jMm} {Q : Int → jMm → Prop} (pl : iPl M) (c : ¬ bt 0 p (M 114 5 - 1) = 0) (hq : ∀ M', iFr M M' → Q (gSum 100 (gDay M) - gEnd (gDay M) 133 p - gWr M (M 115 0) p) M') : f_X7_costs [114, p] M Q := by
  unfold f_X7_costs
  obtain ⟨p0, p1⟩ := bt_0 c
  have n14 := pl.1.1.2.2.2
  have n0 := pl.1.1.2.2.1
  have p14 : p < 14 := by omega
  have i1 : ir (M 114 5 - 1) := ⟨by omega, by omega⟩
  have ok := ok_day pl
  have sb := sum_b ok
  have pn : p < gEnd (gDay M) 114 5 := by rw [gEnd_lo (by decide), day_n.1]; omega
  have eb := day33 ok (by decide) p p0 pn
  have G := good_r (wo := p) pl pl.2.2.2.1
  have wb : 0 ≤ gWr M (M 115 0) p ∧ gWr M (M 115 0) p ≤ 1400 := gW_b G
  refine mt_ (sq_ (if_pc (bt 0 p (M 114 5 - 1) = 0) (nz_pc (c2 (fun Q => rfl) (fun Q => rfl) (fun Q => ?_))) (fun z => absurd z c) (fun _ => ?_)))
  · show f_X7_isOne [114, p] M Q = _
    rw [q_X7_isOne]; exact propext ⟨fun h => h.2, fun h => ⟨i1, h⟩⟩
  · refine sk_ (mo_daysT rfl pl (fun M1 S F T => ?_))
    have e33 := (moS_get S p0 pn).2.2.2.2.2.1
    have i2 : ir (gSum 100 (gDay M) - gEnd (gDay M) 133 p) := ⟨by omega, by omega⟩
    refine sq_ (st_v (v := gSum 100 (gDay M) - gEnd (gDay M) 133 p) (fun Q => ?_) ?_)
    · have w := fun Q : Int → jMm → Prop => mo_sumw (Q := Q) (M' := M1) (c := M 114 3) (iPl_G pl) S
      show f_X7_waits [114] M1 (fun x M2 => (0 ≤ p ∧ p < s_len (s_rf 114 28)) ∧ (ir (x - M2 (s_rf 114 28) p) ∧ Q (x - M2 (s_rf 114 28) p) M2)) = _
      rw [w, mrf28, mln133, e33]
      exact propext ⟨fun h => h.2.2, fun h => ⟨⟨p0, p14⟩, i2, h⟩⟩
    · refine sq_ (pu (k := 114) (v := p) (fun Q => rfl) (fun Q => rfl) ?_)
      refine sq_ (do1 ?_)
      have F2 : iFr M (jwr M1 114 17 p) := iFr_wr F (by unfold scr; omega)
      refine mo_wr (r := M 115 0) (wo := p) pl F2 ⟨?_, ?_, jw1 ⟨rfl, rfl⟩, fun s s0 s3 => ?_⟩ pl.2.2.2.1 (fun M3 W F3 _ => ?_)
      · rw [jw0 (by decide)]; exact T.1
      · rw [jw0 (by decide)]; exact T.2.1
      · rw [jw0 (.inl (by decide)), jw0 (.inl (by decide)), jw0 (.inl (by decide))]; exact T.2.2.2 s s0 s3
      · have q := hq M3 F3
        have i3 : ir (gSum 100 (gDay M) - gEnd (gDay M) 133 p - gWr M (M 115 0) p) := ⟨by omega, by omega⟩
        generalize hA : gSum 100 (gDay M) - gEnd (gDay M) 133 p = A at *
        refine rt_ ?_
        show f_X7_waits [114] M3 (fun x M4 => ir (A - x) ∧ Q (A - x) M4)
        rw [W]
        exact ⟨i3, q⟩
theorem pd_cw {p : Int} {M M1 : jMm} {Q : Int → jMm → Prop} (pl : iPl M) (S : pdS 28 M1 (gDay M)) (p0 : 0 ≤ p) (p1 : p < M 114 5) : f_X3_countWait [28 + 6 + p] M1 Q = Q (gEnd (gDay M) 133 p) M1 := by
  have ok := ok_day pl
  have pn : p < gDay M 114 5 := by rw [day_n.1]; omega
  obtain ⟨x0, -, -, -, -, x5, x6, -, x9, x10⟩ := S.1.2.2 p p0 pn
  obtain ⟨⟨b1, b2, b3, b4, b5⟩, hA, hB, hC, -, -, hE, hE'⟩ := ok.2.1 p p0 pn
  have h17 := (day_n (M := M)).2.1
  have bp := ok.1.2.1 p p0 pn
  generalize hG : gDay M = G at *
  have k1 : ¬ G 123 p = 0 := fun z => by have := hA.mp z; omega
  have g130 : -4 ≤ G 130 p ∧ G 130 p ≤ 99 := by
    by_cases k2 : G 123 p < 2
    · have := hB k2; omega
    · have := hC (by omega); omega
  rw [pd_countWait (by rw [x0]; exact ⟨by omega, by omega⟩) (by rw [x0, x6]; exact ⟨by omega, by omega⟩), x0, x6]
  have : (if G 130 p < 0 then 100 - G 117 (3 * p) else G 130 p - G 117 (3 * p)) = gEnd G 133 p := by
    unfold gEnd
    by_cases k2 : G 123 p = 1
    · have := hB (by omega)
      rw [if_pos (by omega), if_pos ⟨rfl, p0, pn, k2⟩]
    · have := hC (by omega)
      rw [if_neg (by omega), if_neg (fun z => k2 z.2.2.2)]; omega
  rw [this]
/-- a trial day that would be -/
theorem pd_wr {M M1 : jMm} {r wo : Int} {Q : Int → jMm → Prop} (pl : iPl M) (B : pdB 54 M1 M r wo (fun s => M 116 (3 * s + 1)) (fun s => M 116 (3 * s + 2))) (h10 : M1 54 10 = M 114 3) (h11 : M1 54 11 = M 114 4) (hr : r = 0 ∨ r = 1) (hq : ∀ M', oFr 54 M1 M' → M' 54 12 = gWr M r wo → Q 0 M') : f_X0_runWaits [54, 0, 1000000] M1 Q := by
  have hd : isDay 54 := .inr (.inl rfl)
  have G := good_r (wo := wo) pl hr
  have Z := pdB_Z B pl.1 (c := M 114 3) (w := tw M) h10 (fun c3 => by
    rw [h11]
    refine ⟨pl.2.2.2.2.2.2.1, fun s _ _ => ?_⟩
    unfold tw
    rw [if_pos c3])
  refine pd_runWaits (a := 0) hd G Z (by decide) (fun M2 F h => hq M2 F ?_)
  have wb := gW_b (c := M 114 3) G
  unfold gWr
  omega
theorem bn_sub {a b : jEx} {x y : Int} {L : jLo} {M : jMm} (ha : ∀ Q : Int → jMm → Prop, a L M Q = Q x M) (hb : ∀ Q : Int → jMm → Prop, b L M Q = Q y M) (hi : ir (x - y)) (Q : Int → jMm → Prop) : xBin boSub a b L M Q = Q (x - y) M := by
  show a L M (fun x M => b L M (fun y M => ir (x - y) ∧ Q (x - y) M)) = _
  rw [ha, hb]
  exact propext ⟨fun h => h.2, fun h => ⟨hi, h⟩⟩
theorem y_costs {p : Int} : yPair Inv f_X6_costs f_X7_costs [p] := by
  intro M Q I hq
  obtain ⟨⟨pl, rl⟩, -⟩ := id I
  have n0 := pl.1.1.2.2.1
  have n14 := pl.1.1.2.2.2
  have r2 := rl.2.1
  have in1 : ir (M 114 5 - 1) := ⟨by omega, by omega⟩
  have hd : isDay 28 := .inl rfl
  have hd2 : isDay 54 := .inr (.inl rfl)
  unfold f_X6_costs
  refine mt_ (sq_ (if_pc (bt 0 p (M 114 5 - 1) = 0) (nz_pc (c2 (fun Q => rfl) (fun Q => rfl) (fun Q => ?_))) (fun c => ?_) (fun c => ?_)))
  · show f_X6_isPerson [0, p] M Q = _
    rw [q_X6_isPerson, r2]; exact propext ⟨fun h => h.2, fun h => ⟨in1, h⟩⟩
  · show f_X7_costs [114, p] M _
    unfold f_X7_costs
    refine mt_ (sq_ (if_pc (bt 0 p (M 114 5 - 1) = 0) (nz_pc (c2 (fun Q => rfl) (fun Q => rfl) (fun Q => ?_))) (fun _ => hq _ _ I) (fun n => absurd c n)))
    show f_X7_isOne [114, p] M Q = _
    rw [q_X7_isOne]; exact propext ⟨fun h => h.2, fun h => ⟨in1, h⟩⟩
  · obtain ⟨p0, p1⟩ := bt_0 c
    have p14 : p < 14 := by omega
    have ok := ok_day pl
    have sb := sum_b ok
    have pn : p < gEnd (gDay M) 114 5 := by rw [gEnd_lo (by decide), day_n.1]; omega
    have eb := day33 ok (by decide) p p0 pn
    have G := good_r (wo := p) pl pl.2.2.2.1
    have wb : 0 ≤ gWr M (M 115 0) p ∧ gWr M (M 115 0) p ≤ 1400 := gW_b G
    refine sk_ (sq_ (stc1 (pd_toldDay I (fun M1 I1 Z F => ?_))))
    have e12 : M1 28 12 = gSum 100 (gDay M) := Z.2.2.1
    have i2 : ir (gSum 100 (gDay M) - gEnd (gDay M) 133 p) := ⟨by omega, by omega⟩
    refine sq_ (st_v (v := gSum 100 (gDay M) - gEnd (gDay M) 133 p) (bn_sub (fun Q => ?_) (c1 (x0 := 28 + 6 + p) (fun Q => ?_) (fun Q => pd_cw pl Z.1 p0 (by omega))) i2) ?_)
    · show Q (M1 28 12) M1 = _
      rw [e12]
    · show ((0 ≤ p ∧ p < s_len (s_rf 28 0)) ∧ Q (s_rf (s_rf 28 0) p) M1) = _
      rw [drf0 hd, dln1 hd, drr hd p0 p14]
      exact propext ⟨fun h => h.2, fun h => ⟨⟨p0, p14⟩, h⟩⟩
    generalize hA : gSum 100 (gDay M) - gEnd (gDay M) 133 p = A at *
    refine sq_ (do3e (x0 := 54) (x1 := 1) (x2 := p) (fun Q => by show Q (s_rf 0 6) _ = _; rw [rf_0_6]) (fun Q => by show Q (s_rf 0 0) _ = _; rw [rf_0_0]) (fun Q => rfl) ?_)
    have pl1 := I1.1.1
    have rl1 := I1.1.2
    have ge : ∀ b, (b = 1 ∨ b = 3 ∨ b = 4 ∨ b = 5) → M1 114 b = M 114 b := fun b _ => F _ _ (by decide) (by omega)
    have gs : ∀ b, M1 115 b = M 115 b ∧ M1 116 b = M 116 b ∧ M1 117 b = M 117 b := fun b => ⟨F _ _ (by decide) (by omega), F _ _ (by decide) (by omega), F _ _ (by decide) (by omega)⟩
    refine pd_load (wo := p) hd2 pl1.1 rl1 (fun q _ => Iff.rfl) (fun M2 B h10 h11 F2 => ?_)
    refine sq_ (do3e (x0 := 54) (x1 := 0) (x2 := 1000000) (fun Q => by show Q (s_rf 0 6) _ = _; rw [rf_0_6]) (fun Q => rfl) (fun Q => rfl) ?_)
    refine pd_wr pl1 B h10 h11 pl1.2.2.2.1 (fun M3 F3 h12 => ?_)
    rw [(gs 0).1, gWr_eq ge gs] at h12
    have I3 : Inv M3 := Inv_fr I1 (iFr_o (.inl rfl) (oFr_tr F2 F3))
    have F13 : iFr M1 M3 := iFr_o (.inl rfl) (oFr_tr F2 F3)
    have pe := iFr_eq F13
    have ge3 : ∀ b, (b = 1 ∨ b = 3 ∨ b = 4 ∨ b = 5) → M3 114 b = M 114 b := fun b h => (pe.1 b h).trans (ge b h)
    have gs3 : ∀ b, M3 115 b = M 115 b ∧ M3 116 b = M 116 b ∧ M3 117 b = M 117 b := fun b => ⟨(pe.2 b).1.trans (gs b).1, (pe.2 b).2.1.trans (gs b).2.1, (pe.2 b).2.2.trans (gs b).2.2⟩
    have g := gT_eq ge3 gs3
    have gd : gDay M3 = gDay M := by unfold gDay; rw [g.1, g.2.1, ge3 3 (by decide)]
    have fin : f_X7_costs [114, p] M3 (fun b M4 => Q (A - gWr M (M 115 0) p) b M4) := qa_costs I3.1.1 (by rw [ge3 5 (by decide)]; exact c) (fun M4 F4 => by
      rw [gd, (gs3 0).1, gWr_eq ge3 gs3, hA]; exact hq _ _ (Inv_fr I3 F4))
    have i3 : ir (A - gWr M (M 115 0) p) := ⟨by omega, by omega⟩
    generalize f_X7_costs = X7 at *
    refine rt_ ?_
    show ir (A - M3 (s_rf 0 6) 12) ∧ X7 [114, p] M3 (fun b M4 => Q (A - M3 (s_rf 0 6) 12) b M4)
    rw [rf_0_6, h12]
    exact ⟨i3, fin⟩
/-! rules -/
theorem qa_rules {M : jMm} {Q : Int → jMm → Prop} (pl : iPl M) (hq : ∀ M', iFr M M' → Q (gWr M 0 (-4) - gWr M 1 (-4)) M') : f_X7_rules [114] M Q := by
  unfold f_X7_rules
  have G0 := good_r (wo := -4) pl (r := 0) (.inl rfl)
  have w0 : 0 ≤ gWr M 0 (-4) ∧ gWr M 0 (-4) ≤ 1400 := gW_b G0
  have G1 := good_r (wo := -4) pl (r := 1) (.inr rfl)
  have w1 : 0 ≤ gWr M 1 (-4) ∧ gWr M 1 (-4) ≤ 1400 := gW_b G1
  refine mt_ (sq_ (do1 (mo_asTold pl (fun M1 F hs h15 h16 h17 => ?_))))
  have F1 : iFr M M1 := fun a b n => F a b (by unfold scr at n; omega) (by unfold scr at n; omega)
  refine sq_ (pu (k := 114) (v := 0) (fun Q => rfl) (fun Q => rfl) ?_)
  refine sq_ (do1 ?_)
  refine mo_wr (r := 0) (wo := -4) pl (iFr_wr F1 (by unfold scr; omega)) ⟨by rw [jw0 (by decide)]; exact h15, jw1 ⟨rfl, rfl⟩, by rw [jw0 (by decide)]; exact h17, fun s s0 s3 => by rw [jw0 (.inl (by decide)), jw0 (.inl (by decide)), jw0 (.inl (by decide))]; exact hs s s0 s3⟩ (.inl rfl) (fun M2 W2 F2 R2 => ?_)
  refine sq_ (st_v (v := gWr M 0 (-4)) (fun Q => W2 Q) ?_)
  refine sq_ (pu (k := 114) (v := 1) (fun Q => rfl) (fun Q => rfl) ?_)
  refine sq_ (do1 ?_)
  refine mo_wr (r := 1) (wo := -4) pl (iFr_wr F2 (by unfold scr; omega)) ⟨?_, jw1 ⟨rfl, rfl⟩, ?_, fun s s0 s3 => ?_⟩ (.inr rfl) (fun M3 W3 F3 R3 => ?_)
  · rw [jw0 (by decide), R2 _ _ (by omega), jw0 (by decide)]; exact h15
  · rw [jw0 (by decide), R2 _ _ (by omega), jw0 (by decide)]; exact h17
  · rw [jw0 (.inl (by decide)), jw0 (.inl (by decide)), jw0 (.inl (by decide)), R2 _ _ (by omega), R2 _ _ (by omega), R2 _ _ (by omega), jw0 (.inl (by decide)), jw0 (.inl (by decide)), jw0 (.inl (by decide))]; exact hs s s0 s3
  · have q := hq M3 F3
    exact rt_ (by rw [bn_sub (x := gWr M 0 (-4)) (y := gWr M 1 (-4)) (fun Q => rfl) (fun Q => W3 Q) ⟨by omega, by omega⟩]; exact q)
theorem pdB_rule {d r r' wo : Int} {ways paces : Int → Int} {M P : jMm} (hd : isDay d) (B : pdB d M P r wo ways paces) (pl : gPl P) : pdB d (jwr M (d + 3) 0 r') P r' wo ways paces := by
  obtain ⟨b1, b2, b3, b4⟩ := B
  have hk := pl.1.2.1
  have hn := pl.1.2.2.2
  refine ⟨?_, fun s s0 s1 => ?_, fun p p0 p1 => ?_, ?_⟩
  · obtain ⟨d1, d2, d3, d4, d5, d6, d7, d8, d9, d10, d11, d12⟩ := b1
    refine ⟨?_, ?_, ?_, ?_, ?_, ?_, ?_, ?_, jw1 ⟨rfl, rfl⟩, fun j j1 j6 => ?_, ?_, ?_⟩
    · rw [jw0 (by omega)]; exact d1
    · rw [jw0 (by omega)]; exact d2
    · rw [jw0 (by omega)]; exact d3
    · rw [jw0 (by omega)]; exact d4
    · rw [jw0 (by omega)]; exact d5
    · rw [jw0 (by omega)]; exact d6
    · rw [jw0 (by omega)]; exact d7
    · rw [jw0 (by omega)]; exact d8
    · rw [jw0 (by omega)]; exact d10 j j1 j6
    · rw [jw0 (by omega)]; exact d11
    · rw [jw0 (by omega)]; exact d12
  · obtain ⟨f1, f2, f3, f4, f5, f6⟩ := b2 s s0 s1
    refine ⟨?_, ?_, ?_, ?_, ?_, fun b c0 c1 => ?_⟩
    · rw [jw0 (by omega)]; exact f1
    · rw [jw0 (by omega)]; exact f2
    · rw [jw0 (by omega)]; exact f3
    · rw [jw0 (by omega)]; exact f4
    · rw [jw0 (by omega)]; exact f5
    · rw [jw0 (by omega)]; exact f6 b c0 c1
  · have := b3 p p0 p1
    have e : ∀ b, jwr M (d + 3) 0 r' (d + 6 + p) b = M (d + 6 + p) b := fun b => jw0 (by omega)
    unfold pRi at this ⊢
    simp only [e]; exact this
  · have e7 : jwr M (d + 3) 0 r' d 7 = M d 7 := jw0 (by omega)
    have e4 : ∀ b, jwr M (d + 3) 0 r' (d + 4) b = M (d + 4) b := fun b => jw0 (by omega)
    rw [e7]
    unfold pLn at b4 ⊢
    simp only [e4]; exact b4
theorem pd_byRule {r : Int} {M : jMm} {Q : Int → jMm → Prop} (I : Inv M) (hr : r = 0 ∨ r = 1) (hq : ∀ M', oFr 54 M M' → Q (gWr M r (-4)) M') : f_X6_waitsByRule [0, r] M Q := by
  unfold f_X6_waitsByRule
  obtain ⟨⟨pl, rl⟩, -⟩ := id I
  have hd : isDay 54 := .inr (.inl rfl)
  refine mt_ (sq_ (do3e (x0 := 54) (x1 := 1) (x2 := -1) (fun Q => by show Q (s_rf 0 6) _ = _; rw [rf_0_6]) (fun Q => by show Q (s_rf 0 0) _ = _; rw [rf_0_0]) (fun Q => rfl) ?_))
  refine pd_load (wo := -4) hd pl.1 rl (fun p p0 => by omega) (fun M1 B h10 h11 F1 => ?_)
  have as : ∀ N : jLo → jMm → Prop, ∀ R : Int → jMm → Prop, N (jIn [0, 1] [0, r]) (jwr M1 57 0 r) → tAst (xGr (xGr (xV 0) 6) 2) (xC 0) (xV 1) (jIn [0, 1] [0, r]) M1 N R := fun N R h => by
    show (0 ≤ 0 ∧ 0 < s_len (s_rf (s_rf 0 6) 2)) ∧ N (jIn [0, 1] [0, r]) (jwr M1 (s_rf (s_rf 0 6) 2) 0 r)
    rw [rf_0_6, drf2 hd, dln3 hd]
    exact ⟨by decide, h⟩
  refine sq_ (as _ _ ?_)
  have B2 := pdB_rule (r' := r) hd B pl.1
  refine sq_ (do3e (x0 := 54) (x1 := 0) (x2 := 1000000) (fun Q => by show Q (s_rf 0 6) _ = _; rw [rf_0_6]) (fun Q => rfl) (fun Q => rfl) ?_)
  refine pd_wr pl B2 (by rw [jw0 (by omega)]; exact h10) (by rw [jw0 (by omega)]; exact h11) hr (fun M3 F3 h12 => ?_)
  have q := hq M3 (fun a b h => by rw [F3 a b h, jw0 (by omega)]; exact F1 a b h)
  refine rt_ ?_
  show Q (M3 (s_rf 0 6) 12) M3
  rw [rf_0_6, h12]; exact q
theorem y_rules : yPair Inv f_X6_rules f_X7_rules [] := by
  intro M Q I hq
  obtain ⟨⟨pl, rl⟩, -⟩ := id I
  have w0 : 0 ≤ gWr M 0 (-4) ∧ gWr M 0 (-4) ≤ 1400 := gW_b (good_r (wo := -4) pl (r := 0) (.inl rfl))
  have w1 : 0 ≤ gWr M 1 (-4) ∧ gWr M 1 (-4) ≤ 1400 := gW_b (good_r (wo := -4) pl (r := 1) (.inr rfl))
  unfold f_X6_rules
  refine mt_ (rt_ ?_)
  show f_X6_waitsByRule [0, 0] M (fun x M1 => f_X6_waitsByRule [0, 1] M1 (fun y M2 => ir (x - y) ∧ f_X7_rules [114] M2 (fun b M3 => Q (x - y) b M3)))
  refine pd_byRule I (.inl rfl) (fun M1 F1 => ?_)
  have I1 := Inv_fr I (iFr_o (.inl rfl) F1)
  have pe1 := iFr_eq (iFr_o (.inl rfl) F1)
  refine pd_byRule I1 (.inr rfl) (fun M2 F2 => ?_)
  have I2 := Inv_fr I1 (iFr_o (.inl rfl) F2)
  have pe2 := iFr_eq (iFr_o (.inl rfl) (oFr_tr F1 F2))
  rw [gWr_eq pe1.1 pe1.2]
  refine ⟨⟨by omega, by omega⟩, qa_rules I2.1.1 (fun M3 F3 => ?_)⟩
  rw [gWr_eq pe2.1 pe2.2, gWr_eq pe2.1 pe2.2]
  exact hq _ _ (Inv_fr I2 F3)
