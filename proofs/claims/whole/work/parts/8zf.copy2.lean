/-! pairs: copy, the program -/
theorem y_copy {a i b j n : Int} (hi : ir i) (hj : ir j) (hn : ir n) : yPair Inv f_X6_copy f_X7_copy [a, i, b, j, n] := by
  intro M Q I hq
  unfold f_X6_copy
  have hs := I.2.2.2.1
  have r16 : ∀ s, 0 ≤ s → s < 4 → M 141 s ≤ 16 := fun s s0 s4 => (hs s s0 s4).2.2.2.1
  refine mt_ (sq_ (if_pc (bt 0 a 3 = 0 ∨ bt 0 b 3 = 0) (or_pc (nz_pc (c1 (fun Q => rfl) (fun Q => q_isSheet))) (fun _ => nz_pc (c1 (fun Q => rfl) (fun Q => q_isSheet)))) (fun c => rt_ ?_) (fun c => sk_ ?_)))
  · show f_X7_copy [114, a, i, b, j, n] M (fun v M2 => Q (-1) v M2)
    exact qa_copy hi hj hn r16 (fun _ => hq _ _ I) (fun n _ => absurd c n) (fun n _ _ => absurd c n) (fun n _ _ _ => absurd c n) (fun n _ _ _ => absurd c n)
  obtain ⟨a0, a1⟩ := bt_0 (fun z => c (.inl z))
  obtain ⟨b0, b1⟩ := bt_0 (fun z => c (.inr z))
  have a4 : a < 4 := by omega
  have b4 : b < 4 := by omega
  obtain ⟨ga, ga1, ga2, ga3, ga4⟩ := hs a a0 a4
  obtain ⟨gb, gb1, gb2, gb3, gb4⟩ := hs b b0 b4
  refine sq_ (st_v (v := 106 + 2 * a) (fun Q => rowE (L := jIn [0, 1, 2, 3, 4, 5] [0, a, i, b, j, n]) (i := 1) rfl rfl a0 a4 Q) ?_)
  refine sq_ (st_v (v := 106 + 2 * b) (fun Q => rowE (L := jup (jIn [0, 1, 2, 3, 4, 5] [0, a, i, b, j, n]) 6 (106 + 2 * a)) (i := 3) rfl rfl b0 b4 Q) ?_)
  refine sq_ (if_pc (M (106 + 2 * a) 1 = 0 ∨ M (106 + 2 * b) 1 = 0) (or_pc (nz_pc (fun Q => rfl)) (fun _ => nz_pc (fun Q => rfl))) (fun d => rt_ ?_) (fun d => sk_ ?_))
  · show f_X7_copy [114, a, i, b, j, n] M (fun v M2 => Q (-11) v M2)
    have d' : M 140 a < 0 ∨ M 140 b < 0 := by omega
    exact qa_copy hi hj hn r16 (fun n => absurd n c) (fun _ _ => hq _ _ I) (fun _ n _ => absurd d' n) (fun _ n _ _ => absurd d' n) (fun _ n _ _ => absurd d' n)
  have d' : ¬ (M 140 a < 0 ∨ M 140 b < 0) := by omega
  have ea : M (106 + 2 * a) 2 = M 140 a := by omega
  have eb : M (106 + 2 * b) 2 = M 140 b := by omega
  refine sq_ (if_pc (M 140 a ≠ M 140 b) (kr_pc (r := fun x y => x ≠ y) (u := M 140 a) (v := M 140 b) (fun Q => by show Q (M (106 + 2 * a) 2) M = _; rw [ea]) (fun Q => by show Q (M (106 + 2 * b) 2) M = _; rw [eb])) (fun e => rt_ ?_) (fun e => sk_ ?_))
  · show f_X7_copy [114, a, i, b, j, n] M (fun v M2 => Q (-12) v M2)
    exact qa_copy hi hj hn r16 (fun n => absurd n c) (fun _ n => absurd n d') (fun _ _ _ => hq _ _ I) (fun _ _ n _ => absurd n e) (fun _ _ n _ => absurd n e)
  have e : M 140 a = M 140 b := Classical.not_not.mp e
  have ha : ∀ Q1 : Int → jMm → Prop, f_X4_holds [106 + 2 * a, i, n] M Q1 = Q1 (if ((i ≥ 0 ∧ i ≤ M (106 + 2 * a) 3) ∧ n ≥ 0) ∧ n ≤ M (106 + 2 * a) 3 - i then 1 else 0) M := fun Q1 => q_holds (by omega) (by omega)
  have hb : ∀ Q1 : Int → jMm → Prop, f_X4_holds [106 + 2 * b, j, n] M Q1 = Q1 (if ((j ≥ 0 ∧ j ≤ M (106 + 2 * b) 3) ∧ n ≥ 0) ∧ n ≤ M (106 + 2 * b) 3 - j then 1 else 0) M := fun Q1 => q_holds (by omega) (by omega)
  have ra : ((if ((i ≥ 0 ∧ i ≤ M (106 + 2 * a) 3) ∧ n ≥ 0) ∧ n ≤ M (106 + 2 * a) 3 - i then (1 : Int) else 0) = 0) = (n < 0 ∨ (i < 0 ∨ i + n > M 141 a)) := by
    apply propext
    by_cases y : ((i ≥ 0 ∧ i ≤ M (106 + 2 * a) 3) ∧ n ≥ 0) ∧ n ≤ M (106 + 2 * a) 3 - i
    · rw [if_pos y]; omega
    · rw [if_neg y]; omega
  have rb : ((if ((j ≥ 0 ∧ j ≤ M (106 + 2 * b) 3) ∧ n ≥ 0) ∧ n ≤ M (106 + 2 * b) 3 - j then (1 : Int) else 0) = 0) = (n < 0 ∨ (j < 0 ∨ j + n > M 141 b)) := by
    apply propext
    by_cases y : ((j ≥ 0 ∧ j ≤ M (106 + 2 * b) 3) ∧ n ≥ 0) ∧ n ≤ M (106 + 2 * b) 3 - j
    · rw [if_pos y]; omega
    · rw [if_neg y]; omega
  refine sq_ (if_pc (((if ((i ≥ 0 ∧ i ≤ M (106 + 2 * a) 3) ∧ n ≥ 0) ∧ n ≤ M (106 + 2 * a) 3 - i then (1 : Int) else 0) = 0) ∨ ((if ((j ≥ 0 ∧ j ≤ M (106 + 2 * b) 3) ∧ n ≥ 0) ∧ n ≤ M (106 + 2 * b) 3 - j then (1 : Int) else 0) = 0)) (or_pc (nz_pc (c3 (x0 := 106 + 2 * a) (x1 := i) (x2 := n) (fun Q => rfl) (fun Q => rfl) (fun Q => rfl) ha)) (fun _ => nz_pc (c3 (x0 := 106 + 2 * b) (x1 := j) (x2 := n) (fun Q => rfl) (fun Q => rfl) (fun Q => rfl) hb))) (fun f => rt_ ?_) (fun f => sk_ ?_))
  · rw [ra, rb] at f
    have f' : n < 0 ∨ (i < 0 ∨ i + n > M 141 a) ∨ (j < 0 ∨ j + n > M 141 b) := by omega
    show f_X7_copy [114, a, i, b, j, n] M (fun v M2 => Q (-13) v M2)
    exact qa_copy hi hj hn r16 (fun n => absurd n c) (fun _ n => absurd n d') (fun _ _ n => absurd e n) (fun _ _ _ _ => hq _ _ I) (fun _ _ _ n => absurd f' n)
  · rw [ra, rb] at f
    have f' : ¬ (n < 0 ∨ (i < 0 ∨ i + n > M 141 a) ∨ (j < 0 ∨ j + n > M 141 b)) := by omega
    obtain ⟨ha1, ha2, ha3⟩ := row_ a0 a4
    obtain ⟨hb1, hb2, hb3⟩ := row_ b0 b4
    refine sq_ (tcp (k := 107 + 2 * a) (x := i) (h := 107 + 2 * b) (y := j) (z := n) (fun Q => ?_) (fun Q => rfl) (fun Q => ?_) (fun Q => rfl) (fun Q => rfl) (by omega) (rt_ ?_))
    · show Q (s_rf (106 + 2 * a) 0) M = _
      rw [ha2]
    · show Q (s_rf (106 + 2 * b) 0) M = _
      rw [hb2]
    show f_X7_copy [114, a, i, b, j, n] (jwR M (107 + 2 * b) j n (fun q => M (107 + 2 * a) (q - j + i))) (fun v M2 => Q n v M2)
    generalize hM1 : jwR M (107 + 2 * b) j n (fun q => M (107 + 2 * a) (q - j + i)) = M1
    have lo : ∀ x y, (x ≠ 107 + 2 * b ∨ y < j ∨ j + n ≤ y) → M1 x y = M x y := fun x y h => by
      rw [← hM1]; unfold jwR
      exact if_neg (by omega)
    have hi' : ∀ y, j ≤ y → y < j + n → M1 (107 + 2 * b) y = M (107 + 2 * a) (y - j + i) := fun y y0 y1 => by
      rw [← hM1]; unfold jwR
      exact if_pos ⟨rfl, y0, y1⟩
    have l0 : ∀ s, M1 140 s = M 140 s := fun s => lo _ _ (.inl (by omega))
    have l1 : ∀ s, M1 141 s = M 141 s := fun s => lo _ _ (.inl (by omega))
    refine qa_copy hi hj hn (fun s s0 s4 => by rw [l1]; exact r16 s s0 s4) (fun n => absurd n c) (fun _ n => absurd n (by rw [l0, l0]; exact d')) (fun _ _ n => absurd (by rw [l0, l0]; exact e) n) (fun _ _ _ n => absurd n (by rw [l1, l1]; exact f')) (fun _ _ _ _ M2 F2 h2 => hq _ _ (Inv_sheet I b0 b4 (fun x y h e1 e2 e3 e4 e5 => by rw [F2 x y (by unfold scr at h; omega) (by omega), lo _ _ (.inl e2)]) ?_))
    unfold iSheet
    rw [F2 140 b (by decide) (.inl (by decide)), F2 141 b (by decide) (.inl (by decide)), F2 (106 + 2 * b) 1 (by omega) (.inl (by omega)), F2 (106 + 2 * b) 2 (by omega) (.inl (by omega)), F2 (106 + 2 * b) 3 (by omega) (.inl (by omega)), l0, l1, lo (106 + 2 * b) 1 (.inl (by omega)), lo (106 + 2 * b) 2 (.inl (by omega)), lo (106 + 2 * b) 3 (.inl (by omega))]
    refine ⟨gb, gb1, gb2, gb3, fun q q0 q1 => ?_⟩
    rw [F2 (107 + 2 * b) q (by omega) (.inl (by omega))]
    by_cases ee : j ≤ q ∧ q < j + n
    · have w1 := h2 (q - j) (by omega) (by omega)
      rw [show 16 * b + j + (q - j) = 16 * b + q by omega] at w1
      rw [w1, hi' q ee.1 ee.2, lo 142 _ (.inl (by omega)), show 16 * a + i + (q - j) = 16 * a + (q - j + i) by omega]
      exact ga4 _ (by omega) (by omega)
    · rw [F2 142 _ (by decide) (by omega), lo 142 _ (.inl (by omega)), lo _ _ (by omega)]
      exact gb4 q q0 q1
