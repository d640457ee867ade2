/-! pairs: stair, of, set, change, person, told -/
theorem jr {M : jMm} {k j v a b : Int} : jwr M k j v a b = if a = k ∧ b = j then v else M a b := rfl
theorem y_stair {a p : Int} : yPair Inv f_X6_stair f_X7_stair [a, p] := by
  intro M Q I hq
  obtain ⟨⟨pl, rl⟩, -⟩ := id I
  obtain ⟨⟨⟨⟨k0, k3, n0, n14⟩, pp, ps, pset⟩, pw, pc, pr, pch⟩, r1, r2, r3, r4, r5, r6, r7⟩ := And.intro pl rl
  refine q_X6_stair (n := M 114 1) r1 k0 k3 ?_
  by_cases c : bt 3 a 10 = 0 ∨ bt 1 p 2 = 0
  · rw [if_pos c]
    refine q_X7_stair rfl k0 k3 ?_
    rw [if_pos c]; exact hq _ _ I
  · rw [if_neg c]
    obtain ⟨a1, a2⟩ := bt_0 (fun z => c (.inl z))
    obtain ⟨p1, p2⟩ := bt_0 (fun z => c (.inr z))
    by_cases c3 : M 114 1 = 3
    · rw [if_pos c3]
      refine q_X7_stair rfl k0 k3 ?_
      rw [if_neg c, if_pos c3]; exact hq _ _ I
    · rw [if_neg c3]
      generalize hn : M 114 1 = n at *
      generalize hM1 : jwr (jwr (jwr (jwr (jwr (jwr M 3 n a) 4 n 0) 5 n p) 1 3 (n + 1)) 0 8 0) 0 9 0 = M1
      have m1 : ∀ x y, x ≠ 0 → x ≠ 1 → x ≠ 3 → x ≠ 4 → x ≠ 5 → M1 x y = M x y := fun x y h0 h1 h3 h4 h5 => by rw [← hM1, jw0 (by omega), jw0 (by omega), jw0 (by omega), jw0 (by omega), jw0 (by omega), jw0 (by omega)]
      have e3 : ∀ y, M1 3 y = if y = n then a else M 3 y := fun y => by rw [← hM1, jw0 (by omega), jw0 (by omega), jw0 (by omega), jw0 (by omega), jw0 (by omega)]; simp [jr]
      have e4 : ∀ y, M1 4 y = if y = n then 0 else M 4 y := fun y => by rw [← hM1, jw0 (by omega), jw0 (by omega), jw0 (by omega), jw0 (by omega)]; simp [jr]
      have e5 : ∀ y, M1 5 y = if y = n then p else M 5 y := fun y => by rw [← hM1, jw0 (by omega), jw0 (by omega), jw0 (by omega)]; simp [jr]
      have e1 : ∀ y, M1 1 y = if y = 3 then n + 1 else M 1 y := fun y => by rw [← hM1, jw0 (by omega), jw0 (by omega)]; simp [jr]
      have e08 : M1 0 8 = 0 := by rw [← hM1, jw0 (by omega), jw1 ⟨rfl, rfl⟩]
      have e09 : M1 0 9 = 0 := by rw [← hM1, jw1 ⟨rfl, rfl⟩]
      have e02 : M1 0 2 = M 0 2 := by rw [← hM1, jw0 (by omega), jw0 (by omega), jw0 (by omega), jw0 (by omega), jw0 (by omega), jw0 (by omega)]
      clear hM1
      have hn1 : M1 114 1 = n := by rw [m1 _ _ (by decide) (by decide) (by decide) (by decide) (by decide)]; exact hn
      refine q_X7_stair hn1 k0 k3 ?_
      rw [if_neg c, if_neg c3]
      generalize hM2 : jwr (jwr (jwr (jwr M1 116 (3 * n) a) 116 (3 * n + 1) 0) 116 (3 * n + 2) p) 114 1 (n + 1) = M2
      have m2 : ∀ x y, x ≠ 116 → (x ≠ 114 ∨ y ≠ 1) → M2 x y = M1 x y := fun x y h0 h1 => by rw [← hM2, jw0 (by omega), jw0 (by omega), jw0 (by omega), jw0 (by omega)]
      have g1 : M2 114 1 = n + 1 := by rw [← hM2, jw1 ⟨rfl, rfl⟩]
      have g6 : ∀ y, M2 116 y = if y = 3 * n then a else if y = 3 * n + 1 then 0 else if y = 3 * n + 2 then p else M 116 y := fun y => by
        rw [← hM2, jw0 (.inl (by decide))]
        by_cases y2 : y = 3 * n + 2
        · rw [jw1 ⟨rfl, y2⟩, if_neg (by omega), if_neg (by omega), if_pos y2]
        · rw [jw0 (.inr y2)]
          by_cases y1 : y = 3 * n + 1
          · rw [jw1 ⟨rfl, y1⟩, if_neg (by omega), if_pos y1]
          · rw [jw0 (.inr y1)]
            by_cases y0 : y = 3 * n
            · rw [jw1 ⟨rfl, y0⟩, if_pos y0]
            · rw [jw0 (.inr y0), if_neg y0, if_neg y1, if_neg y2, m1 _ _ (by decide) (by decide) (by decide) (by decide) (by decide)]
      clear hM2
      have lo : ∀ x y, x ≠ 116 → (x ≠ 114 ∨ y ≠ 1) → x ≠ 0 → x ≠ 1 → x ≠ 3 → x ≠ 4 → x ≠ 5 → M2 x y = M x y := fun x y h1 h2 h3 h4 h5 h6 h7 => by rw [m2 _ _ h1 h2, m1 _ _ h3 h4 h5 h6 h7]
      have l117 : ∀ y, M2 117 y = M 117 y := fun y => lo _ _ (by decide) (.inl (by decide)) (by decide) (by decide) (by decide) (by decide) (by decide)
      have l115 : ∀ y, M2 115 y = M 115 y := fun y => lo _ _ (by decide) (.inl (by decide)) (by decide) (by decide) (by decide) (by decide) (by decide)
      have l114 : ∀ y, y ≠ 1 → M2 114 y = M 114 y := fun y hy => lo _ _ (by decide) (.inr hy) (by decide) (by decide) (by decide) (by decide) (by decide)
      have l10 : ∀ x y, 7 ≤ x → x ≤ 10 → M2 x y = M x y := fun x y h1 h2 => lo _ _ (by omega) (.inl (by omega)) (by omega) (by omega) (by omega) (by omega) (by omega)
      refine hq _ _ (Inv_anew I ⟨⟨⟨?_, ?_, ?_, ?_⟩, fun p p0 p1 => ?_, fun s s0 s1 => ?_, ?_⟩, fun s s0 s3 => ?_, fun s s0 s1 => ?_, ?_, ?_⟩ ⟨?_, ?_, ?_, ?_, fun j j0 j6 => ?_, fun s s0 s1 => ?_, fun p p0 p1 => ?_⟩ ?_ ?_ ?_ (fun x y h => ?_))
      · rw [g1]; omega
      · rw [g1]; omega
      · rw [l114 _ (by decide)]; exact n0
      · rw [l114 _ (by decide)]; exact n14
      · rw [l114 _ (by decide)] at p1
        rw [l117, l117, l117]; exact pp p p0 p1
      · rw [g1] at s1
        rw [g6]
        by_cases e : s = n
        · rw [if_pos (by omega)]; exact ⟨a1, a2⟩
        · rw [if_neg (by omega), if_neg (by omega), if_neg (by omega)]; exact ps s s0 (by omega)
      · simp only [l115]; exact pset
      · rw [g6]
        by_cases e : s = n
        · rw [if_neg (by omega), if_pos (by omega)]; decide
        · rw [if_neg (by omega), if_neg (by omega), if_neg (by omega)]; exact pw s s0 s3
      · rw [g1] at s1
        rw [g6]
        by_cases e : s = n
        · rw [if_neg (by omega), if_neg (by omega), if_pos (by omega)]; exact ⟨p1, p2⟩
        · rw [if_neg (by omega), if_neg (by omega), if_neg (by omega)]; exact pc s s0 (by omega)
      · rw [l115]; exact pr
      · rw [l114 _ (by decide), l114 _ (by decide)]; exact pch
      · rw [m2 _ _ (by decide) (.inl (by decide)), e1, if_pos rfl, g1]
      · rw [m2 _ _ (by decide) (.inl (by decide)), e1, if_neg (by decide), l114 _ (by decide)]; exact r2
      · rw [m2 _ _ (by decide) (.inl (by decide)), e1, if_neg (by decide), l114 _ (by decide)]; exact r3
      · rw [m2 _ _ (by decide) (.inl (by decide)), e1, if_neg (by decide), l114 _ (by decide)]; exact r4
      · rw [l10 _ _ (by decide) (by decide), l115]; exact r5 j j0 j6
      · rw [g1] at s1
        rw [m2 3 _ (by decide) (.inl (by decide)), m2 4 _ (by decide) (.inl (by decide)), m2 5 _ (by decide) (.inl (by decide)), e3, e4, e5, g6, g6, g6]
        by_cases e : s = n
        · rw [if_pos e, if_pos e, if_pos e, if_pos (by omega), if_neg (by omega), if_pos (by omega), if_neg (by omega), if_neg (by omega), if_pos (by omega)]
          exact ⟨rfl, rfl, rfl⟩
        · rw [if_neg e, if_neg e, if_neg e, if_neg (by omega), if_neg (by omega), if_neg (by omega), if_neg (by omega), if_neg (by omega), if_neg (by omega), if_neg (by omega), if_neg (by omega), if_neg (by omega)]
          exact r6 s s0 (by omega)
      · rw [l114 _ (by decide)] at p1
        rw [l10 7 _ (by decide) (by decide), l10 8 _ (by decide) (by decide), l10 9 _ (by decide) (by decide), l117, l117, l117]; exact r7 p p0 p1
      · rw [m2 _ _ (by decide) (.inl (by decide))]; exact e08
      · rw [m2 _ _ (by decide) (.inl (by decide))]; exact e09
      · rw [m2 _ _ (by decide) (.inl (by decide))]; exact e02
      · exact lo _ _ (by omega) (by omega) (by omega) (by omega) (by omega) (by omega) (by omega)
theorem y_of {i w v : Int} : yPair Inv f_X6_of f_X7_of [i, w, v] := by
  intro M Q I hq
  obtain ⟨⟨pl, rl⟩, -⟩ := id I
  obtain ⟨⟨⟨⟨k0, k3, n0, n14⟩, pp, ps, pset⟩, pw, pc, pr, pch⟩, r1, r2, r3, r4, r5, r6, r7⟩ := And.intro pl rl
  refine q_X6_of (n := M 114 1) r1 k0 k3 ?_
  by_cases c : bt 0 i (M 114 1 - 1) = 0 ∨ bt 0 w 2 = 0 ∨ ofOk w v = 0
  · rw [if_pos c]
    refine q_X7_of rfl k0 k3 ?_
    rw [if_pos c]; exact hq _ _ I
  · rw [if_neg c]
    obtain ⟨i0, i1⟩ := bt_0 (fun z => c (.inl z))
    obtain ⟨w0, w2⟩ := bt_0 (fun z => c (.inr (.inl z)))
    have c3 : ¬ ofOk w v = 0 := fun z => c (.inr (.inr z))
    have hv : (w = 0 → 3 ≤ v ∧ v ≤ 10) ∧ (w = 1 → 0 ≤ v ∧ v ≤ 2) ∧ (w = 2 → 1 ≤ v ∧ v ≤ 2) := by
      unfold ofOk at c3
      refine ⟨fun z => ?_, fun z => ?_, fun z => ?_⟩
      · rw [if_pos z] at c3; exact bt_0 c3
      · rw [if_neg (by omega), if_pos z] at c3; exact bt_0 c3
      · rw [if_neg (by omega), if_neg (by omega)] at c3; exact bt_0 c3
    have val : M (3 + w) i = M 116 (3 * i + w) := by
      obtain ⟨q1, q2, q3⟩ := r6 i i0 (by omega)
      obtain rfl | rfl | rfl : w = 0 ∨ w = 1 ∨ w = 2 := by omega
      · rw [show 3 * i + 0 = 3 * i by omega]; exact q1
      · exact q2
      · exact q3
    rw [val]
    generalize hM1 : jwr (jwr (jwr M (3 + w) i v) 0 8 0) 0 9 0 = M1
    have m1 : ∀ x y, (x ≠ 0 ∨ (y ≠ 8 ∧ y ≠ 9)) → (x ≠ 3 + w ∨ y ≠ i) → M1 x y = M x y := fun x y h0 h1 => by rw [← hM1, jw0 (by omega), jw0 (by omega), jw0 (by omega)]
    have mv : M1 (3 + w) i = v := by rw [← hM1, jw0 (by omega), jw0 (by omega), jw1 ⟨rfl, rfl⟩]
    have e08 : M1 0 8 = 0 := by rw [← hM1, jw0 (by omega), jw1 ⟨rfl, rfl⟩]
    have e09 : M1 0 9 = 0 := by rw [← hM1, jw1 ⟨rfl, rfl⟩]
    clear hM1
    have hn1 : M1 114 1 = M 114 1 := m1 _ _ (.inl (by decide)) (.inl (by omega))
    refine q_X7_of hn1 k0 k3 ?_
    rw [if_neg c, m1 116 _ (.inl (by decide)) (.inl (by omega))]
    generalize hM2 : jwr M1 116 (3 * i + w) v = M2
    have m2 : ∀ x y, (x ≠ 116 ∨ y ≠ 3 * i + w) → M2 x y = M1 x y := fun x y h => by rw [← hM2, jw0 h]
    have g6 : M2 116 (3 * i + w) = v := by rw [← hM2, jw1 ⟨rfl, rfl⟩]
    clear hM2
    have lo : ∀ x y, (x ≠ 116 ∨ y ≠ 3 * i + w) → (x ≠ 0 ∨ (y ≠ 8 ∧ y ≠ 9)) → (x ≠ 3 + w ∨ y ≠ i) → M2 x y = M x y := fun x y h1 h2 h3 => by rw [m2 _ _ h1, m1 _ _ h2 h3]
    have l114 : ∀ y, M2 114 y = M 114 y := fun y => lo _ _ (.inl (by decide)) (.inl (by decide)) (.inl (by omega))
    have l115 : ∀ y, M2 115 y = M 115 y := fun y => lo _ _ (.inl (by decide)) (.inl (by decide)) (.inl (by omega))
    have l117 : ∀ y, M2 117 y = M 117 y := fun y => lo _ _ (.inl (by decide)) (.inl (by decide)) (.inl (by omega))
    have l116 : ∀ y, y ≠ 3 * i + w → M2 116 y = M 116 y := fun y h => lo _ _ (.inr h) (.inl (by decide)) (.inl (by omega))
    refine hq _ _ (Inv_anew I ⟨⟨⟨?_, ?_, ?_, ?_⟩, fun p p0 p1 => ?_, fun s s0 s1 => ?_, ?_⟩, fun s s0 s3 => ?_, fun s s0 s1 => ?_, ?_, ?_⟩ ⟨?_, ?_, ?_, ?_, fun j j0 j6 => ?_, fun s s0 s1 => ?_, fun p p0 p1 => ?_⟩ ?_ ?_ ?_ (fun x y h => ?_))
    · rw [l114]; exact k0
    · rw [l114]; exact k3
    · rw [l114]; exact n0
    · rw [l114]; exact n14
    · rw [l114] at p1
      rw [l117, l117, l117]; exact pp p p0 p1
    · rw [l114] at s1
      by_cases e : 3 * s = 3 * i + w
      · rw [e, g6]; exact hv.1 (by omega)
      · rw [l116 _ e]; exact ps s s0 s1
    · simp only [l115]; exact pset
    · by_cases e : 3 * s + 1 = 3 * i + w
      · rw [e, g6]; exact hv.2.1 (by omega)
      · rw [l116 _ e]; exact pw s s0 s3
    · rw [l114] at s1
      by_cases e : 3 * s + 2 = 3 * i + w
      · rw [e, g6]; exact hv.2.2 (by omega)
      · rw [l116 _ e]; exact pc s s0 s1
    · rw [l115]; exact pr
    · rw [l114, l114]; exact pch
    · rw [l114, lo _ _ (.inl (by decide)) (.inl (by decide)) (.inl (by omega))]; exact r1
    · rw [l114, lo _ _ (.inl (by decide)) (.inl (by decide)) (.inl (by omega))]; exact r2
    · rw [l114, lo _ _ (.inl (by decide)) (.inl (by decide)) (.inl (by omega))]; exact r3
    · rw [l114, lo _ _ (.inl (by decide)) (.inl (by decide)) (.inl (by omega))]; exact r4
    · rw [l115, lo _ _ (.inl (by decide)) (.inl (by decide)) (.inl (by omega))]; exact r5 j j0 j6
    · rw [l114] at s1
      obtain ⟨q1, q2, q3⟩ := r6 s s0 s1
      have one : ∀ u, 0 ≤ u → u ≤ 2 → M (3 + u) s = M 116 (3 * s + u) → M2 (3 + u) s = M2 116 (3 * s + u) := fun u u0 u2 hu => by
        by_cases e : s = i ∧ u = w
        · obtain ⟨rfl, rfl⟩ := e
          rw [m2 _ _ (.inl (by omega)), mv, g6]
        · rw [lo _ _ (.inl (by omega)) (.inl (by omega)) (by omega), l116 _ (by omega)]; exact hu
      refine ⟨?_, one 1 (by decide) (by decide) q2, one 2 (by decide) (by decide) q3⟩
      have := one 0 (by decide) (by decide) (by rw [show 3 * s + 0 = 3 * s by omega]; exact q1)
      rw [show 3 * s + 0 = 3 * s by omega] at this
      exact this
    · rw [l114] at p1
      rw [lo 7 _ (.inl (by decide)) (.inl (by decide)) (.inl (by omega)), lo 8 _ (.inl (by decide)) (.inl (by decide)) (.inl (by omega)), lo 9 _ (.inl (by decide)) (.inl (by decide)) (.inl (by omega)), l117, l117, l117]; exact r7 p p0 p1
    · rw [m2 _ _ (.inl (by decide))]; exact e08
    · rw [m2 _ _ (.inl (by decide))]; exact e09
    · exact lo _ _ (.inl (by decide)) (.inr (by decide)) (.inl (by omega))
    · exact lo _ _ (.inl (by omega)) (.inl (by omega)) (.inl (by omega))
theorem set_rng {w v : Int} (w0 : 0 ≤ w) (w6 : w ≤ 6) (h : s_sv 3 w ≤ v ∧ v ≤ s_sv 4 w) : (w = 0 → 0 ≤ v ∧ v ≤ 1) ∧ (w = 1 → 1 ≤ v ∧ v ≤ 9) ∧ (w = 2 → 1 ≤ v ∧ v ≤ 3) ∧ (w = 3 → 2 ≤ v ∧ v ≤ 40) ∧ (w = 4 → 1 ≤ v ∧ v ≤ 9) ∧ (w = 5 → 0 ≤ v ∧ v ≤ 9) ∧ (w = 6 → 0 ≤ v ∧ v ≤ 10) := by
  obtain ⟨e0, e1, e2, e3, e4, e5, e6, g0, g1, g2, g3, g4, g5, g6⟩ := st_set
  obtain rfl | rfl | rfl | rfl | rfl | rfl | rfl : w = 0 ∨ w = 1 ∨ w = 2 ∨ w = 3 ∨ w = 4 ∨ w = 5 ∨ w = 6 := by omega
  · rw [e0, g0] at h; omega
  · rw [e1, g1] at h; omega
  · rw [e2, g2] at h; omega
  · rw [e3, g3] at h; omega
  · rw [e4, g4] at h; omega
  · rw [e5, g5] at h; omega
  · rw [e6, g6] at h; omega
theorem y_set {w v : Int} : yPair Inv f_X6_set f_X7_set [w, v] := by
  intro M Q I hq
  obtain ⟨⟨pl, rl⟩, -⟩ := id I
  obtain ⟨⟨⟨⟨k0, k3, n0, n14⟩, pp, ps, pset⟩, pw, pc, pr, pch⟩, r1, r2, r3, r4, r5, r6, r7⟩ := And.intro pl rl
  refine q_X6_set ?_
  by_cases c : bt 0 w 6 = 0 ∨ bt (s_sv 3 w) v (s_sv 4 w) = 0
  · rw [if_pos c]
    refine q_X7_set ?_
    rw [if_pos c]; exact hq _ _ I
  · rw [if_neg c]
    obtain ⟨w0, w6⟩ := bt_0 (fun z => c (.inl z))
    obtain ⟨h1, h2, h3, h4, h5, h6, h7⟩ := set_rng w0 w6 (bt_0 (fun z => c (.inr z)))
    rw [r5 w w0 w6]
    generalize hM1 : jwr (jwr (jwr M 10 w v) 0 8 0) 0 9 0 = M1
    have m1 : ∀ x y, (x ≠ 0 ∨ (y ≠ 8 ∧ y ≠ 9)) → (x ≠ 10 ∨ y ≠ w) → M1 x y = M x y := fun x y h0 h1 => by rw [← hM1, jw0 (by omega), jw0 (by omega), jw0 (by omega)]
    have mv : M1 10 w = v := by rw [← hM1, jw0 (by omega), jw0 (by omega), jw1 ⟨rfl, rfl⟩]
    have e08 : M1 0 8 = 0 := by rw [← hM1, jw0 (by omega), jw1 ⟨rfl, rfl⟩]
    have e09 : M1 0 9 = 0 := by rw [← hM1, jw1 ⟨rfl, rfl⟩]
    clear hM1
    refine q_X7_set ?_
    rw [if_neg c, m1 115 _ (.inl (by decide)) (.inl (by decide))]
    generalize hM2 : jwr M1 115 w v = M2
    have m2 : ∀ x y, (x ≠ 115 ∨ y ≠ w) → M2 x y = M1 x y := fun x y h => by rw [← hM2, jw0 h]
    have g6 : M2 115 w = v := by rw [← hM2, jw1 ⟨rfl, rfl⟩]
    clear hM2
    have lo : ∀ x y, (x ≠ 115 ∨ y ≠ w) → (x ≠ 0 ∨ (y ≠ 8 ∧ y ≠ 9)) → (x ≠ 10 ∨ y ≠ w) → M2 x y = M x y := fun x y h1 h2 h3 => by rw [m2 _ _ h1, m1 _ _ h2 h3]
    have l114 : ∀ y, M2 114 y = M 114 y := fun y => lo _ _ (.inl (by decide)) (.inl (by decide)) (.inl (by decide))
    have l116 : ∀ y, M2 116 y = M 116 y := fun y => lo _ _ (.inl (by decide)) (.inl (by decide)) (.inl (by decide))
    have l117 : ∀ y, M2 117 y = M 117 y := fun y => lo _ _ (.inl (by decide)) (.inl (by decide)) (.inl (by decide))
    have l115 : ∀ y, M2 115 y = if y = w then v else M 115 y := fun y => by
      by_cases e : y = w
      · rw [if_pos e, e, g6]
      · rw [if_neg e]; exact lo _ _ (.inr e) (.inl (by decide)) (.inl (by decide))
    refine hq _ _ (Inv_anew I ⟨⟨⟨?_, ?_, ?_, ?_⟩, fun p p0 p1 => ?_, fun s s0 s1 => ?_, ?_⟩, fun s s0 s3 => ?_, fun s s0 s1 => ?_, ?_, ?_⟩ ⟨?_, ?_, ?_, ?_, fun j j0 j6 => ?_, fun s s0 s1 => ?_, fun p p0 p1 => ?_⟩ ?_ ?_ ?_ (fun x y h => ?_))
    · rw [l114]; exact k0
    · rw [l114]; exact k3
    · rw [l114]; exact n0
    · rw [l114]; exact n14
    · rw [l114] at p1
      rw [l117, l117, l117]; exact pp p p0 p1
    · rw [l114] at s1
      rw [l116]; exact ps s s0 s1
    · obtain ⟨q1, q2, q3, q4, q5, q6, q7, q8, q9, q10, q11, q12⟩ := pset
      have s1 : 1 ≤ M2 115 1 ∧ M2 115 1 ≤ 9 := by rw [l115]; split <;> omega
      have s2 : 1 ≤ M2 115 2 ∧ M2 115 2 ≤ 3 := by rw [l115]; split <;> omega
      have s3 : 2 ≤ M2 115 3 ∧ M2 115 3 ≤ 40 := by rw [l115]; split <;> omega
      have s4 : 1 ≤ M2 115 4 ∧ M2 115 4 ≤ 9 := by rw [l115]; split <;> omega
      have s5 : 0 ≤ M2 115 5 ∧ M2 115 5 ≤ 9 := by rw [l115]; split <;> omega
      have s6 : 0 ≤ M2 115 6 ∧ M2 115 6 ≤ 10 := by rw [l115]; split <;> omega
      exact ⟨s1.1, s1.2, s2.1, s2.2, s3.1, s3.2, s4.1, s4.2, s5.1, s5.2, s6⟩
    · rw [l116]; exact pw s s0 s3
    · rw [l114] at s1
      rw [l116]; exact pc s s0 s1
    · rw [l115]; split <;> omega
    · rw [l114, l114]; exact pch
    · rw [l114, lo _ _ (.inl (by decide)) (.inl (by decide)) (.inl (by decide))]; exact r1
    · rw [l114, lo _ _ (.inl (by decide)) (.inl (by decide)) (.inl (by decide))]; exact r2
    · rw [l114, lo _ _ (.inl (by decide)) (.inl (by decide)) (.inl (by decide))]; exact r3
    · rw [l114, lo _ _ (.inl (by decide)) (.inl (by decide)) (.inl (by decide))]; exact r4
    · rw [l115]
      by_cases e : j = w
      · rw [if_pos e, e, m2 _ _ (.inl (by decide)), mv]
      · rw [if_neg e, lo _ _ (.inl (by decide)) (.inl (by decide)) (.inr e)]; exact r5 j j0 j6
    · rw [l114] at s1
      rw [l116, l116, l116, lo _ _ (.inl (by decide)) (.inl (by decide)) (.inl (by decide)), lo _ _ (.inl (by decide)) (.inl (by decide)) (.inl (by decide)), lo _ _ (.inl (by decide)) (.inl (by decide)) (.inl (by decide))]; exact r6 s s0 s1
    · rw [l114] at p1
      rw [l117, l117, l117, lo _ _ (.inl (by decide)) (.inl (by decide)) (.inl (by decide)), lo _ _ (.inl (by decide)) (.inl (by decide)) (.inl (by decide)), lo _ _ (.inl (by decide)) (.inl (by decide)) (.inl (by decide))]; exact r7 p p0 p1
    · rw [m2 _ _ (.inl (by decide))]; exact e08
    · rw [m2 _ _ (.inl (by decide))]; exact e09
    · exact lo _ _ (.inl (by decide)) (.inr (by decide)) (.inl (by decide))
    · exact lo _ _ (.inl (by omega)) (.inl (by omega)) (.inl (by omega))
theorem y_change {t w : Int} : yPair Inv f_X6_change f_X7_change [t, w] := by
  intro M Q I hq
  obtain ⟨⟨pl, rl⟩, -⟩ := id I
  obtain ⟨⟨⟨⟨k0, k3, n0, n14⟩, pp, ps, pset⟩, pw, pc, pr, pch⟩, r1, r2, r3, r4, r5, r6, r7⟩ := And.intro pl rl
  refine q_X6_change ?_
  by_cases c : bt 0 t 99 = 0 ∨ bt 0 w 26 = 0
  · rw [if_pos c]
    refine q_X7_change ?_
    rw [if_pos c]; exact hq _ _ I
  · rw [if_neg c]
    obtain ⟨t0, t1⟩ := bt_0 (fun z => c (.inl z))
    obtain ⟨w0, w1⟩ := bt_0 (fun z => c (.inr z))
    rw [r3]
    generalize hM1 : jwr (jwr (jwr (jwr M 1 5 t) 1 6 w) 0 8 0) 0 9 0 = M1
    have m1 : ∀ x y, (x ≠ 0 ∨ (y ≠ 8 ∧ y ≠ 9)) → (x ≠ 1 ∨ (y ≠ 5 ∧ y ≠ 6)) → M1 x y = M x y := fun x y h0 h1 => by rw [← hM1, jw0 (by omega), jw0 (by omega), jw0 (by omega), jw0 (by omega)]
    have m5 : M1 1 5 = t := by rw [← hM1, jw0 (by omega), jw0 (by omega), jw0 (by omega), jw1 ⟨rfl, rfl⟩]
    have m6 : M1 1 6 = w := by rw [← hM1, jw0 (by omega), jw0 (by omega), jw1 ⟨rfl, rfl⟩]
    have e08 : M1 0 8 = 0 := by rw [← hM1, jw0 (by omega), jw1 ⟨rfl, rfl⟩]
    have e09 : M1 0 9 = 0 := by rw [← hM1, jw1 ⟨rfl, rfl⟩]
    clear hM1
    refine q_X7_change ?_
    rw [if_neg c, m1 114 _ (.inl (by decide)) (.inl (by decide))]
    generalize hM2 : jwr (jwr M1 114 3 t) 114 4 w = M2
    have m2 : ∀ x y, (x ≠ 114 ∨ (y ≠ 3 ∧ y ≠ 4)) → M2 x y = M1 x y := fun x y h => by rw [← hM2, jw0 (by omega), jw0 (by omega)]
    have g3 : M2 114 3 = t := by rw [← hM2, jw0 (by omega), jw1 ⟨rfl, rfl⟩]
    have g4 : M2 114 4 = w := by rw [← hM2, jw1 ⟨rfl, rfl⟩]
    clear hM2
    have lo : ∀ x y, (x ≠ 114 ∨ (y ≠ 3 ∧ y ≠ 4)) → (x ≠ 0 ∨ (y ≠ 8 ∧ y ≠ 9)) → (x ≠ 1 ∨ (y ≠ 5 ∧ y ≠ 6)) → M2 x y = M x y := fun x y h1 h2 h3 => by rw [m2 _ _ h1, m1 _ _ h2 h3]
    have hi : ∀ x y, 2 ≤ x → x ≠ 114 → M2 x y = M x y := fun x y h1 h2 => lo _ _ (.inl h2) (.inl (by omega)) (.inl (by omega))
    have l114 : ∀ y, y ≠ 3 → y ≠ 4 → M2 114 y = M 114 y := fun y h1 h2 => lo _ _ (.inr ⟨h1, h2⟩) (.inl (by decide)) (.inl (by decide))
    have z1 := l114 1 (by decide) (by decide)
    have z5 := l114 5 (by decide) (by decide)
    have a115 : M2 115 = M 115 := funext fun b => hi _ _ (by decide) (by decide)
    have a116 : M2 116 = M 116 := funext fun b => hi _ _ (by decide) (by decide)
    have a117 : M2 117 = M 117 := funext fun b => hi _ _ (by decide) (by decide)
    refine hq _ _ (Inv_anew I ?_ ?_ ?_ ?_ ?_ (fun x y h => ?_))
    · unfold iPl gPl
      rw [z1, z5, a115, a116, a117, g3, g4]
      exact ⟨⟨⟨k0, k3, n0, n14⟩, pp, ps, pset⟩, pw, pc, pr, t0, t1, w0, w1⟩
    · unfold pRel
      rw [z1, z5, a115, a116, a117, g3, g4, lo 1 3 (.inl (by decide)) (.inl (by decide)) (.inr (by decide)), lo 1 4 (.inl (by decide)) (.inl (by decide)) (.inr (by decide)), m2 1 5 (.inl (by decide)), m5, m2 1 6 (.inl (by decide)), m6]
      simp only [hi 10 _ (by decide) (by decide), hi 3 _ (by decide) (by decide), hi 4 _ (by decide) (by decide), hi 5 _ (by decide) (by decide), hi 7 _ (by decide) (by decide), hi 8 _ (by decide) (by decide), hi 9 _ (by decide) (by decide)]
      exact ⟨r1, r2, trivial, trivial, r5, r6, r7⟩
    · rw [m2 _ _ (.inl (by decide))]; exact e08
    · rw [m2 _ _ (.inl (by decide))]; exact e09
    · exact lo _ _ (.inl (by decide)) (.inr (by decide)) (.inl (by decide))
    · exact lo _ _ (by omega) (.inl (by omega)) (.inl (by omega))
