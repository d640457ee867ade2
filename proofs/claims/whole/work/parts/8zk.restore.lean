/-! pairs: restore -/
theorem qa_restore {M : jMm} {Q : Int → jMm → Prop} (h39 : M 114 39 = 1) (hq : ∀ M', (∀ x y, x ≠ 115 → x ≠ 116 → x ≠ 117 → (x ≠ 114 ∨ (y ≠ 1 ∧ y ≠ 3 ∧ y ≠ 4 ∧ y ≠ 5)) → M' x y = M x y) → (∀ q, 0 ≤ q → q < 7 → M' 115 q = M 139 q) → (∀ q, 0 ≤ q → q < 9 → M' 116 q = M 139 (7 + q)) → (∀ q, 0 ≤ q → q < 42 → M' 117 q = M 139 (16 + q)) → (M' 114 1 = M 139 58 ∧ M' 114 3 = M 139 59 ∧ M' 114 4 = M 139 60 ∧ M' 114 5 = M 139 61) → Q 1 M') : f_X7_restore [114] M Q := by
  unfold f_X7_restore
  have l139 : 62 ≤ s_len 139 := by rw [mln139]; decide
  have l115 := mln115
  have l116 := mln116
  have l117 := mln117
  have gv : ∀ (L : jLo) (M1 : jMm) (N : jLo → jMm → Prop) (R : Int → jMm → Prop) (f a o : Int) (e : jEx), L 0 = 114 → s_rf 114 f = a → (∀ Q1 : Int → jMm → Prop, e L M1 Q1 = Q1 o M1) → f_X7_gives [139, o, a] M1 (fun v M2 => N (jup L 1 v) M2) → tSet 1 (xCall f_X7_gives (xsC (xGr (xV 0) 38) (xsC e (xsC (xGr (xV 0) f) xsN)))) L M1 N R := fun L M1 N R f a o e l0 hf he h => by
    show e L M1 (fun v M2 => f_X7_gives [s_rf (L 0) 38, v, s_rf (L 0) f] M2 (fun v M2 => N (jup L 1 v) M2))
    rw [he, l0, hf, mrf38]; exact h
  refine mt_ (sq_ (if_pc (M 114 39 = 0) (nz_pc (fun Q => rfl)) (fun c => by omega) (fun _ => sk_ ?_)))
  refine sq_ (gv _ _ _ _ 0 115 0 _ rfl mrf0 (fun Q => rfl) ?_)
  refine mo_gives (by decide) (by omega) (by omega) (by decide) (by decide) (by omega) (fun M1 F1 h1 => ?_)
  rw [l115] at F1 h1 ⊢
  refine sq_ (gv _ _ _ _ 2 116 7 _ rfl mrf2 (fun Q => rfl) ?_)
  refine mo_gives (by decide) (by omega) (by omega) (by decide) (by decide) (by omega) (fun M2 F2 h2 => ?_)
  rw [l116] at F2 h2 ⊢
  refine sq_ (gv _ _ _ _ 6 117 16 _ rfl mrf6 (fun Q => rfl) ?_)
  refine mo_gives (by decide) (by omega) (by omega) (by decide) (by decide) (by omega) (fun M3 F3 h3 => ?_)
  rw [l117] at F3 h3 ⊢
  have F : ∀ x y, x ≠ 115 → x ≠ 116 → x ≠ 117 → M3 x y = M x y := fun x y a b c => by rw [F3 _ _ (.inl c), F2 _ _ (.inl b), F1 _ _ (.inl a)]
  have as : ∀ (L : jLo) (M4 : jMm) (N : jLo → jMm → Prop) (R : Int → jMm → Prop) (ei : jEx) (x f : Int), L 0 = 114 → (∀ Q1 : Int → jMm → Prop, ei L M4 Q1 = Q1 x M4) → 0 ≤ x → x < 62 → N L (jwr M4 114 f (M4 139 x)) → tPut (xV 0) f (xAl (xGr (xV 0) 38) ei) L M4 N R := fun L M4 N R ei x f l0 he x0 x1 h => by
    show ei L M4 (fun x M5 => (0 ≤ x ∧ x < s_len (s_rf (L 0) 38)) ∧ N L (jwr M5 (L 0) f (M5 (s_rf (L 0) 38) x)))
    rw [he, l0, mrf38]; exact ⟨⟨x0, by omega⟩, h⟩
  refine sq_ (as _ _ _ _ _ 58 1 rfl (fun Q => rfl) (by decide) (by decide) ?_)
  refine sq_ (as _ _ _ _ _ 59 3 rfl (bn_add (x := 58) (y := 1) (fun Q => rfl) (fun Q => rfl) (by unfold ir; decide)) (by decide) (by decide) ?_)
  refine sq_ (as _ _ _ _ _ 60 4 rfl (bn_add (x := 58) (y := 2) (fun Q => rfl) (fun Q => rfl) (by unfold ir; decide)) (by decide) (by decide) ?_)
  refine sq_ (as _ _ _ _ _ 61 5 rfl (bn_add (x := 58) (y := 3) (fun Q => rfl) (fun Q => rfl) (by unfold ir; decide)) (by decide) (by decide) ?_)
  have j1 : ∀ (M5 : jMm) (x v y : Int), jwr M5 114 x v 139 y = M5 139 y := fun M5 x v y => jw0 (.inl (by decide))
  rw [j1, j1, j1, j1, j1, j1, F 139 58 (by decide) (by decide) (by decide), F 139 59 (by decide) (by decide) (by decide), F 139 60 (by decide) (by decide) (by decide), F 139 61 (by decide) (by decide) (by decide)]
  generalize hM4 : jwr (jwr (jwr (jwr M3 114 1 (M 139 58)) 114 3 (M 139 59)) 114 4 (M 139 60)) 114 5 (M 139 61) = M4
  have lo : ∀ x y, (x ≠ 114 ∨ (y ≠ 1 ∧ y ≠ 3 ∧ y ≠ 4 ∧ y ≠ 5)) → M4 x y = M3 x y := fun x y h => by rw [← hM4, jw0 (by omega), jw0 (by omega), jw0 (by omega), jw0 (by omega)]
  have w : M4 114 1 = M 139 58 ∧ M4 114 3 = M 139 59 ∧ M4 114 4 = M 139 60 ∧ M4 114 5 = M 139 61 := by
    rw [← hM4]
    exact ⟨by rw [jw0 (by omega), jw0 (by omega), jw0 (by omega), jw1 ⟨rfl, rfl⟩], by rw [jw0 (by omega), jw0 (by omega), jw1 ⟨rfl, rfl⟩], by rw [jw0 (by omega), jw1 ⟨rfl, rfl⟩], by rw [jw1 ⟨rfl, rfl⟩]⟩
  clear hM4
  refine rt_ (hq M4 (fun x y a b c d => by rw [lo _ _ d, F x y a b c]) (fun q q0 q1 => ?_) (fun q q0 q1 => ?_) (fun q q0 q1 => ?_) w)
  · have := h1 q q0 q1
    rw [show (0 : Int) + q = q by omega] at this
    rw [lo _ _ (.inl (by decide)), F3 _ _ (.inl (by decide)), F2 _ _ (.inl (by decide)), this]
  · rw [lo _ _ (.inl (by decide)), F3 _ _ (.inl (by decide)), h2 q q0 q1, F1 _ _ (.inl (by decide))]
  · rw [lo _ _ (.inl (by decide)), h3 q q0 q1, F2 _ _ (.inl (by decide)), F1 _ _ (.inl (by decide))]
theorem iPl_on {P P' : jMm} (h : iPl P) (e : P' 114 1 = P 114 1 ∧ P' 114 3 = P 114 3 ∧ P' 114 4 = P 114 4 ∧ P' 114 5 = P 114 5) (p5 : ∀ q, 0 ≤ q → q < 7 → P' 115 q = P 115 q) (p6 : ∀ q, 0 ≤ q → q < 9 → P' 116 q = P 116 q) (p7 : ∀ q, 0 ≤ q → q < 42 → P' 117 q = P 117 q) : iPl P' := by
  obtain ⟨⟨hk, pp, ps, pset⟩, pw, pc, pr, pch⟩ := h
  unfold iPl gPl
  rw [e.1, e.2.1, e.2.2.1, e.2.2.2]
  refine ⟨⟨hk, fun p q0 q1 => by rw [p7 _ (by omega) (by omega), p7 _ (by omega) (by omega), p7 _ (by omega) (by omega)]; exact pp p q0 q1, fun s s0 s1 => by rw [p6 _ (by omega) (by omega)]; exact ps s s0 s1, ?_⟩, fun s s0 s3 => by rw [p6 _ (by omega) (by omega)]; exact pw s s0 s3, fun s s0 s1 => by rw [p6 _ (by omega) (by omega)]; exact pc s s0 s1, by rw [p5 0 (by decide) (by decide)]; exact pr, pch⟩
  rw [p5 1 (by decide) (by decide), p5 2 (by decide) (by decide), p5 3 (by decide) (by decide), p5 4 (by decide) (by decide), p5 5 (by decide) (by decide), p5 6 (by decide) (by decide)]; exact pset
theorem pRel_on {M M' P P' : jMm} (h : pRel M P) (pl : iPl P) (m : ∀ b, 3 ≤ b → b ≤ 6 → M' 1 b = M 1 b) (m3 : ∀ q, 0 ≤ q → q < 3 → M' 3 q = M 3 q ∧ M' 4 q = M 4 q ∧ M' 5 q = M 5 q) (m7 : ∀ q, 0 ≤ q → q < 14 → M' 7 q = M 7 q ∧ M' 8 q = M 8 q ∧ M' 9 q = M 9 q) (m10 : ∀ q, 0 ≤ q → q < 7 → M' 10 q = M 10 q) (e : P' 114 1 = P 114 1 ∧ P' 114 3 = P 114 3 ∧ P' 114 4 = P 114 4 ∧ P' 114 5 = P 114 5) (p5 : ∀ q, 0 ≤ q → q < 7 → P' 115 q = P 115 q) (p6 : ∀ q, 0 ≤ q → q < 9 → P' 116 q = P 116 q) (p7 : ∀ q, 0 ≤ q → q < 42 → P' 117 q = P 117 q) : pRel M' P' := by
  obtain ⟨r1, r2, r3, r4, r5, r6, r7⟩ := h
  have hk := pl.1.1
  unfold pRel
  rw [e.1, e.2.1, e.2.2.1, e.2.2.2, m 3 (by decide) (by decide), m 4 (by decide) (by decide), m 5 (by decide) (by decide), m 6 (by decide) (by decide)]
  refine ⟨r1, r2, r3, r4, fun j j0 j6 => ?_, fun s s0 s1 => ?_, fun p q0 q1 => ?_⟩
  · rw [m10 j j0 (by omega), p5 j j0 (by omega)]; exact r5 j j0 j6
  · obtain ⟨a, b, c⟩ := m3 s s0 (by omega)
    rw [a, b, c, p6 _ (by omega) (by omega), p6 _ (by omega) (by omega), p6 _ (by omega) (by omega)]; exact r6 s s0 s1
  · obtain ⟨a, b, c⟩ := m7 p q0 (by omega)
    rw [a, b, c, p7 _ (by omega) (by omega), p7 _ (by omega) (by omega), p7 _ (by omega) (by omega)]; exact r7 p q0 q1
theorem y_restore : yPair Inv f_X6_restore f_X7_restore [] := by
  intro M Q I hq
  unfold f_X6_restore
  obtain ⟨⟨pl, rl⟩, kp, -⟩ := id I
  rcases kp with ⟨z1, z2⟩ | ⟨z1, z2, kr, kpl⟩
  · refine mt_ (sq_ (if_pc (M 0 2 = 0) (nz_pc (fun Q => rfl)) (fun _ => ?_) (fun c => absurd z1 c)))
    show f_X7_restore [114] M _
    unfold f_X7_restore
    exact mt_ (sq_ (if_pc (M 114 39 = 0) (nz_pc (fun Q => rfl)) (fun _ => hq _ _ I) (fun c => absurd z2 c)))
  · refine mt_ (sq_ (if_pc (M 0 2 = 0) (nz_pc (fun Q => rfl)) (fun c => by omega) (fun _ => sk_ (sq_ (seqG (x := 1) (y := 11) (fun Q => by show Q (s_rf 0 0) M = _; rw [rf_0_0]) (fun Q => by show Q (s_rf 0 1) M = _; rw [rf_0_1]) ?_)))))
    refine q_plan (.inl rfl) (.inr rfl) (by decide) (fun M1 F1 g1 g2 g3 g4 => sq_ (do1 ?_))
    show f_X6_tellAnew [0] M1 _
    rw [q_X6_tellAnew]
    refine rt_ ?_
    show f_X7_restore [114] (jwr (jwr M1 0 8 0) 0 9 0) (fun b M2 => Q 1 b M2)
    generalize hM2 : jwr (jwr M1 0 8 0) 0 9 0 = M2
    have m2 : ∀ a b, (a ≠ 0 ∨ (b ≠ 8 ∧ b ≠ 9)) → M2 a b = M1 a b := fun a b h => by rw [← hM2, jw0 (by omega), jw0 (by omega)]
    have e08 : M2 0 8 = 0 := by rw [← hM2, jw0 (by omega), jw1 ⟨rfl, rfl⟩]
    have e09 : M2 0 9 = 0 := by rw [← hM2, jw1 ⟨rfl, rfl⟩]
    clear hM2
    have F : ∀ a b, 11 ≤ a → M2 a b = M a b := fun a b h => by rw [m2 a b (.inl (by omega)), F1 a b (by omega)]
    have e02 : M2 0 2 = M 0 2 := by rw [m2 0 2 (.inr (by decide)), F1 0 2 (by omega)]
    refine qa_restore (by rw [F _ _ (by decide)]; exact z2) (fun M3 F3 w5 w6 w7 we => hq _ _ ?_)
    have hi : ∀ a b, 11 ≤ a → a ≠ 115 → a ≠ 116 → a ≠ 117 → (a ≠ 114 ∨ (b ≠ 1 ∧ b ≠ 3 ∧ b ≠ 4 ∧ b ≠ 5)) → M3 a b = M a b := fun a b h h1 h2 h3 h4 => by rw [F3 a b h1 h2 h3 h4, F a b h]
    have kp : ∀ a b, 1 ≤ a → a < 11 → M3 a b = M1 a b := fun a b h h1 => by rw [F3 a b (by omega) (by omega) (by omega) (by omega), m2 a b (by omega)]
    have f9 : ∀ b, M2 139 b = M 139 b := fun b => F _ _ (by decide)
    have p5 : ∀ q, 0 ≤ q → q < 7 → M3 115 q = imP M 115 q := fun q a b => (w5 q a b).trans (f9 q)
    have p6 : ∀ q, 0 ≤ q → q < 9 → M3 116 q = imP M 116 q := fun q a b => (w6 q a b).trans (f9 (7 + q))
    have p7 : ∀ q, 0 ≤ q → q < 42 → M3 117 q = imP M 117 q := fun q a b => (w7 q a b).trans (f9 (16 + q))
    have pe : M3 114 1 = imP M 114 1 ∧ M3 114 3 = imP M 114 3 ∧ M3 114 4 = imP M 114 4 ∧ M3 114 5 = imP M 114 5 := ⟨we.1.trans (f9 58), we.2.1.trans (f9 59), we.2.2.1.trans (f9 60), we.2.2.2.trans (f9 61)⟩
    have m3 : ∀ q, 0 ≤ q → q < 3 → M3 3 q = kpM M 3 q ∧ M3 4 q = kpM M 4 q ∧ M3 5 q = kpM M 5 q := fun q a b => ⟨(kp 3 q (by decide) (by decide)).trans (g2 0 q (by decide) (by decide) a b), (kp 4 q (by decide) (by decide)).trans (g2 1 q (by decide) (by decide) a b), (kp 5 q (by decide) (by decide)).trans (g2 2 q (by decide) (by decide) a b)⟩
    have m7 : ∀ q, 0 ≤ q → q < 14 → M3 7 q = kpM M 7 q ∧ M3 8 q = kpM M 8 q ∧ M3 9 q = kpM M 9 q := fun q a b => ⟨(kp 7 q (by decide) (by decide)).trans (g3 0 q (by decide) (by decide) a b), (kp 8 q (by decide) (by decide)).trans (g3 1 q (by decide) (by decide) a b), (kp 9 q (by decide) (by decide)).trans (g3 2 q (by decide) (by decide) a b)⟩
    refine Inv_anew I (iPl_on kpl pe p5 p6 p7) (pRel_on kr kpl (fun b b3 b6 => (kp 1 b (by decide) (by decide)).trans (g1 b b3 b6)) m3 m7 (fun q a b => (kp 10 q (by decide) (by decide)).trans (g4 q a b)) pe p5 p6 p7) ?_ ?_ ?_ (fun a b h => hi a b (by omega) (by omega) (by omega) (by omega) (by omega))
    · rw [F3 0 8 (by decide) (by decide) (by decide) (.inl (by decide))]; exact e08
    · rw [F3 0 9 (by decide) (by decide) (by decide) (.inl (by decide))]; exact e09
    · rw [F3 0 2 (by decide) (by decide) (by decide) (.inl (by decide))]; exact e02
