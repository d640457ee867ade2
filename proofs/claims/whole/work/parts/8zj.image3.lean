/-! pairs: image -/
theorem rf_0_1 : s_rf 0 1 = 11 := by decide +kernel
theorem y_image : yPair Inv f_X6_image f_X7_image [] := by
  intro M Q I hq
  unfold f_X6_image
  obtain ⟨⟨pl, rl⟩, -⟩ := id I
  refine mt_ (sq_ (seqG (x := 11) (y := 1) (fun Q => by show Q (s_rf 0 1) M = _; rw [rf_0_1]) (fun Q => by show Q (s_rf 0 0) M = _; rw [rf_0_0]) ?_))
  refine q_plan (.inr rfl) (.inl rfl) (by decide) (fun M1 F1 g1 g2 g3 g4 => sq_ ⟨.inr rfl, rt_ ?_⟩)
  show f_X7_image [114] (jwr M1 0 2 1) (fun b M2 => Q 1 b M2)
  generalize hM2 : jwr M1 0 2 1 = M2
  have m2 : ∀ a b, (a ≠ 0 ∨ b ≠ 2) → M2 a b = M1 a b := fun a b h => by rw [← hM2, jw0 h]
  have v2 : M2 0 2 = 1 := by rw [← hM2, jw1 ⟨rfl, rfl⟩]
  clear hM2
  have F : ∀ a b, (a ≠ 0 ∨ b ≠ 2) → (a < 11 ∨ 21 ≤ a) → M2 a b = M a b := fun a b h h' => by rw [m2 a b h, F1 a b (by omega)]
  refine qa_image (fun M3 F3 h39 w5 w6 w7 we => hq _ _ ?_)
  have lo : ∀ a b, (a ≠ 0 ∨ b ≠ 2) → (a < 11 ∨ 21 ≤ a) → a ≠ 139 → (a ≠ 114 ∨ b ≠ 39) → M3 a b = M a b := fun a b h h1 h2 h3 => by rw [F3 a b h2 h3, F a b h h1]
  have kp : ∀ a b, 11 ≤ a → a < 21 → M3 a b = M1 a b := fun a b h h1 => by rw [F3 a b (by omega) (by omega), m2 a b (by omega)]
  have f5 : ∀ b, M2 115 b = M 115 b := fun b => F _ _ (.inl (by decide)) (.inr (by decide))
  have f6 : ∀ b, M2 116 b = M 116 b := fun b => F _ _ (.inl (by decide)) (.inr (by decide))
  have f7 : ∀ b, M2 117 b = M 117 b := fun b => F _ _ (.inl (by decide)) (.inr (by decide))
  have f4 : ∀ b, M2 114 b = M 114 b := fun b => F _ _ (.inl (by decide)) (.inr (by decide))
  rw [f4, f4, f4, f4] at we
  have p5 : ∀ q, 0 ≤ q → q < 7 → imP M3 115 q = M 115 q := fun q a b => (w5 q a b).trans (f5 q)
  have p6 : ∀ q, 0 ≤ q → q < 9 → imP M3 116 q = M 116 q := fun q a b => (w6 q a b).trans (f6 q)
  have p7 : ∀ q, 0 ≤ q → q < 42 → imP M3 117 q = M 117 q := fun q a b => (w7 q a b).trans (f7 q)
  have c1 : imP M3 114 1 = M 114 1 := we.1
  have c3 : imP M3 114 3 = M 114 3 := we.2.1
  have c4 : imP M3 114 4 = M 114 4 := we.2.2.1
  have c5 : imP M3 114 5 = M 114 5 := we.2.2.2
  refine Inv_same I (fun b hb => lo _ _ (.inl (by decide)) (.inr (by decide)) (by decide) (by omega)) (fun b => ⟨lo _ _ (.inl (by decide)) (.inr (by decide)) (by decide) (by omega), lo _ _ (.inl (by decide)) (.inr (by decide)) (by decide) (by omega), lo _ _ (.inl (by decide)) (.inr (by decide)) (by decide) (by omega)⟩) (fun a b h h0 => lo _ _ (.inl h0) (.inl (by omega)) (by omega) (by omega)) (.inr ⟨?_, h39, ?_, ?_⟩) (iTape_eq I.2.2.1 (lo _ _ (.inl (by decide)) (.inr (by decide)) (by decide) (by decide)) (lo _ _ (.inl (by decide)) (.inr (by decide)) (by decide) (by decide)) (fun b => lo _ _ (.inl (by decide)) (.inr (by decide)) (by decide) (.inl (by decide))) (fun b => lo _ _ (.inl (by decide)) (.inr (by decide)) (by decide) (.inl (by decide)))) (fun s s0 s4 => iSheet_eq (I.2.2.2.1 s s0 s4) (fun b => lo _ _ (by omega) (by omega) (by omega) (by omega)) (fun b => lo _ _ (by omega) (by omega) (by omega) (by omega)) (lo _ _ (by omega) (by omega) (by omega) (by omega)) (lo _ _ (by omega) (by omega) (by omega) (by omega)) (fun i _ _ => lo _ _ (by omega) (by omega) (by omega) (by omega))) (.inl ⟨lo _ _ (by omega) (by omega) (by omega) (by omega), fun a b _ _ => lo _ _ (by omega) (by omega) (by omega) (by omega)⟩) (.inl (fun b _ _ => lo _ _ (by omega) (by omega) (by omega) (by omega)))
  · rw [F3 0 2 (by decide) (by decide)]; exact v2
  · obtain ⟨r1, r2, r3, r4, r5, r6, r7⟩ := rl
    have hk := pl.1.1
    refine ⟨(kp 11 3 (by decide) (by decide)).trans ((g1 3 (by decide) (by decide)).trans (r1.trans c1.symm)), (kp 11 4 (by decide) (by decide)).trans ((g1 4 (by decide) (by decide)).trans (r2.trans c5.symm)), (kp 11 5 (by decide) (by decide)).trans ((g1 5 (by decide) (by decide)).trans (r3.trans c3.symm)), (kp 11 6 (by decide) (by decide)).trans ((g1 6 (by decide) (by decide)).trans (r4.trans c4.symm)), fun j j0 j6 => (kp 20 j (by decide) (by decide)).trans ((g4 j j0 (by omega)).trans ((r5 j j0 j6).trans (p5 j j0 (by omega)).symm)), fun s s0 s1 => ?_, fun p q0 q1 => ?_⟩
    · rw [c1] at s1
      obtain ⟨a, b, c⟩ := r6 s s0 s1
      exact ⟨(kp 13 s (by decide) (by decide)).trans ((g2 0 s (by decide) (by decide) s0 (by omega)).trans (a.trans (p6 _ (by omega) (by omega)).symm)), (kp 14 s (by decide) (by decide)).trans ((g2 1 s (by decide) (by decide) s0 (by omega)).trans (b.trans (p6 _ (by omega) (by omega)).symm)), (kp 15 s (by decide) (by decide)).trans ((g2 2 s (by decide) (by decide) s0 (by omega)).trans (c.trans (p6 _ (by omega) (by omega)).symm))⟩
    · rw [c5] at q1
      obtain ⟨a, b, c⟩ := r7 p q0 q1
      exact ⟨(kp 17 p (by decide) (by decide)).trans ((g3 0 p (by decide) (by decide) q0 (by omega)).trans (a.trans (p7 _ (by omega) (by omega)).symm)), (kp 18 p (by decide) (by decide)).trans ((g3 1 p (by decide) (by decide) q0 (by omega)).trans (b.trans (p7 _ (by omega) (by omega)).symm)), (kp 19 p (by decide) (by decide)).trans ((g3 2 p (by decide) (by decide) q0 (by omega)).trans (c.trans (p7 _ (by omega) (by omega)).symm))⟩
  · obtain ⟨⟨hk, pp, ps, pset⟩, pw, pc, pr, pch⟩ := pl
    unfold iPl gPl
    rw [c1, c3, c4, c5]
    refine ⟨⟨hk, fun p q0 q1 => by rw [p7 _ (by omega) (by omega), p7 _ (by omega) (by omega), p7 _ (by omega) (by omega)]; exact pp p q0 q1, fun s s0 s1 => by rw [p6 _ (by omega) (by omega)]; exact ps s s0 s1, ?_⟩, fun s s0 s3 => by rw [p6 _ (by omega) (by omega)]; exact pw s s0 s3, fun s s0 s1 => by rw [p6 _ (by omega) (by omega)]; exact pc s s0 s1, by rw [p5 0 (by decide) (by decide)]; exact pr, pch⟩
    rw [p5 1 (by decide) (by decide), p5 2 (by decide) (by decide), p5 3 (by decide) (by decide), p5 4 (by decide) (by decide), p5 5 (by decide) (by decide), p5 6 (by decide) (by decide)]; exact pset
