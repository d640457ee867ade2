/-! image, in the model -/
theorem qa_image {M : jMm} {Q : Int → jMm → Prop} (hq : ∀ M', (∀ x y, x ≠ 139 → (x ≠ 114 ∨ y ≠ 39) → M' x y = M x y) → M' 114 39 = 1 → (∀ q, 0 ≤ q → q < 7 → M' 139 q = M 115 q) → (∀ q, 0 ≤ q → q < 9 → M' 139 (7 + q) = M 116 q) → (∀ q, 0 ≤ q → q < 42 → M' 139 (16 + q) = M 117 q) → (M' 139 58 = M 114 1 ∧ M' 139 59 = M 114 3 ∧ M' 139 60 = M 114 4 ∧ M' 139 61 = M 114 5) → Q 1 M') : f_X7_image [114] M Q := by
  unfold f_X7_image
  have l139 : 62 ≤ s_len 139 := by rw [mln139]; decide
  have l115 := mln115
  have l116 := mln116
  have l117 := mln117
  have sv : ∀ (L : jLo) (M1 : jMm) (N : jLo → jMm → Prop) (R : Int → jMm → Prop) (f a o : Int) (e : jEx), L 0 = 114 → s_rf 114 f = a → (∀ Q1 : Int → jMm → Prop, e L M1 Q1 = Q1 o M1) → f_X7_saves [a, 139, o] M1 (fun v M2 => N (jup L 1 v) M2) → tSet 1 (xCall f_X7_saves (xsC (xGr (xV 0) f) (xsC (xGr (xV 0) 38) (xsC e xsN)))) L M1 N R := fun L M1 N R f a o e l0 hf he h => by
    show e L M1 (fun v M2 => f_X7_saves [s_rf (L 0) f, s_rf (L 0) 38, v] M2 (fun v M2 => N (jup L 1 v) M2))
    rw [he, l0, hf, mrf38]; exact h
  refine mt_ (sq_ (sv _ _ _ _ 0 115 0 _ rfl mrf0 (fun Q => rfl) ?_))
  refine mo_saves (by decide) (by omega) (by omega) (by decide) (by decide) (by omega) (fun M1 F1 h1 => ?_)
  rw [l115] at F1 h1 ⊢
  refine sq_ (sv _ _ _ _ 2 116 7 _ rfl mrf2 (fun Q => rfl) ?_)
  refine mo_saves (by decide) (by omega) (by omega) (by decide) (by decide) (by omega) (fun M2 F2 h2 => ?_)
  rw [l116] at F2 h2 ⊢
  refine sq_ (sv _ _ _ _ 6 117 16 _ rfl mrf6 (fun Q => rfl) ?_)
  refine mo_saves (by decide) (by omega) (by omega) (by decide) (by decide) (by omega) (fun M3 F3 h3 => ?_)
  rw [l117] at F3 h3 ⊢
  have F : ∀ x y, x ≠ 139 → M3 x y = M x y := fun x y h => by rw [F3 _ _ (.inl h), F2 _ _ (.inl h), F1 _ _ (.inl h)]
  have as : ∀ (L : jLo) (M4 : jMm) (N : jLo → jMm → Prop) (R : Int → jMm → Prop) (ei : jEx) (x f : Int), L 0 = 114 → (∀ Q1 : Int → jMm → Prop, ei L M4 Q1 = Q1 x M4) → 0 ≤ x → x < 62 → N L (jwr M4 139 x (M4 114 f)) → tAst (xGr (xV 0) 38) ei (xGf (xV 0) f) L M4 N R := fun L M4 N R ei x f l0 he x0 x1 h => by
    show ei L M4 (fun x M5 => (0 ≤ x ∧ x < s_len (s_rf (L 0) 38)) ∧ N L (jwr M5 (s_rf (L 0) 38) x (M5 (L 0) f)))
    rw [he, l0, mrf38]; exact ⟨⟨x0, by omega⟩, h⟩
  refine sq_ (as _ _ _ _ _ 58 1 rfl (fun Q => rfl) (by decide) (by decide) ?_)
  refine sq_ (as _ _ _ _ _ 59 3 rfl (bn_add (x := 58) (y := 1) (fun Q => rfl) (fun Q => rfl) (by unfold ir; decide)) (by decide) (by decide) ?_)
  refine sq_ (as _ _ _ _ _ 60 4 rfl (bn_add (x := 58) (y := 2) (fun Q => rfl) (fun Q => rfl) (by unfold ir; decide)) (by decide) (by decide) ?_)
  refine sq_ (as _ _ _ _ _ 61 5 rfl (bn_add (x := 58) (y := 3) (fun Q => rfl) (fun Q => rfl) (by unfold ir; decide)) (by decide) (by decide) ?_)
  have j1 : ∀ (M5 : jMm) (x v y : Int), jwr M5 139 x v 114 y = M5 114 y := fun M5 x v y => jw0 (.inl (by decide))
  rw [j1, j1, j1, j1, j1, j1, F 114 1 (by decide), F 114 3 (by decide), F 114 4 (by decide), F 114 5 (by decide)]
  generalize hM4 : jwr (jwr (jwr (jwr M3 139 58 (M 114 1)) 139 59 (M 114 3)) 139 60 (M 114 4)) 139 61 (M 114 5) = M4
  have lo : ∀ x y, (x ≠ 139 ∨ y < 58) → M4 x y = M3 x y := fun x y h => by rw [← hM4, jw0 (by omega), jw0 (by omega), jw0 (by omega), jw0 (by omega)]
  have w : M4 139 58 = M 114 1 ∧ M4 139 59 = M 114 3 ∧ M4 139 60 = M 114 4 ∧ M4 139 61 = M 114 5 := by
    rw [← hM4]
    exact ⟨by rw [jw0 (by omega), jw0 (by omega), jw0 (by omega), jw1 ⟨rfl, rfl⟩], by rw [jw0 (by omega), jw0 (by omega), jw1 ⟨rfl, rfl⟩], by rw [jw0 (by omega), jw1 ⟨rfl, rfl⟩], by rw [jw1 ⟨rfl, rfl⟩]⟩
  clear hM4
  have z : ∀ x y, (x ≠ 114 ∨ y ≠ 39) → jwr M4 114 39 1 x y = M4 x y := fun x y h => jw0 h
  have k := hq (jwr M4 114 39 1) (fun x y h h' => by rw [z _ _ h', lo _ _ (.inl h), F x y h]) (jw1 ⟨rfl, rfl⟩) (fun q q0 q1 => by
    have := h1 q q0 q1
    rw [show (0 : Int) + q = q by omega] at this
    rw [z _ _ (.inl (by decide)), lo _ _ (.inr (by omega)), F3 _ _ (by omega), F2 _ _ (by omega), this]) (fun q q0 q1 => by
    rw [z _ _ (.inl (by decide)), lo _ _ (.inr (by omega)), F3 _ _ (by omega), h2 q q0 q1, F1 _ _ (.inl (by decide))]) (fun q q0 q1 => by
    rw [z _ _ (.inl (by decide)), lo _ _ (.inr (by omega)), h3 q q0 q1, F2 _ _ (.inl (by decide)), F1 _ _ (.inl (by decide))]) (by
    rw [z _ _ (.inl (by decide)), z _ _ (.inl (by decide)), z _ _ (.inl (by decide)), z _ _ (.inl (by decide))]; exact w)
  exact sq_ ⟨.inr rfl, rt_ k⟩
