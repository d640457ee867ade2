/-! the program: other days than the told one -/
theorem pdB_fl {d r wo : Int} {ways paces ways' paces' : Int → Int} {M M' P : jMm} (B : pdB d M P r wo ways paces) (pl : gPl P) (h : ∀ a b, (∀ s, 0 ≤ s → s < P 114 1 → a ≠ d + 20 + 2 * s ∨ (b ≠ 2 ∧ b ≠ 3)) → (a ≠ d ∨ (b ≠ 10 ∧ b ≠ 11)) → M' a b = M a b) (h2 : ∀ s, 0 ≤ s → s < P 114 1 → M' (d + 20 + 2 * s) 2 = ways' s ∧ M' (d + 20 + 2 * s) 3 = paces' s) : pdB d M' P r wo ways' paces' := by
  obtain ⟨b1, b2, b3, b4⟩ := B
  have hk := pl.1.2.1
  have hn := pl.1.2.2.2
  refine ⟨?_, fun s s0 s1 => ?_, fun p p0 p1 => ?_, ?_⟩
  · have e0 : ∀ b, b ≠ 10 → b ≠ 11 → M' d b = M d b := fun b x y => h _ _ (fun s s0 s1 => .inl (by omega)) (.inr ⟨x, y⟩)
    have e3 : ∀ b, M' (d + 3) b = M (d + 3) b := fun b => h _ _ (fun s s0 s1 => .inl (by omega)) (.inl (by omega))
    have e5 : ∀ b, M' (d + 5) b = M (d + 5) b := fun b => h _ _ (fun s s0 s1 => .inl (by omega)) (.inl (by omega))
    unfold pHd at b1 ⊢
    rw [e0 5 (by decide) (by decide), e0 6 (by decide) (by decide), e0 8 (by decide) (by decide), e0 9 (by decide) (by decide), e0 12 (by decide) (by decide), e0 13 (by decide) (by decide), e0 14 (by decide) (by decide), e0 15 (by decide) (by decide)]
    simp only [e3, e5]
    exact b1
  · obtain ⟨f1, -, -, f4, f5, f6⟩ := b2 s s0 s1
    obtain ⟨g2, g3⟩ := h2 s s0 s1
    have e : ∀ b, b ≠ 2 → b ≠ 3 → M' (d + 20 + 2 * s) b = M (d + 20 + 2 * s) b := fun b x y => h _ _ (fun s' s0' s1' => .inr ⟨x, y⟩) (.inl (by omega))
    refine ⟨?_, g2, g3, ?_, ?_, fun b c0 c1 => ?_⟩
    · rw [e 1 (by decide) (by decide)]; exact f1
    · rw [e 4 (by decide) (by decide)]; exact f4
    · rw [e 5 (by decide) (by decide)]; exact f5
    · rw [h _ _ (fun s' s0' s1' => .inl (by omega)) (.inl (by omega))]; exact f6 b c0 c1
  · have := b3 p p0 p1
    have e : ∀ b, M' (d + 6 + p) b = M (d + 6 + p) b := fun b => h _ _ (fun s' s0' s1' => .inl (by omega)) (.inl (by omega))
    unfold pRi at this ⊢
    simp only [e]; exact this
  · have e7 : M' d 7 = M d 7 := h _ _ (fun s s0 s1 => .inl (by omega)) (.inr ⟨by decide, by decide⟩)
    have e4 : ∀ b, M' (d + 4) b = M (d + 4) b := fun b => h _ _ (fun s s0 s1 => .inl (by omega)) (.inl (by omega))
    rw [e7]
    unfold pLn at b4 ⊢
    simp only [e4]; exact b4
theorem pd_allDay {d w : Int} {M P : jMm} {Q : Int → jMm → Prop} (hd : isDay d) (pl : gPl P) (rel : pRel M P) (w0 : 0 ≤ w) (hq : ∀ M', pdB d M' P (P 115 0) (-4) (wy w) (fun s => P 116 (3 * s + 2)) → M' d 10 = 0 → oFr d M M' → Q 0 M') : f_X0_loadAllDay [d, 1, w] M Q := by
  unfold f_X0_loadAllDay
  have hk := pl.1.2.1
  have hk0 := pl.1.1
  refine mt_ (sq_ (do3e (x0 := d) (x1 := 1) (x2 := -1) (fun Q => rfl) (fun Q => rfl) (fun Q => rfl) ?_))
  refine pd_load hd pl rel (wo := -4) (fun p p0 => by omega) (fun M1 B1 _ _ F1 => ?_)
  refine sq_ (do3e (x0 := d) (x1 := 0) (x2 := 0) (fun Q => rfl) (fun Q => rfl) (fun Q => rfl) ?_)
  rw [pd_turnAt]
  generalize hM2 : jwr (jwr M1 d 10 0) d 11 0 = M2
  have m2 : ∀ a b, (a ≠ d ∨ (b ≠ 10 ∧ b ≠ 11)) → M2 a b = M1 a b := fun a b h => by rw [← hM2, jw0 (by omega), jw0 (by omega)]
  have m10 : M2 d 10 = 0 := by rw [← hM2, jw0 (by omega), jw1 ⟨rfl, rfl⟩]
  clear hM2
  refine sq_ (sq_ (st_c ?_))
  have ek : (((P 114 1).toNat : Nat) : Int) = P 114 1 := by omega
  refine up0 (P 114 1).toNat (fun j L M3 => L 0 = d ∧ L 2 = w ∧ (∀ a b, (∀ s : Int, 0 ≤ s → s < j → a ≠ d + 20 + 2 * s ∨ b ≠ 2) → M3 a b = M2 a b) ∧ ∀ s : Int, 0 ≤ s → s < j → M3 (d + 20 + 2 * s) 2 = wy w s) rfl (by omega) ⟨rfl, rfl, fun _ _ _ => rfl, fun s a b => by omega⟩ ?_ ?_ ?_
  · rintro j L M3 Q' ⟨l0, -, hf, -⟩ hq'
    show Q' (M3 (L 0) 5) M3
    rw [l0, hf _ _ (fun s a b => .inl (by omega)), m2 _ _ (.inr ⟨by decide, by decide⟩), B1.1.1, ← ek]; exact hq'
  · rintro j L M3 N3 hj hi ⟨l0, l2, hf, hs⟩ hN3
    have j0 : (0 : Int) ≤ j := by omega
    have j3 : (j : Int) < 3 := by omega
    have ex : ((j + 1 : Nat) : Int) = (j : Int) + 1 := by omega
    refine pu (k := d + 20 + 2 * j) (v := wy w j) (fun Q => ?_) (fun Q => ?_) (hN3 _ _ hi ⟨l0, l2, fun a b h => ?_, fun s s0 s1 => ?_⟩)
    · simp only [xAr, xGr, xV, l0, hi, drf1 hd, dln2 hd, dfs hd j0 j3, j0, j3, true_and, and_self]
    · simp only [xCall, xsC, xsN, xV, l2, hi, pd_wayOf w0 j0 j3]
    · rw [jw0 (by have := h j (by omega) (by omega); omega)]
      exact hf a b (fun s a0 a1 => h s a0 (by omega))
    · by_cases e : s = j
      · rw [e, jw1 ⟨rfl, rfl⟩]
      · rw [jw0 (by omega)]; exact hs s s0 (by omega)
  · rintro L M3 hi ⟨-, -, hf, hs⟩
    refine hq M3 (pdB_fl B1 pl (fun a b h1 h2 => ?_) (fun s s0 s1 => ⟨hs s s0 (by omega), ?_⟩)) ?_ (fun a b hab => ?_)
    · rw [hf _ _ (fun s s0 s1 => by have := h1 s s0 (by omega); omega)]
      exact m2 a b h2
    · rw [hf _ _ (fun s' _ _ => .inr (by decide)), m2 _ _ (.inl (by omega))]
      exact (B1.2.1 s s0 s1).2.2.1
    · rw [hf _ _ (fun s a b => .inl (by omega))]; exact m10
    · rw [hf _ _ (fun s a b => .inl (by omega)), m2 _ _ (.inl (by omega))]; exact F1 a b hab
theorem bit_lt : ∀ (k : Fin 8) (s : Fin 3), b_and (b_shr (k.val : Int) (s.val : Int)) 1 = 0 ∨ b_and (b_shr (k.val : Int) (s.val : Int)) 1 = 1 := by decide +kernel
theorem bit_01 {k s : Int} (k0 : 0 ≤ k) (k8 : k < 8) (s0 : 0 ≤ s) (s3 : s < 3) : b_and (b_shr k s) 1 = 0 ∨ b_and (b_shr k s) 1 = 1 := by
  have := bit_lt ⟨k.toNat, by omega⟩ ⟨s.toNat, by omega⟩
  have e1 : ((k.toNat : Nat) : Int) = k := by omega
  have e2 : ((s.toNat : Nat) : Int) = s := by omega
  dsimp only at this
  rw [e1, e2] at this
  exact this
theorem pd_setPaces {d k r wo : Int} {ways paces : Int → Int} {M P : jMm} {Q : Int → jMm → Prop} (hd : isDay d) (pl : gPl P) (B : pdB d M P r wo ways paces) (k0 : 0 ≤ k) (k8 : k < 8) (hq : ∀ M', pdB d M' P r wo ways (fun s => b_and (b_shr k s) 1 + 1) → M' d 10 = M d 10 → M' d 11 = M d 11 → oFr d M M' → Q 0 M') : f_X0_setPaces [d, k] M Q := by
  unfold f_X0_setPaces
  have hk := pl.1.2.1
  have hk0 := pl.1.1
  refine mt_ (sq_ (sq_ (st_c ?_)))
  have ek : (((P 114 1).toNat : Nat) : Int) = P 114 1 := by omega
  refine up0 (P 114 1).toNat (fun j L M3 => L 0 = d ∧ L 1 = k ∧ (∀ a b, (∀ s : Int, 0 ≤ s → s < j → a ≠ d + 20 + 2 * s ∨ b ≠ 3) → M3 a b = M a b) ∧ ∀ s : Int, 0 ≤ s → s < j → M3 (d + 20 + 2 * s) 3 = b_and (b_shr k s) 1 + 1) rfl (by omega) ⟨rfl, rfl, fun _ _ _ => rfl, fun s a b => by omega⟩ ?_ ?_ ?_
  · rintro j L M3 Q' ⟨l0, -, hf, -⟩ hq'
    show Q' (M3 (L 0) 5) M3
    rw [l0, hf _ _ (fun s a b => .inl (by omega)), B.1.1, ← ek]; exact hq'
  · rintro j L M3 N3 hj hi ⟨l0, l1, hf, hs⟩ hN3
    have j0 : (0 : Int) ≤ j := by omega
    have j3 : (j : Int) < 3 := by omega
    have b01 := bit_01 k0 k8 j0 j3
    have i1 : ir (1 + b_and (b_shr k j) 1) := ⟨by omega, by omega⟩
    refine pu (k := d + 20 + 2 * j) (v := 1 + b_and (b_shr k j) 1) (fun Q => ?_) (fun Q => ?_) (hN3 _ _ hi ⟨l0, l1, fun a b h => ?_, fun s s0 s1 => ?_⟩)
    · simp only [xAr, xGr, xV, l0, hi, drf1 hd, dln2 hd, dfs hd j0 j3, j0, j3, true_and, and_self]
    · simp only [xBin, boAdd, boAnd, boShr, xV, xC, l1, hi, i1, true_and]
    · rw [jw0 (by have := h j (by omega) (by omega); omega)]
      exact hf a b (fun s a0 a1 => h s a0 (by omega))
    · by_cases e : s = j
      · rw [e, jw1 ⟨rfl, rfl⟩]; omega
      · rw [jw0 (by omega)]; exact hs s s0 (by omega)
  · rintro L M3 hi ⟨-, -, hf, hs⟩
    refine hq M3 (pdB_fl B pl (fun a b h1 h2 => ?_) (fun s s0 s1 => ⟨?_, hs s s0 (by omega)⟩)) ?_ ?_ (fun a b hab => ?_)
    · exact hf _ _ (fun s s0 s1 => by have := h1 s s0 (by omega); omega)
    · rw [hf _ _ (fun s' _ _ => .inr (by decide))]
      exact (B.2.1 s s0 s1).2.1
    · exact hf _ _ (fun s a b => .inl (by omega))
    · exact hf _ _ (fun s a b => .inl (by omega))
    · exact hf _ _ (fun s a b => .inl (by omega))
theorem wy_all : ∀ (w : Fin 27) (s s' : Fin 3), wy ((w.val : Int) - wy (w.val : Int) (s.val : Int) * s_sv 7 (s.val : Int)) (s'.val : Int) = (if s' = s then 0 else wy (w.val : Int) (s'.val : Int)) ∧ 0 ≤ (w.val : Int) - wy (w.val : Int) (s.val : Int) * s_sv 7 (s.val : Int) ∧ 0 ≤ wy (w.val : Int) (s.val : Int) * s_sv 7 (s.val : Int) ∧ wy (w.val : Int) (s.val : Int) * s_sv 7 (s.val : Int) ≤ 18 := by decide +kernel
theorem wy_less {w s s' : Int} (w0 : 0 ≤ w) (w27 : w < 27) (s0 : 0 ≤ s) (s3 : s < 3) (s0' : 0 ≤ s') (s3' : s' < 3) : wy (w - wy w s * s_sv 7 s) s' = (if s' = s then 0 else wy w s') ∧ 0 ≤ w - wy w s * s_sv 7 s ∧ 0 ≤ wy w s * s_sv 7 s ∧ wy w s * s_sv 7 s ≤ 18 := by
  have := wy_all ⟨w.toNat, by omega⟩ ⟨s.toNat, by omega⟩ ⟨s'.toNat, by omega⟩
  have e1 : ((w.toNat : Nat) : Int) = w := by omega
  have e2 : ((s.toNat : Nat) : Int) = s := by omega
  have e3 : ((s'.toNat : Nat) : Int) = s' := by omega
  dsimp only at this
  rw [e1, e2, e3] at this
  refine ⟨?_, this.2⟩
  rw [this.1]
  by_cases c : s' = s
  · subst c; rw [if_pos rfl, if_pos rfl]
  · rw [if_neg c, if_neg (fun z => c (by have := congrArg Fin.val z; dsimp only at this; omega))]
theorem pd_keepStanding {d s r wo : Int} {ways paces : Int → Int} {M P : jMm} {Q : Int → jMm → Prop} (hd : isDay d) (pl : gPl P) (B : pdB d M P r wo ways paces) (s0 : 0 ≤ s) (s1 : s < P 114 1) (w0 : 0 ≤ M d 11) (w27 : M d 11 < 27) (hq : ∀ M', pdB d M' P r wo (fun q => if q = s then 0 else ways q) paces → M' d 10 = M d 10 → (0 ≤ M' d 11 ∧ ∀ q, 0 ≤ q → q < 3 → wy (M' d 11) q = if q = s then 0 else wy (M d 11) q) → oFr d M M' → Q 0 M') : f_X0_keepStanding [d, s] M Q := by
  unfold f_X0_keepStanding
  have hk := pl.1.2.1
  have s3 : s < 3 := by omega
  obtain ⟨e0, e1, e2, -, e4⟩ := sv7
  have d5 : M d 5 = P 114 1 := B.1.1
  have i1 : ir (P 114 1 - 1) := ⟨by omega, by omega⟩
  have hb : bt 0 s (P 114 1 - 1) = 1 := by unfold bt; rw [if_pos (by omega)]
  have wl := fun q q0 q3 => wy_less (s' := q) w0 w27 s0 s3 q0 q3
  have wls := (wl s s0 s3).2
  have i2 : ir (wy (M d 11) s * s_sv 7 s) := ⟨by omega, by omega⟩
  have i3 : ir (M d 11 - wy (M d 11) s * s_sv 7 s) := ⟨by omega, by omega⟩
  refine mt_ (sq_ (if_pc True (fun T F => propext ?_) (fun _ => ?_) (fun c => absurd trivial c)))
  · simp [kZ, xCall, xsC, xsN, xBin, boSub, xGf, xV, xC, jIn, q_X6_isBetween, d5, i1, hb]
  refine sq_ (pu (k := d + 20 + 2 * s) (v := 0) (fun Q => ?_) (fun Q => rfl) ?_)
  · simp only [xAr, xGr, xV, jIn, drf1 hd, dln2 hd, dfs hd s0 s3, s0, s3, reduceIte, Nat.reduceEqDiff, true_and, and_self]
  have r11 : jwr M (d + 20 + 2 * s) 2 0 d 11 = M d 11 := jw0 (by omega)
  have is : 0 ≤ s ∧ s < 4 := by omega
  have wof : ∀ M Q', f_X6_wayOf [jwr M (d + 20 + 2 * s) 2 0 d 11, s] (jwr M (d + 20 + 2 * s) 2 0) Q' = Q' (wy (jwr M (d + 20 + 2 * s) 2 0 d 11) s) (jwr M (d + 20 + 2 * s) 2 0) ∨ True := fun _ _ => .inr trivial
  simp only [tPutO, xBin, boSub, boMul, xCall, xsC, xsN, xGf, xSt, xV, xC, jIn, reduceIte, Nat.reduceEqDiff, r11, pd_wayOf w0 s0 s3, e4, is, i2, i3, true_and, and_self]
  refine hq _ (pdB_fl B pl (fun a b h1 h2 => ?_) (fun q q0 q1 => ⟨?_, ?_⟩)) ?_ ⟨?_, fun q q0 q3 => ?_⟩ (fun a b hab => ?_)
  · rw [jw0 (by omega), jw0 (by have := h1 s s0 s1; omega)]
  · rw [jw0 (by omega)]
    by_cases c : q = s
    · rw [c, jw1 ⟨rfl, rfl⟩, if_pos rfl]
    · rw [jw0 (by omega), if_neg c]; exact (B.2.1 q q0 q1).2.1
  · rw [jw0 (by omega), jw0 (by omega)]; exact (B.2.1 q q0 q1).2.2.1
  · rw [jw0 (by omega), jw0 (by omega)]
  · rw [jw1 ⟨rfl, rfl⟩]; exact wls.1
  · rw [jw1 ⟨rfl, rfl⟩]; exact (wl q q0 q3).1
  · rw [jw0 (by omega), jw0 (by omega)]
