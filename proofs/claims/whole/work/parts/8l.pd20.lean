/-! the program: a day is copied -/
theorem tcp {a i b j n : jEx} {k x h y z : Int} {L : jLo} {M : jMm} {N : jLo → jMm → Prop} {R : Int → jMm → Prop} (ha : ∀ Q : Int → jMm → Prop, a L M Q = Q k M) (hi : ∀ Q : Int → jMm → Prop, i L M Q = Q x M) (hb : ∀ Q : Int → jMm → Prop, b L M Q = Q h M) (hj : ∀ Q : Int → jMm → Prop, j L M Q = Q y M) (hn : ∀ Q : Int → jMm → Prop, n L M Q = Q z M) (hc : 0 ≤ x ∧ 0 ≤ y ∧ 0 ≤ z ∧ x + z ≤ s_len k ∧ y + z ≤ s_len h) (hN : N L (jwR M h y z (fun q => M k (q - y + x)))) : tCopy a i b j n L M N R := by
  show a L M (fun k M => i L M fun x M => b L M fun h M => j L M fun y M => n L M fun z M => (0 ≤ x ∧ 0 ≤ y ∧ 0 ≤ z ∧ x + z ≤ s_len k ∧ y + z ≤ s_len h) ∧ N L (jwR M h y z (fun q => M k (q - y + x))))
  rw [ha, hi, hb, hj, hn]; exact ⟨hc, hN⟩
theorem jR1 {M : jMm} {k j n a b : Int} {f : Int → Int} (h : a = k ∧ j ≤ b ∧ b < j + n) : jwR M k j n f a b = f b := by unfold jwR; rw [if_pos h]
theorem jR0 {M : jMm} {k j n a b : Int} {f : Int → Int} (h : a ≠ k) : jwR M k j n f a b = M a b := by unfold jwR; rw [if_neg (fun z => h z.1)]
theorem pd_copy3 {k h : Int} {M : jMm} {Q : Int → jMm → Prop} (hb : M h 10 = 0 ∨ M h 10 = 1) (hkh : k ≠ h) (hq : ∀ M', (∀ a b, a ≠ k → M' a b = M a b) → (∀ b, 0 ≤ b → b ≤ 10 → M' k b = M h b) → Q 0 M') : f_X3_copyFrom [k, h] M Q := by
  unfold f_X3_copyFrom
  refine mt_ ?_
  refine sq_ (pu (k := k) (v := M h 0) (fun Q => rfl) (fun Q => rfl) ?_)
  refine sq_ (pu (k := k) (v := M h 1) (fun Q => rfl) (fun Q => by show Q (jwr M k 0 (M h 0) h 1) _ = _; rw [jw0 (by omega)]) ?_)
  refine sq_ (pu (k := k) (v := M h 2) (fun Q => rfl) (fun Q => by show Q (jwr (jwr M k 0 (M h 0)) k 1 (M h 1) h 2) _ = _; rw [jw0 (by omega), jw0 (by omega)]) ?_)
  refine sq_ (pu (k := k) (v := M h 3) (fun Q => rfl) (fun Q => by show Q (jwr (jwr (jwr M k 0 (M h 0)) k 1 (M h 1)) k 2 (M h 2) h 3) _ = _; rw [jw0 (by omega), jw0 (by omega), jw0 (by omega)]) ?_)
  generalize hM4 : jwr (jwr (jwr (jwr M k 0 (M h 0)) k 1 (M h 1)) k 2 (M h 2)) k 3 (M h 3) = M4
  have r4 : ∀ a b, a ≠ k → M4 a b = M a b := fun a b x => by rw [← hM4, jw0 (by omega), jw0 (by omega), jw0 (by omega), jw0 (by omega)]
  have v0 : M4 k 0 = M h 0 := by rw [← hM4, jw0 (by omega), jw0 (by omega), jw0 (by omega), jw1 ⟨rfl, rfl⟩]
  have v1 : M4 k 1 = M h 1 := by rw [← hM4, jw0 (by omega), jw0 (by omega), jw1 ⟨rfl, rfl⟩]
  have v2 : M4 k 2 = M h 2 := by rw [← hM4, jw0 (by omega), jw1 ⟨rfl, rfl⟩]
  have v3 : M4 k 3 = M h 3 := by rw [← hM4, jw1 ⟨rfl, rfl⟩]
  clear hM4
  have rh : ∀ b, M4 h b = M h b := fun b => r4 h b (fun z => hkh z.symm)
  refine sq_ (pu (k := k) (v := M h 4) (fun Q => rfl) (fun Q => by show Q (M4 h 4) _ = _; rw [rh]) ?_)
  refine sq_ (pu (k := k) (v := M h 5) (fun Q => rfl) (fun Q => by show Q (jwr M4 k 4 (M h 4) h 5) _ = _; rw [jw0 (by omega), rh]) ?_)
  refine sq_ (pu (k := k) (v := M h 6) (fun Q => rfl) (fun Q => by show Q (jwr (jwr M4 k 4 (M h 4)) k 5 (M h 5) h 6) _ = _; rw [jw0 (by omega), jw0 (by omega), rh]) ?_)
  refine sq_ (pu (k := k) (v := M h 7) (fun Q => rfl) (fun Q => by show Q (jwr (jwr (jwr M4 k 4 (M h 4)) k 5 (M h 5)) k 6 (M h 6) h 7) _ = _; rw [jw0 (by omega), jw0 (by omega), jw0 (by omega), rh]) ?_)
  generalize hM5 : jwr (jwr (jwr (jwr M4 k 4 (M h 4)) k 5 (M h 5)) k 6 (M h 6)) k 7 (M h 7) = M5
  have s4 : ∀ a b, a ≠ k ∨ b < 4 → M5 a b = M4 a b := fun a b x => by rw [← hM5, jw0 (by omega), jw0 (by omega), jw0 (by omega), jw0 (by omega)]
  have v4 : M5 k 4 = M h 4 := by rw [← hM5, jw0 (by omega), jw0 (by omega), jw0 (by omega), jw1 ⟨rfl, rfl⟩]
  have v5 : M5 k 5 = M h 5 := by rw [← hM5, jw0 (by omega), jw0 (by omega), jw1 ⟨rfl, rfl⟩]
  have v6 : M5 k 6 = M h 6 := by rw [← hM5, jw0 (by omega), jw1 ⟨rfl, rfl⟩]
  have v7 : M5 k 7 = M h 7 := by rw [← hM5, jw1 ⟨rfl, rfl⟩]
  clear hM5
  have sh : ∀ b, M5 h b = M h b := fun b => by rw [s4 h b (.inl (fun z => hkh z.symm)), rh]
  refine sq_ (pu (k := k) (v := M h 8) (fun Q => rfl) (fun Q => by show Q (M5 h 8) _ = _; rw [sh]) ?_)
  refine sq_ (pu (k := k) (v := M h 9) (fun Q => rfl) (fun Q => by show Q (jwr M5 k 8 (M h 8) h 9) _ = _; rw [jw0 (by omega), sh]) ?_)
  have w10 : jwr (jwr M5 k 8 (M h 8)) k 9 (M h 9) h 10 = M h 10 := by rw [jw0 (by omega), jw0 (by omega), sh]
  show (_ ∨ _) ∧ _
  simp only [tRet0, xV, jIn, reduceIte, Nat.reduceEqDiff, w10]
  refine ⟨hb, hq _ (fun a b x => ?_) (fun b b0 b1 => ?_)⟩
  · rw [jw0 (by omega), jw0 (by omega), jw0 (by omega), s4 _ _ (.inl x), r4 _ _ x]
  · obtain rfl | rfl | rfl | rfl | rfl | rfl | rfl | rfl | rfl | rfl | rfl : b = 0 ∨ b = 1 ∨ b = 2 ∨ b = 3 ∨ b = 4 ∨ b = 5 ∨ b = 6 ∨ b = 7 ∨ b = 8 ∨ b = 9 ∨ b = 10 := by omega
    · rw [jw0 (by omega), jw0 (by omega), jw0 (by omega), s4 _ _ (.inr (by decide)), v0]
    · rw [jw0 (by omega), jw0 (by omega), jw0 (by omega), s4 _ _ (.inr (by decide)), v1]
    · rw [jw0 (by omega), jw0 (by omega), jw0 (by omega), s4 _ _ (.inr (by decide)), v2]
    · rw [jw0 (by omega), jw0 (by omega), jw0 (by omega), s4 _ _ (.inr (by decide)), v3]
    · rw [jw0 (by omega), jw0 (by omega), jw0 (by omega), v4]
    · rw [jw0 (by omega), jw0 (by omega), jw0 (by omega), v5]
    · rw [jw0 (by omega), jw0 (by omega), jw0 (by omega), v6]
    · rw [jw0 (by omega), jw0 (by omega), jw0 (by omega), v7]
    · rw [jw0 (by omega), jw0 (by omega), jw1 ⟨rfl, rfl⟩]
    · rw [jw0 (by omega), jw1 ⟨rfl, rfl⟩]
    · rw [jw1 ⟨rfl, rfl⟩]
theorem pd_copy1 {d e s : Int} {M : jMm} {Q : Int → jMm → Prop} (hd : isDay d) (he : isDay e) (hde : d ≠ e) (s0 : 0 ≤ s) (s1 : s < 3) (hq : ∀ M', (∀ a b, a ≠ d + 20 + 2 * s → a ≠ d + 21 + 2 * s → M' a b = M a b) → (∀ b, 1 ≤ b → b ≤ 5 → M' (d + 20 + 2 * s) b = M (e + 20 + 2 * s) b) → (∀ b, 0 ≤ b → b < 20 → M' (d + 21 + 2 * s) b = M (e + 21 + 2 * s) b) → Q 0 M') : f_X1_copyFrom [d + 20 + 2 * s, e + 20 + 2 * s] M Q := by
  unfold f_X1_copyFrom
  have dd : d = 28 ∨ d = 54 ∨ d = 80 := hd
  have ee : e = 28 ∨ e = 54 ∨ e = 80 := he
  refine mt_ ?_
  refine sq_ (tcp (k := e + 21 + 2 * s) (x := 0) (h := d + 21 + 2 * s) (y := 0) (z := 20) (fun Q => ?_) (fun Q => rfl) (fun Q => ?_) (fun Q => rfl) (fun Q => ?_) ?_ ?_)
  · simp only [xGr, xV, jIn, reduceIte, Nat.reduceEqDiff, dfp he s0 s1]
  · simp only [xGr, xV, jIn, reduceIte, Nat.reduceEqDiff, dfp hd s0 s1]
  · simp only [xLen, xGr, xV, jIn, reduceIte, Nat.reduceEqDiff, dfp hd s0 s1, dfl hd s0 s1]
  · rw [dfl hd s0 s1, dfl he s0 s1]; decide
  generalize hM1 : jwR M (d + 21 + 2 * s) 0 20 (fun q => M (e + 21 + 2 * s) (q - 0 + 0)) = M1
  have m1 : ∀ a b, a ≠ d + 21 + 2 * s → M1 a b = M a b := fun a b h => by rw [← hM1, jR0 h]
  have m2 : ∀ b, 0 ≤ b → b < 20 → M1 (d + 21 + 2 * s) b = M (e + 21 + 2 * s) b := fun b h0 h1 => by
    rw [← hM1, jR1 ⟨rfl, h0, by omega⟩]
    show M _ (b - 0 + 0) = _
    rw [show b - 0 + 0 = b by omega]
  clear hM1
  have rh : ∀ b, M1 (e + 20 + 2 * s) b = M (e + 20 + 2 * s) b := fun b => m1 _ _ (by omega)
  refine sq_ (pu (k := d + 20 + 2 * s) (v := M (e + 20 + 2 * s) 1) (fun Q => rfl) (fun Q => by show Q (M1 (e + 20 + 2 * s) 1) _ = _; rw [rh]) ?_)
  refine sq_ (pu (k := d + 20 + 2 * s) (v := M (e + 20 + 2 * s) 2) (fun Q => rfl) (fun Q => by show Q (jwr M1 _ _ _ (e + 20 + 2 * s) 2) _ = _; rw [jw0 (by omega), rh]) ?_)
  refine sq_ (pu (k := d + 20 + 2 * s) (v := M (e + 20 + 2 * s) 3) (fun Q => rfl) (fun Q => by show Q (jwr (jwr M1 _ _ _) _ _ _ (e + 20 + 2 * s) 3) _ = _; rw [jw0 (by omega), jw0 (by omega), rh]) ?_)
  refine sq_ (pu (k := d + 20 + 2 * s) (v := M (e + 20 + 2 * s) 4) (fun Q => rfl) (fun Q => by show Q (jwr (jwr (jwr M1 _ _ _) _ _ _) _ _ _ (e + 20 + 2 * s) 4) _ = _; rw [jw0 (by omega), jw0 (by omega), jw0 (by omega), rh]) ?_)
  refine sq_ (pu (k := d + 20 + 2 * s) (v := M (e + 20 + 2 * s) 5) (fun Q => rfl) (fun Q => by show Q (jwr (jwr (jwr (jwr M1 _ _ _) _ _ _) _ _ _) _ _ _ (e + 20 + 2 * s) 5) _ = _; rw [jw0 (by omega), jw0 (by omega), jw0 (by omega), jw0 (by omega), rh]) ?_)
  refine hq _ (fun a b h1 h2 => ?_) (fun b b1 b5 => ?_) (fun b b0 b1 => ?_)
  · rw [jw0 (by omega), jw0 (by omega), jw0 (by omega), jw0 (by omega), jw0 (by omega), m1 _ _ h2]
  · obtain rfl | rfl | rfl | rfl | rfl : b = 1 ∨ b = 2 ∨ b = 3 ∨ b = 4 ∨ b = 5 := by omega
    · rw [jw0 (by omega), jw0 (by omega), jw0 (by omega), jw0 (by omega), jw1 ⟨rfl, rfl⟩]
    · rw [jw0 (by omega), jw0 (by omega), jw0 (by omega), jw1 ⟨rfl, rfl⟩]
    · rw [jw0 (by omega), jw0 (by omega), jw1 ⟨rfl, rfl⟩]
    · rw [jw0 (by omega), jw1 ⟨rfl, rfl⟩]
    · rw [jw1 ⟨rfl, rfl⟩]
  · rw [jw0 (by omega), jw0 (by omega), jw0 (by omega), jw0 (by omega), jw0 (by omega), m2 b b0 b1]
/-- what a copy is -/
def pdCp (d e k n : Int) (M M' : jMm) : Prop := (∀ b, 5 ≤ b → b ≤ 15 → M' d b = M e b) ∧ (∀ j, 0 ≤ j → j ≤ 6 → M' (d + 3) j = M (e + 3) j) ∧ (∀ j, 0 ≤ j → j < 14 → M' (d + 4) j = M (e + 4) j) ∧ (∀ j, 0 ≤ j → j < 2 → M' (d + 5) j = M (e + 5) j) ∧ (∀ s, 0 ≤ s → s < k → (∀ b, 1 ≤ b → b ≤ 5 → M' (d + 20 + 2 * s) b = M (e + 20 + 2 * s) b) ∧ ∀ b, 0 ≤ b → b < 20 → M' (d + 21 + 2 * s) b = M (e + 21 + 2 * s) b) ∧ ∀ p, 0 ≤ p → p < n → ∀ b, 0 ≤ b → b ≤ 10 → M' (d + 6 + p) b = M (e + 6 + p) b
theorem pdZ_copy {d e c : Int} {w : Int → Int} {g0 : jMm} {t : Nat} {M M' : jMm} (Z : pdZ e c w g0 t M) (ok : gV (gRun c w g0 t)) (C : pdCp d e (gRun c w g0 t 114 1) (gRun c w g0 t 114 5) M M') : pdZ d c w g0 t M' := by
  obtain ⟨⟨⟨⟨d1, d2, d3, d4, d5, d6, d7, d8, d9, d10⟩, sf, sp⟩, X⟩, ⟨⟨a0, a7, a14⟩, L1, L2, L3, L4⟩, h12, h10, hw⟩ := Z
  obtain ⟨c1, c2, c3, c4, c5, c6⟩ := C
  have vs := ok.2.2.1
  have e7 : M' d 7 = M e 7 := c1 7 (by decide) (by decide)
  have e8 : M' d 8 = M e 8 := c1 8 (by decide) (by decide)
  have e11 : M' d 11 = M e 11 := c1 11 (by decide) (by decide)
  have el : ∀ i, 0 ≤ i → i < M e 7 → M' (d + 4) i = M (e + 4) i := fun i i0 i1 => c3 i i0 (by omega)
  refine ⟨⟨⟨⟨?_, ?_, ?_, ?_, ?_, ?_, ?_, fun j j1 j2 => ?_, ?_, ?_⟩, fun s s0 s1 => ?_, fun p p0 p1 => ?_⟩, fun s s0 s1 => ?_⟩, ⟨⟨?_, ?_, ?_⟩, fun i i0 i7 => ?_, fun p p0 p1 pw => ?_, fun i j i0 ij j7 => ?_, fun i i0 i7 => ?_⟩, ?_, ?_, fun c0 => ?_⟩
  · rw [c1 5 (by decide) (by decide)]; exact d1
  · rw [c1 6 (by decide) (by decide)]; exact d2
  · rw [c1 9 (by decide) (by decide)]; exact d3
  · rw [c1 13 (by decide) (by decide)]; exact d4
  · rw [c1 14 (by decide) (by decide)]; exact d5
  · rw [c1 15 (by decide) (by decide)]; exact d6
  · rw [c2 0 (by decide) (by decide)]; exact d7
  · rw [c2 j (by omega) j2]; exact d8 j j1 j2
  · rw [c4 0 (by decide) (by decide)]; exact d9
  · rw [c4 1 (by decide) (by decide)]; exact d10
  · have := sf s s0 s1
    obtain ⟨q, -⟩ := c5 s s0 s1
    unfold pdF at this ⊢
    rw [q 1 (by decide) (by decide), q 2 (by decide) (by decide), q 3 (by decide) (by decide), q 4 (by decide) (by decide), q 5 (by decide) (by decide)]
    exact this
  · have := sp p p0 p1
    have q := c6 p p0 p1
    unfold pdP at this ⊢
    rw [q 0 (by decide) (by decide), q 1 (by decide) (by decide), q 2 (by decide) (by decide), q 3 (by decide) (by decide), q 4 (by decide) (by decide), q 5 (by decide) (by decide), q 6 (by decide) (by decide), q 7 (by decide) (by decide), q 8 (by decide) (by decide), q 9 (by decide) (by decide), q 10 (by decide) (by decide)]
    exact this
  · obtain ⟨-, q⟩ := c5 s s0 s1
    have v := vs s s0 s1
    intro x y x0 x1 y0 y1
    rw [q _ (by omega) (by omega)]
    exact X s s0 s1 x y x0 x1 y0 y1
  · rw [e8]; exact a0
  · rw [e8, e7]; exact a7
  · rw [e7]; exact a14
  · rw [e7] at i7
    rw [el i i0 i7]; exact L1 i i0 i7
  · obtain ⟨i, i0, i7, ib⟩ := L2 p p0 p1 pw
    exact ⟨i, i0, by rw [e7]; exact i7, by rw [el i i0 i7]; exact ib⟩
  · rw [e7] at j7
    rw [el i i0 (by omega), el j (by omega) j7]; exact L3 i j i0 ij j7
  · rw [e7] at i7
    rw [el i i0 i7, e8]; exact L4 i i0 i7
  · rw [c1 12 (by decide) (by decide)]; exact h12
  · rw [c1 10 (by decide) (by decide)]; exact h10
  · rw [e11]; exact hw c0
theorem pd_copy {d e : Int} {M : jMm} {Q : Int → jMm → Prop} (hd : isDay d) (he : isDay e) (hde : d ≠ e) (k0 : 0 ≤ M e 5) (k3 : M e 5 ≤ 3) (n0 : 0 ≤ M e 6) (n14 : M e 6 ≤ 14) (hb : ∀ p, 0 ≤ p → p < M e 6 → M (e + 6 + p) 10 = 0 ∨ M (e + 6 + p) 10 = 1) (hq : ∀ M', pdCp d e (M e 5) (M e 6) M M' → oFr d M M' → Q 0 M') : f_X0_copyFrom [d, e] M Q := by
  unfold f_X0_copyFrom
  have dd : d = 28 ∨ d = 54 ∨ d = 80 := hd
  have ee : e = 28 ∨ e = 54 ∨ e = 80 := he
  refine mt_ ?_
  refine sq_ (tcp (k := e + 3) (x := 0) (h := d + 3) (y := 0) (z := 7) (fun Q => ?_) (fun Q => rfl) (fun Q => ?_) (fun Q => rfl) (fun Q => ?_) ?_ ?_)
  · simp only [xGr, xV, jIn, reduceIte, Nat.reduceEqDiff, drf2 he]
  · simp only [xGr, xV, jIn, reduceIte, Nat.reduceEqDiff, drf2 hd]
  · simp only [xLen, xGr, xV, jIn, reduceIte, Nat.reduceEqDiff, drf2 hd, dln3 hd]
  · rw [dln3 hd, dln3 he]; decide
  refine sq_ (tcp (k := e + 4) (x := 0) (h := d + 4) (y := 0) (z := 14) (fun Q => ?_) (fun Q => rfl) (fun Q => ?_) (fun Q => rfl) (fun Q => ?_) ?_ ?_)
  · simp only [xGr, xV, jIn, reduceIte, Nat.reduceEqDiff, drf3 he]
  · simp only [xGr, xV, jIn, reduceIte, Nat.reduceEqDiff, drf3 hd]
  · simp only [xLen, xGr, xV, jIn, reduceIte, Nat.reduceEqDiff, drf3 hd, dln4 hd]
  · rw [dln4 hd, dln4 he]; decide
  refine sq_ (tcp (k := e + 5) (x := 0) (h := d + 5) (y := 0) (z := 2) (fun Q => ?_) (fun Q => rfl) (fun Q => ?_) (fun Q => rfl) (fun Q => ?_) ?_ ?_)
  · simp only [xGr, xV, jIn, reduceIte, Nat.reduceEqDiff, drf4 he]
  · simp only [xGr, xV, jIn, reduceIte, Nat.reduceEqDiff, drf4 hd]
  · simp only [xLen, xGr, xV, jIn, reduceIte, Nat.reduceEqDiff, drf4 hd, dln5 hd]
  · rw [dln5 hd, dln5 he]; decide
  generalize hM1 : jwR _ (d + 5) 0 2 _ = M1
  have m1 : ∀ a b, a ≠ d + 3 → a ≠ d + 4 → a ≠ d + 5 → M1 a b = M a b := fun a b h1 h2 h3 => by rw [← hM1, jR0 h3, jR0 h2, jR0 h1]
  have m3 : ∀ j, 0 ≤ j → j ≤ 6 → M1 (d + 3) j = M (e + 3) j := fun j h0 h1 => by
    rw [← hM1, jR0 (by omega), jR0 (by omega), jR1 ⟨rfl, h0, by omega⟩]
    show M _ (j - 0 + 0) = _
    rw [show j - 0 + 0 = j by omega]
  have m4 : ∀ j, 0 ≤ j → j < 14 → M1 (d + 4) j = M (e + 4) j := fun j h0 h1 => by
    rw [← hM1, jR0 (by omega), jR1 ⟨rfl, h0, by omega⟩]
    show jwR M _ _ _ _ _ (j - 0 + 0) = _
    rw [jR0 (by omega), show j - 0 + 0 = j by omega]
  have m5 : ∀ j, 0 ≤ j → j < 2 → M1 (d + 5) j = M (e + 5) j := fun j h0 h1 => by
    rw [← hM1, jR1 ⟨rfl, h0, by omega⟩]
    show jwR (jwR M _ _ _ _) _ _ _ _ _ (j - 0 + 0) = _
    rw [jR0 (by omega), jR0 (by omega), show j - 0 + 0 = j by omega]
  clear hM1
  have me : ∀ b, M1 e b = M e b := fun b => m1 _ _ (by omega) (by omega) (by omega)
  refine sq_ (pu (k := d) (v := M e 5) (fun Q => rfl) (fun Q => by show Q (M1 e 5) _ = _; rw [me]) ?_)
  refine sq_ (pu (k := d) (v := M e 6) (fun Q => rfl) (fun Q => by show Q (jwr M1 _ _ _ e 6) _ = _; rw [jw0 (by omega), me]) ?_)
  refine sq_ (pu (k := d) (v := M e 7) (fun Q => rfl) (fun Q => by show Q (jwr (jwr M1 _ _ _) _ _ _ e 7) _ = _; rw [jw0 (by omega), jw0 (by omega), me]) ?_)
  refine sq_ (pu (k := d) (v := M e 8) (fun Q => rfl) (fun Q => by show Q (jwr (jwr (jwr M1 _ _ _) _ _ _) _ _ _ e 8) _ = _; rw [jw0 (by omega), jw0 (by omega), jw0 (by omega), me]) ?_)
  refine sq_ (pu (k := d) (v := M e 9) (fun Q => rfl) (fun Q => by show Q (jwr (jwr (jwr (jwr M1 _ _ _) _ _ _) _ _ _) _ _ _ e 9) _ = _; rw [jw0 (by omega), jw0 (by omega), jw0 (by omega), jw0 (by omega), me]) ?_)
  refine sq_ (pu (k := d) (v := M e 10) (fun Q => rfl) (fun Q => by show Q (jwr (jwr (jwr (jwr (jwr M1 _ _ _) _ _ _) _ _ _) _ _ _) _ _ _ e 10) _ = _; rw [jw0 (by omega), jw0 (by omega), jw0 (by omega), jw0 (by omega), jw0 (by omega), me]) ?_)
  generalize hM2 : jwr (jwr (jwr (jwr (jwr (jwr M1 d 5 (M e 5)) d 6 (M e 6)) d 7 (M e 7)) d 8 (M e 8)) d 9 (M e 9)) d 10 (M e 10) = M2
  have n1 : ∀ a b, a ≠ d → M2 a b = M1 a b := fun a b h => by rw [← hM2, jw0 (by omega), jw0 (by omega), jw0 (by omega), jw0 (by omega), jw0 (by omega), jw0 (by omega)]
  have n5 : ∀ b, 5 ≤ b → b ≤ 10 → M2 d b = M e b := fun b b5 b10 => by
    rw [← hM2]
    obtain rfl | rfl | rfl | rfl | rfl | rfl : b = 5 ∨ b = 6 ∨ b = 7 ∨ b = 8 ∨ b = 9 ∨ b = 10 := by omega
    · rw [jw0 (by omega), jw0 (by omega), jw0 (by omega), jw0 (by omega), jw0 (by omega), jw1 ⟨rfl, rfl⟩]
    · rw [jw0 (by omega), jw0 (by omega), jw0 (by omega), jw0 (by omega), jw1 ⟨rfl, rfl⟩]
    · rw [jw0 (by omega), jw0 (by omega), jw0 (by omega), jw1 ⟨rfl, rfl⟩]
    · rw [jw0 (by omega), jw0 (by omega), jw1 ⟨rfl, rfl⟩]
    · rw [jw0 (by omega), jw1 ⟨rfl, rfl⟩]
    · rw [jw1 ⟨rfl, rfl⟩]
  clear hM2
  have ne : ∀ b, M2 e b = M e b := fun b => by rw [n1 _ _ (fun z => hde z.symm), me]
  refine sq_ (pu (k := d) (v := M e 11) (fun Q => rfl) (fun Q => by show Q (M2 e 11) _ = _; rw [ne]) ?_)
  refine sq_ (pu (k := d) (v := M e 12) (fun Q => rfl) (fun Q => by show Q (jwr M2 _ _ _ e 12) _ = _; rw [jw0 (by omega), ne]) ?_)
  refine sq_ (pu (k := d) (v := M e 13) (fun Q => rfl) (fun Q => by show Q (jwr (jwr M2 _ _ _) _ _ _ e 13) _ = _; rw [jw0 (by omega), jw0 (by omega), ne]) ?_)
  refine sq_ (pu (k := d) (v := M e 14) (fun Q => rfl) (fun Q => by show Q (jwr (jwr (jwr M2 _ _ _) _ _ _) _ _ _ e 14) _ = _; rw [jw0 (by omega), jw0 (by omega), jw0 (by omega), ne]) ?_)
  refine sq_ (pu (k := d) (v := M e 15) (fun Q => rfl) (fun Q => by show Q (jwr (jwr (jwr (jwr M2 _ _ _) _ _ _) _ _ _) _ _ _ e 15) _ = _; rw [jw0 (by omega), jw0 (by omega), jw0 (by omega), jw0 (by omega), ne]) ?_)
  generalize hM3 : jwr (jwr (jwr (jwr (jwr M2 d 11 (M e 11)) d 12 (M e 12)) d 13 (M e 13)) d 14 (M e 14)) d 15 (M e 15) = M3
  have o1 : ∀ a b, a ≠ d → M3 a b = M1 a b := fun a b h => by rw [← hM3, jw0 (by omega), jw0 (by omega), jw0 (by omega), jw0 (by omega), jw0 (by omega), n1 _ _ h]
  have o5 : ∀ b, 5 ≤ b → b ≤ 15 → M3 d b = M e b := fun b b5 b15 => by
    by_cases c : b ≤ 10
    · rw [← hM3, jw0 (by omega), jw0 (by omega), jw0 (by omega), jw0 (by omega), jw0 (by omega), n5 b b5 c]
    · rw [← hM3]
      obtain rfl | rfl | rfl | rfl | rfl : b = 11 ∨ b = 12 ∨ b = 13 ∨ b = 14 ∨ b = 15 := by omega
      · rw [jw0 (by omega), jw0 (by omega), jw0 (by omega), jw0 (by omega), jw1 ⟨rfl, rfl⟩]
      · rw [jw0 (by omega), jw0 (by omega), jw0 (by omega), jw1 ⟨rfl, rfl⟩]
      · rw [jw0 (by omega), jw0 (by omega), jw1 ⟨rfl, rfl⟩]
      · rw [jw0 (by omega), jw1 ⟨rfl, rfl⟩]
      · rw [jw1 ⟨rfl, rfl⟩]
  clear hM3
  have os : ∀ a b, a ≠ d → a ≠ d + 3 → a ≠ d + 4 → a ≠ d + 5 → M3 a b = M a b := fun a b h0 h1 h2 h3 => by rw [o1 _ _ h0, m1 _ _ h1 h2 h3]
  refine sq_cut (fun L M4 => L 0 = d ∧ L 1 = e ∧ (∀ a b, (a < d + 20 ∨ d + 26 ≤ a) → M4 a b = M3 a b) ∧ ∀ s, 0 ≤ s → s < M e 5 → (∀ b, 1 ≤ b → b ≤ 5 → M4 (d + 20 + 2 * s) b = M (e + 20 + 2 * s) b) ∧ ∀ b, 0 ≤ b → b < 20 → M4 (d + 21 + 2 * s) b = M (e + 21 + 2 * s) b) (fun N1 hN1 => ?_) ?_
  · refine sq_ (st_c ?_)
    have ek : (((M e 5).toNat : Nat) : Int) = M e 5 := by omega
    refine up0 (M e 5).toNat (fun j L M4 => L 0 = d ∧ L 1 = e ∧ (∀ a b, (a < d + 20 ∨ d + 26 ≤ a) → M4 a b = M3 a b) ∧ ∀ s : Int, 0 ≤ s → s < j → (∀ b, 1 ≤ b → b ≤ 5 → M4 (d + 20 + 2 * s) b = M (e + 20 + 2 * s) b) ∧ ∀ b, 0 ≤ b → b < 20 → M4 (d + 21 + 2 * s) b = M (e + 21 + 2 * s) b) rfl (by omega) ⟨rfl, rfl, fun _ _ _ => rfl, fun s a b => by omega⟩ ?_ ?_ ?_
    · rintro j L M4 Q' ⟨l0, -, hf, -⟩ hq'
      show Q' (M4 (L 0) 5) M4
      rw [l0, hf _ _ (.inl (by omega)), o5 5 (by decide) (by decide), ← ek]; exact hq'
    · rintro j L M4 N2 hj hi ⟨l0, l1, hf, hs⟩ hN2
      have j0 : (0 : Int) ≤ j := by omega
      have j3 : (j : Int) < 3 := by omega
      have ex : ((j + 1 : Nat) : Int) = (j : Int) + 1 := by omega
      refine seqG (x := d + 20 + 2 * j) (y := e + 20 + 2 * j) (fun Q => ?_) (fun Q => ?_) ?_
      · simp only [xAr, xGr, xV, l0, hi, drf1 hd, dln2 hd, dfs hd j0 j3, j0, j3, true_and, and_self]
      · simp only [xAr, xGr, xV, l1, hi, drf1 he, dln2 he, dfs he j0 j3, j0, j3, true_and, and_self]
      refine pd_copy1 hd he hde j0 j3 (fun M5 h1 h2 h3 => hN2 _ _ hi ⟨l0, l1, fun a b hab => ?_, fun s s0 s1 => ?_⟩)
      · rw [h1 _ _ (by omega) (by omega)]; exact hf a b hab
      · by_cases c : s = j
        · rw [c]
          refine ⟨fun b b1 b5 => ?_, fun b b0 b1 => ?_⟩
          · rw [h2 b b1 b5, hf _ _ (by omega), os _ _ (by omega) (by omega) (by omega) (by omega)]
          · rw [h3 b b0 b1, hf _ _ (by omega), os _ _ (by omega) (by omega) (by omega) (by omega)]
        · obtain ⟨q1, q2⟩ := hs s s0 (by omega)
          refine ⟨fun b b1 b5 => ?_, fun b b0 b1 => ?_⟩
          · rw [h1 _ _ (by omega) (by omega)]; exact q1 b b1 b5
          · rw [h1 _ _ (by omega) (by omega)]; exact q2 b b0 b1
    · rintro L M4 hi ⟨l0, l1, hf, hs⟩
      exact hN1 _ _ ⟨l0, l1, hf, fun s s0 s1 => hs s s0 (by omega)⟩
  rintro L4 M4 ⟨l0, l1, hf4, hs4⟩
  refine sq_ (sq_ (st_c ?_))
  have en : (((M e 6).toNat : Nat) : Int) = M e 6 := by omega
  refine up0 (M e 6).toNat (fun j L M5 => L 0 = d ∧ L 1 = e ∧ (∀ a b, (a < d + 6 ∨ d + 20 ≤ a) → M5 a b = M4 a b) ∧ ∀ p : Int, 0 ≤ p → p < j → ∀ b, 0 ≤ b → b ≤ 10 → M5 (d + 6 + p) b = M (e + 6 + p) b) rfl (by omega) ⟨l0, l1, fun _ _ _ => rfl, fun s a b => by omega⟩ ?_ ?_ ?_
  · rintro j L M5 Q' ⟨l0, -, hf, -⟩ hq'
    show Q' (M5 (L 0) 6) M5
    rw [l0, hf _ _ (.inl (by omega)), hf4 _ _ (.inl (by omega)), o5 6 (by decide) (by decide), ← en]; exact hq'
  · rintro j L M5 N2 hj hi ⟨l0, l1, hf, hp⟩ hN2
    have j0 : (0 : Int) ≤ j := by omega
    have j14 : (j : Int) < 14 := by omega
    have ex : ((j + 1 : Nat) : Int) = (j : Int) + 1 := by omega
    have re : ∀ b, M5 (e + 6 + j) b = M (e + 6 + j) b := fun b => by rw [hf _ _ (by omega), hf4 _ _ (by omega), os _ _ (by omega) (by omega) (by omega) (by omega)]
    refine seqG (x := d + 6 + j) (y := e + 6 + j) (fun Q => ?_) (fun Q => ?_) ?_
    · simp only [xAr, xGr, xV, l0, hi, drf0 hd, dln1 hd, drr hd j0 j14, j0, j14, true_and, and_self]
    · simp only [xAr, xGr, xV, l1, hi, drf0 he, dln1 he, drr he j0 j14, j0, j14, true_and, and_self]
    refine pd_copy3 (by rw [re]; exact hb j j0 (by omega)) (by omega) (fun M6 h1 h2 => hN2 _ _ hi ⟨l0, l1, fun a b hab => ?_, fun p p0 p1 b b0 b1 => ?_⟩)
    · rw [h1 _ _ (by omega)]; exact hf a b hab
    · by_cases c : p = j
      · rw [c, h2 b b0 b1, re]
      · rw [h1 _ _ (by omega)]; exact hp p p0 (by omega) b b0 b1
  · rintro L M5 hi ⟨-, -, hf, hp⟩
    refine hq M5 ⟨fun b b5 b15 => ?_, fun j j0 j6 => ?_, fun j j0 j1 => ?_, fun j j0 j1 => ?_, fun s s0 s1 => ⟨fun b b1 b5 => ?_, fun b b0 b1 => ?_⟩, fun p p0 p1 => hp p p0 (by omega)⟩ (fun a b hab => ?_)
    · rw [hf _ _ (.inl (by omega)), hf4 _ _ (.inl (by omega)), o5 b b5 b15]
    · rw [hf _ _ (.inl (by omega)), hf4 _ _ (.inl (by omega)), o1 _ _ (by omega), m3 j j0 j6]
    · rw [hf _ _ (.inl (by omega)), hf4 _ _ (.inl (by omega)), o1 _ _ (by omega), m4 j j0 j1]
    · rw [hf _ _ (.inl (by omega)), hf4 _ _ (.inl (by omega)), o1 _ _ (by omega), m5 j j0 j1]
    · rw [hf _ _ (.inr (by omega))]; exact (hs4 s s0 s1).1 b b1 b5
    · rw [hf _ _ (.inr (by omega))]; exact (hs4 s s0 s1).2 b b0 b1
    · rw [hf _ _ (by omega), hf4 _ _ (by omega), os _ _ (by omega) (by omega) (by omega) (by omega)]
