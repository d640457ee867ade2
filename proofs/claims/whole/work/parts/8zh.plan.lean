/-! a plan is copied -/
def isPl (d : Int) : Prop := d = 1 ∨ d = 11
theorem pl_all : ∀ (e : Fin 2) (w : Fin 3), s_rf (1 + 10 * (e.val : Int)) 0 = 1 + 10 * (e.val : Int) + 1 ∧ s_rf (1 + 10 * (e.val : Int)) 1 = 1 + 10 * (e.val : Int) + 5 ∧ s_rf (1 + 10 * (e.val : Int)) 2 = 1 + 10 * (e.val : Int) + 9 ∧ s_len (1 + 10 * (e.val : Int) + 1) = 3 ∧ s_len (1 + 10 * (e.val : Int) + 5) = 3 ∧ s_len (1 + 10 * (e.val : Int) + 9) = 7 ∧ s_rf (1 + 10 * (e.val : Int) + 1) (w.val : Int) = 1 + 10 * (e.val : Int) + 2 + (w.val : Int) ∧ s_rf (1 + 10 * (e.val : Int) + 5) (w.val : Int) = 1 + 10 * (e.val : Int) + 6 + (w.val : Int) ∧ s_len (1 + 10 * (e.val : Int) + 2 + (w.val : Int)) = 3 ∧ s_len (1 + 10 * (e.val : Int) + 6 + (w.val : Int)) = 14 := by decide +kernel
theorem pl_ {d w : Int} (h : isPl d) (w0 : 0 ≤ w) (w3 : w < 3) : s_rf d 0 = d + 1 ∧ s_rf d 1 = d + 5 ∧ s_rf d 2 = d + 9 ∧ s_len (d + 1) = 3 ∧ s_len (d + 5) = 3 ∧ s_len (d + 9) = 7 ∧ s_rf (d + 1) w = d + 2 + w ∧ s_rf (d + 5) w = d + 6 + w ∧ s_len (d + 2 + w) = 3 ∧ s_len (d + 6 + w) = 14 := by
  have e : ((w.toNat : Nat) : Int) = w := by omega
  rcases h with rfl | rfl
  · have := pl_all 0 ⟨w.toNat, by omega⟩
    dsimp only at this
    rw [e] at this
    exact this
  · have := pl_all 1 ⟨w.toNat, by omega⟩
    dsimp only at this
    rw [e] at this
    exact this
theorem q_plan {k h : Int} {M : jMm} {Q : Int → jMm → Prop} (hk : isPl k) (hh : isPl h) (hkh : k ≠ h) (hq : ∀ M', (∀ a b, (a < k ∨ k + 10 ≤ a) → M' a b = M a b) → (∀ b, 3 ≤ b → b ≤ 6 → M' k b = M h b) → (∀ w q, 0 ≤ w → w < 3 → 0 ≤ q → q < 3 → M' (k + 2 + w) q = M (h + 2 + w) q) → (∀ w q, 0 ≤ w → w < 3 → 0 ≤ q → q < 14 → M' (k + 6 + w) q = M (h + 6 + w) q) → (∀ q, 0 ≤ q → q < 7 → M' (k + 9) q = M (h + 9) q) → Q 0 M') : f_X2_copyFrom [k, h] M Q := by
  unfold f_X2_copyFrom
  have ik : k = 1 ∨ k = 11 := hk
  have ih : h = 1 ∨ h = 11 := hh
  refine mt_ (sq_cut (fun L M1 => L 0 = k ∧ L 1 = h ∧ (∀ a b, (a < k + 2 ∨ k + 9 ≤ a) → M1 a b = M a b) ∧ (∀ w q, 0 ≤ w → w < 3 → 0 ≤ q → q < 3 → M1 (k + 2 + w) q = M (h + 2 + w) q) ∧ (∀ w q, 0 ≤ w → w < 3 → 0 ≤ q → q < 14 → M1 (k + 6 + w) q = M (h + 6 + w) q)) (fun N1 hN1 => ?_) ?_)
  · refine sq_ (st_c ?_)
    refine up0 3 (fun j L M1 => L 0 = k ∧ L 1 = h ∧ (∀ a b, (a < k + 2 ∨ k + 9 ≤ a) → M1 a b = M a b) ∧ (∀ w q : Int, 0 ≤ w → w < j → 0 ≤ q → q < 3 → M1 (k + 2 + w) q = M (h + 2 + w) q) ∧ (∀ w q : Int, 0 ≤ w → w < j → 0 ≤ q → q < 14 → M1 (k + 6 + w) q = M (h + 6 + w) q)) rfl (by decide) ⟨rfl, rfl, fun _ _ _ => rfl, fun w q _ _ _ _ => by omega, fun w q _ _ _ _ => by omega⟩ (fun _ _ _ _ _ h => h) ?_ (fun L M1 _ h => hN1 L M1 h)
    rintro j L M1 N2 hj hi ⟨l0, l1, F, f3, f14⟩ hN
    have j3 : (j : Int) < 3 := by omega
    have j0 : (0 : Int) ≤ j := by omega
    obtain ⟨k1, k2, k3, k4, k5, k6, k7, k8, k9, k10⟩ := pl_ hk j0 j3
    obtain ⟨h1, h2, h3, h4, h5, h6, h7, h8, h9, h10⟩ := pl_ hh j0 j3
    have ar : ∀ (i : Nat) (f d c : Int) (M2 : jMm) (Q : Int → jMm → Prop), L i = d → s_rf d f = d + c → s_len (d + c) = 3 → xAr (xGr (xV i) f) (xV 2) L M2 Q = Q (s_rf (d + c) j) M2 := fun i f d c M2 Q e1 e2 e3 => by
      show ((0 ≤ L 2 ∧ L 2 < s_len (s_rf (L i) f)) ∧ Q (s_rf (s_rf (L i) f) (L 2)) M2) = _
      rw [e1, e2, e3, hi]
      exact propext ⟨fun z => z.2, fun z => ⟨⟨j0, j3⟩, z⟩⟩
    refine sq_ (tcp (k := h + 2 + j) (x := 0) (h := k + 2 + j) (y := 0) (z := 3) (fun Q => by rw [ar 1 0 h 1 _ _ l1 h1 h4, h7]) (fun Q => rfl) (fun Q => by rw [ar 0 0 k 1 _ _ l0 k1 k4, k7]) (fun Q => rfl) (fun Q => rfl) (by omega) ?_)
    refine tcp (k := h + 6 + j) (x := 0) (h := k + 6 + j) (y := 0) (z := 14) (fun Q => by rw [ar 1 1 h 5 _ _ l1 h2 h5, h8]) (fun Q => rfl) (fun Q => by rw [ar 0 1 k 5 _ _ l0 k2 k5, k8]) (fun Q => rfl) (fun Q => rfl) (by omega) ?_
    refine hN L _ hi ⟨l0, l1, fun a b z => ?_, fun w q w0 w1 q0 q1 => ?_, fun w q w0 w1 q0 q1 => ?_⟩
    · rw [jR0 (by omega), jR0 (by omega)]; exact F a b z
    · rw [jR0 (by omega)]
      by_cases e : w = j
      · rw [jR1 (by omega), show q - 0 + 0 = q by omega, F _ _ (by omega), e]
      · rw [jR0 (by omega)]; exact f3 w q w0 (by omega) q0 q1
    · by_cases e : w = j
      · rw [jR1 (by omega), show q - 0 + 0 = q by omega, jR0 (by omega), F _ _ (by omega), e]
      · rw [jR0 (by omega), jR0 (by omega)]; exact f14 w q w0 (by omega) q0 q1
  · rintro L M1 ⟨l0, l1, F, f3, f14⟩
    obtain ⟨k1, k2, k3, k4, k5, k6, -⟩ := pl_ (w := 0) hk (by decide) (by decide)
    obtain ⟨h1, h2, h3, h4, h5, h6, -⟩ := pl_ (w := 0) hh (by decide) (by decide)
    refine sq_ (tcp (k := h + 9) (x := 0) (h := k + 9) (y := 0) (z := 7) (fun Q => by simp only [xGr, xV, l1, h3]) (fun Q => rfl) (fun Q => by simp only [xGr, xV, l0, k3]) (fun Q => rfl) (fun Q => by simp only [xLen, xGr, xV, l0, k3, k6]) (by omega) ?_)
    generalize hM2 : jwR M1 (k + 9) 0 7 (fun q => M1 (h + 9) (q - 0 + 0)) = M2
    have a2 : ∀ a b, a ≠ k + 9 → M2 a b = M1 a b := fun a b z => by rw [← hM2, jR0 z]
    have v2 : ∀ q, 0 ≤ q → q < 7 → M2 (k + 9) q = M (h + 9) q := fun q q0 q1 => by rw [← hM2, jR1 (by omega), show q - 0 + 0 = q by omega, F _ _ (by omega)]
    clear hM2
    have m : ∀ a b, (a < k + 2 ∨ k + 10 ≤ a) → M2 a b = M a b := fun a b z => by rw [a2 _ _ (by omega), F _ _ (by omega)]
    refine sq_ (pu (k := k) (v := M h 3) (fun Q => by simp only [xV, l0]) (fun Q => by show Q (M2 (L 1) 3) M2 = _; rw [l1, m _ _ (by omega)]) ?_)
    refine sq_ (pu (k := k) (v := M h 4) (fun Q => by simp only [xV, l0]) (fun Q => by show Q (jwr M2 k 3 (M h 3) (L 1) 4) _ = _; rw [l1, jw0 (by omega), m _ _ (by omega)]) ?_)
    refine sq_ (pu (k := k) (v := M h 5) (fun Q => by simp only [xV, l0]) (fun Q => by show Q (jwr (jwr M2 k 3 (M h 3)) k 4 (M h 4) (L 1) 5) _ = _; rw [l1, jw0 (by omega), jw0 (by omega), m _ _ (by omega)]) ?_)
    refine sq_ (pu (k := k) (v := M h 6) (fun Q => by simp only [xV, l0]) (fun Q => by show Q (jwr (jwr (jwr M2 k 3 (M h 3)) k 4 (M h 4)) k 5 (M h 5) (L 1) 6) _ = _; rw [l1, jw0 (by omega), jw0 (by omega), jw0 (by omega), m _ _ (by omega)]) ?_)
    refine hq _ (fun a b z => by rw [jw0 (by omega), jw0 (by omega), jw0 (by omega), jw0 (by omega), m _ _ (by omega)]) (fun b b3 b6 => ?_) (fun w q w0 w1 q0 q1 => by rw [jw0 (by omega), jw0 (by omega), jw0 (by omega), jw0 (by omega), a2 _ _ (by omega)]; exact f3 w q w0 w1 q0 q1) (fun w q w0 w1 q0 q1 => by rw [jw0 (by omega), jw0 (by omega), jw0 (by omega), jw0 (by omega), a2 _ _ (by omega)]; exact f14 w q w0 w1 q0 q1) (fun q q0 q1 => by rw [jw0 (by omega), jw0 (by omega), jw0 (by omega), jw0 (by omega)]; exact v2 q q0 q1)
    obtain rfl | rfl | rfl | rfl : b = 3 ∨ b = 4 ∨ b = 5 ∨ b = 6 := by omega
    · rw [jw0 (by omega), jw0 (by omega), jw0 (by omega), jw1 ⟨rfl, rfl⟩]
    · rw [jw0 (by omega), jw0 (by omega), jw1 ⟨rfl, rfl⟩]
    · rw [jw0 (by omega), jw1 ⟨rfl, rfl⟩]
    · rw [jw1 ⟨rfl, rfl⟩]
