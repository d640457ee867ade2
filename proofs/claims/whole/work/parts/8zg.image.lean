/-! pairs: image, restore; what the model saves and gives -/
theorem mo_saves {a k o : Int} {M : jMm} {Q : Int → jMm → Prop} (hak : a ≠ k) (m0 : 0 ≤ s_len a) (m1 : s_len a ≤ 1000) (o0 : 0 ≤ o) (o1 : o ≤ 1000) (hk : o + s_len a ≤ s_len k) (hq : ∀ M', (∀ x y, (x ≠ k ∨ y < o ∨ o + s_len a ≤ y) → M' x y = M x y) → (∀ q, 0 ≤ q → q < s_len a → M' k (o + q) = M a q) → Q (o + s_len a) M') : f_X7_saves [a, k, o] M Q := by
  unfold f_X7_saves
  have en : (((s_len a).toNat : Nat) : Int) = s_len a := by omega
  refine mt_ (sq_ (sq_ (st_c ?_)))
  refine up0 (s_len a).toNat (fun j L M1 => L 0 = a ∧ L 1 = k ∧ L 2 = o ∧ (∀ x y, (x ≠ k ∨ y < o ∨ o + s_len a ≤ y) → M1 x y = M x y) ∧ ∀ q : Int, 0 ≤ q → q < j → M1 k (o + q) = M a q) rfl (by omega) ⟨rfl, rfl, rfl, fun _ _ _ => rfl, fun q _ _ => by omega⟩ ?_ ?_ ?_
  · rintro j L M1 Q1 ⟨l0, -⟩ hQ
    show Q1 (s_len (L 0)) M1
    rw [l0, ← en]; exact hQ
  · rintro j L M1 N1 hj hi ⟨l0, l1, l2, F, hz⟩ hN
    have jn : (j : Int) < s_len a := by omega
    have i1 : ir (o + j) := ⟨by omega, by omega⟩
    show ir (L 2 + L 3) ∧ (0 ≤ L 3 ∧ L 3 < s_len (L 0)) ∧ (0 ≤ L 2 + L 3 ∧ L 2 + L 3 < s_len (L 1)) ∧ N1 L (jwr M1 (L 1) (L 2 + L 3) (M1 (L 0) (L 3)))
    rw [l0, l1, l2, hi]
    refine ⟨i1, ⟨by omega, by omega⟩, ⟨by omega, by omega⟩, hN L _ hi ⟨l0, l1, l2, fun x y h => by rw [jw0 (by omega)]; exact F x y h, fun q q0 q1 => ?_⟩⟩
    by_cases e : q = j
    · rw [e, jw1 ⟨rfl, rfl⟩, F _ _ (.inl hak)]
    · rw [jw0 (.inr (by omega))]; exact hz q q0 (by omega)
  · rintro L M1 - ⟨l0, l1, l2, F, hz⟩
    refine rt_ ?_
    show ir (L 2 + s_len (L 0)) ∧ Q (L 2 + s_len (L 0)) M1
    rw [l0, l2]
    exact ⟨⟨by omega, by omega⟩, hq M1 F (fun q q0 q1 => hz q q0 (by omega))⟩
theorem mo_gives {a k o : Int} {M : jMm} {Q : Int → jMm → Prop} (hak : a ≠ k) (m0 : 0 ≤ s_len a) (m1 : s_len a ≤ 1000) (o0 : 0 ≤ o) (o1 : o ≤ 1000) (hk : o + s_len a ≤ s_len k) (hq : ∀ M', (∀ x y, (x ≠ a ∨ y < 0 ∨ s_len a ≤ y) → M' x y = M x y) → (∀ q, 0 ≤ q → q < s_len a → M' a q = M k (o + q)) → Q (o + s_len a) M') : f_X7_gives [k, o, a] M Q := by
  unfold f_X7_gives
  have en : (((s_len a).toNat : Nat) : Int) = s_len a := by omega
  refine mt_ (sq_ (sq_ (st_c ?_)))
  refine up0 (s_len a).toNat (fun j L M1 => L 0 = k ∧ L 1 = o ∧ L 2 = a ∧ (∀ x y, (x ≠ a ∨ y < 0 ∨ s_len a ≤ y) → M1 x y = M x y) ∧ ∀ q : Int, 0 ≤ q → q < j → M1 a q = M k (o + q)) rfl (by omega) ⟨rfl, rfl, rfl, fun _ _ _ => rfl, fun q _ _ => by omega⟩ ?_ ?_ ?_
  · rintro j L M1 Q1 ⟨-, -, l2, -⟩ hQ
    show Q1 (s_len (L 2)) M1
    rw [l2, ← en]; exact hQ
  · rintro j L M1 N1 hj hi ⟨l0, l1, l2, F, hz⟩ hN
    have jn : (j : Int) < s_len a := by omega
    have i1 : ir (o + j) := ⟨by omega, by omega⟩
    show ir (L 1 + L 3) ∧ (0 ≤ L 1 + L 3 ∧ L 1 + L 3 < s_len (L 0)) ∧ (0 ≤ L 3 ∧ L 3 < s_len (L 2)) ∧ N1 L (jwr M1 (L 2) (L 3) (M1 (L 0) (L 1 + L 3)))
    rw [l0, l1, l2, hi]
    refine ⟨i1, ⟨by omega, by omega⟩, ⟨by omega, by omega⟩, hN L _ hi ⟨l0, l1, l2, fun x y h => by rw [jw0 (by omega)]; exact F x y h, fun q q0 q1 => ?_⟩⟩
    by_cases e : q = j
    · rw [e, jw1 ⟨rfl, rfl⟩, F _ _ (.inl (fun z => hak z.symm))]
    · rw [jw0 (.inr e)]; exact hz q q0 (by omega)
  · rintro L M1 - ⟨l0, l1, l2, F, hz⟩
    refine rt_ ?_
    show ir (L 1 + s_len (L 2)) ∧ Q (L 1 + s_len (L 2)) M1
    rw [l1, l2]
    exact ⟨⟨by omega, by omega⟩, hq M1 F (fun q q0 q1 => hz q q0 (by omega))⟩
