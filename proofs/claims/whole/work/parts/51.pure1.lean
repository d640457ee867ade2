/-! THE WORDS ALONE: rules -/
theorem wh_rule {c : jCn} {b : jSt} {N : jLo → jMm → Prop} {R : Int → jMm → Prop} (I : Nat → jLo → jMm → Prop) (step : ∀ (k : Nat) (L : jLo) (M : jMm), I k L M → ∀ N' : jLo → jMm → Prop, (∀ (k' : Nat) (L' : jLo) (M' : jMm), k' < k → I k' L' M' → N' L' M') → c L M (fun M1 => b L M1 N' R) (fun M1 => N L M1)) {k : Nat} {L : jLo} {M : jMm} (h : I k L M) : tWh c b L M N R := by
  have key : ∀ (n k : Nat), k ≤ n → ∀ (L : jLo) (M : jMm), I k L M → tWhN c b (n + 1) L M N R := by
    intro n
    induction n with
    | zero => intro k hk L M hI; exact step k L M hI _ (fun k' L' M' h' _ => absurd h' (by omega))
    | succ n ih => intro k hk L M hI; exact step k L M hI _ (fun k' L' M' h' hI' => ih k' (by omega) L' M' hI')
  exact ⟨k + 1, key k k (Nat.le_refl k) L M h⟩
theorem kR_of {r : Int → Int → Prop} {a b : jEx} {L : jLo} {M : jMm} {T F : jMm → Prop} {x y : Int} (ha : ∀ Q : Int → jMm → Prop, Q x M → a L M Q) (hb : ∀ Q : Int → jMm → Prop, Q y M → b L M Q) (ht : r x y → T M) (hf : ¬ r x y → F M) : kR r a b L M T F := ha _ (hb _ ⟨ht, hf⟩)
theorem sp_X6_isBetween {v a b : Int} {M : jMm} {Q : Int → jMm → Prop} (h : Q (if a ≤ v ∧ v ≤ b then 1 else 0) M) : f_X6_isBetween [v, a, b] M Q := by
  unfold f_X6_isBetween
  simp only [jMeth, jIn, tRetZ, xTern, kAnd, kR, xV, xC]
  split at h <;> simp_all <;> omega
