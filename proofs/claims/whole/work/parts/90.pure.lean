/-! the words of the law, from what it has made -/
theorem pure_law {L : Nat} {xs : Nat → Int32} {L1 : jLo} (hL : L ≤ 3072) (h0 : L1 0 = 148) (h1 : L1 1 = 0) (h2 : L1 2 = 114) : lawden L xs L1 (yMem y_A) (fun _ _ => False) (fun v _ => v = 1) := by
  sorry
