/-! what has been made meets what holds between calls; the words of the law from there -/
def stF (M : jMm) : Prop := (M 114 1 = 0 ∧ M 114 5 = 0 ∧ M 114 3 = 0 ∧ M 114 4 = 0 ∧ M 1 3 = 0 ∧ M 1 4 = 0 ∧ M 1 5 = 0 ∧ M 1 6 = 0) ∧ (M 0 2 = 0 ∧ M 114 39 = 0 ∧ M 114 8 = 0 ∧ M 21 1 = 0 ∧ M 0 8 = 0 ∧ M 0 9 = 0) ∧ (M 115 0 = 1 ∧ M 115 1 = 4 ∧ M 115 2 = 2 ∧ M 115 3 = 12 ∧ M 115 4 = 3 ∧ M 115 5 = 2 ∧ M 115 6 = 5) ∧ (∀ j : Fin 7, M 10 (j.val : Int) = M 115 (j.val : Int)) ∧ (∀ s : Fin 3, M 116 (3 * (s.val : Int) + 1) = 0) ∧ ∀ s : Fin 4, (M (106 + 2 * (s.val : Int)) 1 = 0 ∧ M 140 (s.val : Int) = -1 ∧ M 141 (s.val : Int) = 0 ∧ M (106 + 2 * (s.val : Int)) 3 = 0) ∧ ∀ i : Fin 16, M 142 (16 * (s.val : Int) + (i.val : Int)) = M (107 + 2 * (s.val : Int)) (i.val : Int)
theorem Inv_start {M : jMm} (h : stF M) : Inv M := by
  obtain ⟨⟨a1, a5, a3, a4, b3, b4, b5, b6⟩, ⟨c2, c39, c8, c1, d8, d9⟩, ⟨s0, s1, s2, s3, s4, s5, s6⟩, hj, hw, hs⟩ := h
  have nn : ∀ x : Int, 0 ≤ x → ((x.toNat : Nat) : Int) = x := fun x h => Int.toNat_of_nonneg h
  have hj' : ∀ j, 0 ≤ j → j ≤ 6 → M 10 j = M 115 j := fun j j0 j6 => by
    have := hj ⟨j.toNat, by omega⟩
    dsimp only at this
    rw [nn j j0] at this
    exact this
  have hw' : ∀ s, 0 ≤ s → s < 3 → M 116 (3 * s + 1) = 0 := fun s q0 q3 => by
    have := hw ⟨s.toNat, by omega⟩
    dsimp only at this
    rw [nn s q0] at this
    exact this
  have hs' : ∀ s, 0 ≤ s → s < 4 → (M (106 + 2 * s) 1 = 0 ∧ M 140 s = -1 ∧ M 141 s = 0 ∧ M (106 + 2 * s) 3 = 0) ∧ ∀ i, 0 ≤ i → i < 16 → M 142 (16 * s + i) = M (107 + 2 * s) i := fun s q0 q4 => by
    have := hs ⟨s.toNat, by omega⟩
    dsimp only at this
    rw [nn s q0] at this
    refine ⟨this.1, fun i i0 i1 => ?_⟩
    have k := this.2 ⟨i.toNat, by omega⟩
    dsimp only at k
    rw [nn i i0] at k
    exact k
  refine ⟨⟨⟨⟨⟨by omega, by omega, by omega, by omega⟩, fun p p0 p1 => by omega, fun s q0 q1 => by omega, ?_⟩, fun s q0 q3 => by rw [hw' s q0 q3]; omega, fun s q0 q1 => by omega, .inr s0, by omega⟩, ⟨by omega, by omega, by omega, by omega, hj', fun s q0 q1 => by omega, fun p p0 p1 => by omega⟩⟩, .inl ⟨c2, c39⟩, ⟨by omega, by omega, by omega, fun i i0 i1 => by omega⟩, fun s q0 q4 => ?_, ⟨.inl d8, fun z => by omega⟩, fun z => absurd d9 z⟩
  · rw [s1, s2, s3, s4, s5, s6]; decide
  · obtain ⟨⟨e1, e2, e3, e4⟩, e5⟩ := hs' s q0 q4
    exact ⟨.inl ⟨e1, e2⟩, by omega, by omega, by omega, e5⟩
set_option maxRecDepth 1000000 in
theorem st_ok : stF (yMem y_A) := by
  unfold stF
  decide +kernel
theorem pure_inv {L : Nat} {xs : Nat → Int32} {L1 : jLo} {M : jMm} (hI : Inv M) (hL : L ≤ 3072) (h1 : L1 1 = 0) (h2 : L1 2 = 114) : lawden L xs L1 M (fun _ _ => False) (fun v _ => v = 1) :=
  pure_of (xs := xs) hL (fun _ _ _ _ => y_stair) (fun _ _ _ _ _ _ => y_of) (fun _ _ _ _ => y_set) (fun _ _ _ _ => y_change) (fun _ _ _ _ _ _ => y_person) (fun _ _ _ _ => y_told) (fun _ _ => y_strike) (fun _ _ _ _ _ hn => y_type hn) y_people (fun _ _ => y_count) (fun _ _ _ _ => y_fate) (fun _ _ _ _ => y_at) (fun _ _ _ _ _ _ _ _ => y_on) (fun _ _ => y_all) (fun _ _ => y_ways) (fun _ _ _ _ => y_best) (fun _ _ _ _ => y_thrift) (fun _ _ => y_costs) y_rules (fun _ _ _ _ _ _ hi _ => y_stood hi) y_image y_restore (fun _ _ _ _ _ _ hi _ => y_film hi) (fun _ _ _ _ _ _ => y_sheet) (fun _ _ => y_drop) (fun _ _ _ _ _ _ hi _ => y_item hi) (fun _ _ _ _ _ _ hi _ hj hn => y_copy hi hj hn) h1 h2 hI
theorem pure_law {L : Nat} {xs : Nat → Int32} {L1 : jLo} (hL : L ≤ 3072) (h0 : L1 0 = 148) (h1 : L1 1 = 0) (h2 : L1 2 = 114) : lawden L xs L1 (yMem y_A) (fun _ _ => False) (fun v _ => v = 1) := pure_inv (Inv_start st_ok) hL h1 h2
