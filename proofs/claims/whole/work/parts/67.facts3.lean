/-! where references lead, how long rows are -/
theorem mrf0 : s_rf 114 0 = 115 := by decide +kernel
theorem mrf2 : s_rf 114 2 = 116 := by decide +kernel
theorem mrf6 : s_rf 114 6 = 117 := by decide +kernel
theorem mrf7 : s_rf 114 7 = 118 := by decide +kernel
theorem mrf11 : s_rf 114 11 = 119 := by decide +kernel
theorem mrf12 : s_rf 114 12 = 120 := by decide +kernel
theorem mrf13 : s_rf 114 13 = 121 := by decide +kernel
theorem mrf14 : s_rf 114 14 = 122 := by decide +kernel
theorem mrf18 : s_rf 114 18 = 123 := by decide +kernel
theorem mrf19 : s_rf 114 19 = 124 := by decide +kernel
theorem mrf20 : s_rf 114 20 = 125 := by decide +kernel
theorem mrf21 : s_rf 114 21 = 126 := by decide +kernel
theorem mrf22 : s_rf 114 22 = 127 := by decide +kernel
theorem mrf23 : s_rf 114 23 = 128 := by decide +kernel
theorem mrf24 : s_rf 114 24 = 129 := by decide +kernel
theorem mrf25 : s_rf 114 25 = 130 := by decide +kernel
theorem mrf26 : s_rf 114 26 = 131 := by decide +kernel
theorem mrf27 : s_rf 114 27 = 132 := by decide +kernel
theorem mrf28 : s_rf 114 28 = 133 := by decide +kernel
theorem mrf29 : s_rf 114 29 = 134 := by decide +kernel
theorem mrf30 : s_rf 114 30 = 135 := by decide +kernel
theorem mrf35 : s_rf 114 35 = 136 := by decide +kernel
theorem mrf36 : s_rf 114 36 = 137 := by decide +kernel
theorem mrf37 : s_rf 114 37 = 138 := by decide +kernel
theorem mrf38 : s_rf 114 38 = 139 := by decide +kernel
theorem mrf40 : s_rf 114 40 = 140 := by decide +kernel
theorem mrf41 : s_rf 114 41 = 141 := by decide +kernel
theorem mrf42 : s_rf 114 42 = 142 := by decide +kernel
theorem mrf43 : s_rf 114 43 = 143 := by decide +kernel
theorem mln115 : s_len 115 = 7 := by decide +kernel
theorem mln116 : s_len 116 = 9 := by decide +kernel
theorem mln117 : s_len 117 = 42 := by decide +kernel
theorem mln118 : s_len 118 = 80 := by decide +kernel
theorem mln119 : s_len 119 = 24 := by decide +kernel
theorem mln120 : s_len 120 = 3 := by decide +kernel
theorem mln121 : s_len 121 = 3 := by decide +kernel
theorem mln122 : s_len 122 = 3 := by decide +kernel
theorem mln123 : s_len 123 = 14 := by decide +kernel
theorem mln124 : s_len 124 = 14 := by decide +kernel
theorem mln125 : s_len 125 = 14 := by decide +kernel
theorem mln126 : s_len 126 = 14 := by decide +kernel
theorem mln127 : s_len 127 = 14 := by decide +kernel
theorem mln128 : s_len 128 = 14 := by decide +kernel
theorem mln129 : s_len 129 = 14 := by decide +kernel
theorem mln130 : s_len 130 = 14 := by decide +kernel
theorem mln131 : s_len 131 = 14 := by decide +kernel
theorem mln132 : s_len 132 = 14 := by decide +kernel
theorem mln133 : s_len 133 = 14 := by decide +kernel
theorem mln134 : s_len 134 = 3 := by decide +kernel
theorem mln135 : s_len 135 = 3 := by decide +kernel
theorem mln136 : s_len 136 = 400 := by decide +kernel
theorem mln137 : s_len 137 = 100 := by decide +kernel
theorem mln138 : s_len 138 = 6000 := by decide +kernel
theorem mln139 : s_len 139 = 80 := by decide +kernel
theorem mln140 : s_len 140 = 4 := by decide +kernel
theorem mln141 : s_len 141 = 4 := by decide +kernel
theorem mln142 : s_len 142 = 64 := by decide +kernel
theorem mln143 : s_len 143 = 16 := by decide +kernel
def isDay (d : Int) : Prop := d = 28 ∨ d = 54 ∨ d = 80
theorem drf0 {d : Int} (h : isDay d) : s_rf d 0 = d + 1 := by rcases h with rfl | rfl | rfl <;> decide +kernel
theorem drf1 {d : Int} (h : isDay d) : s_rf d 1 = d + 2 := by rcases h with rfl | rfl | rfl <;> decide +kernel
theorem drf2 {d : Int} (h : isDay d) : s_rf d 2 = d + 3 := by rcases h with rfl | rfl | rfl <;> decide +kernel
theorem drf3 {d : Int} (h : isDay d) : s_rf d 3 = d + 4 := by rcases h with rfl | rfl | rfl <;> decide +kernel
theorem drf4 {d : Int} (h : isDay d) : s_rf d 4 = d + 5 := by rcases h with rfl | rfl | rfl <;> decide +kernel
theorem dln1 {d : Int} (h : isDay d) : s_len (d + 1) = 14 := by rcases h with rfl | rfl | rfl <;> decide +kernel
theorem dln2 {d : Int} (h : isDay d) : s_len (d + 2) = 3 := by rcases h with rfl | rfl | rfl <;> decide +kernel
theorem dln3 {d : Int} (h : isDay d) : s_len (d + 3) = 7 := by rcases h with rfl | rfl | rfl <;> decide +kernel
theorem dln4 {d : Int} (h : isDay d) : s_len (d + 4) = 14 := by rcases h with rfl | rfl | rfl <;> decide +kernel
theorem dln5 {d : Int} (h : isDay d) : s_len (d + 5) = 2 := by rcases h with rfl | rfl | rfl <;> decide +kernel
theorem drr_all : ∀ (d : Fin 3) (p : Fin 14), s_rf (28 + 26 * (d.val : Int) + 1) (p.val : Int) = 28 + 26 * (d.val : Int) + 6 + (p.val : Int) := by decide +kernel
theorem dfs_all : ∀ (d : Fin 3) (s : Fin 3), s_rf (28 + 26 * (d.val : Int) + 2) (s.val : Int) = 28 + 26 * (d.val : Int) + 20 + 2 * (s.val : Int) ∧ s_rf (28 + 26 * (d.val : Int) + 20 + 2 * (s.val : Int)) 0 = 28 + 26 * (d.val : Int) + 21 + 2 * (s.val : Int) ∧ s_len (28 + 26 * (d.val : Int) + 21 + 2 * (s.val : Int)) = 20 := by decide +kernel
theorem dday_of {d : Int} (h : isDay d) : ∃ k : Fin 3, d = 28 + 26 * (k.val : Int) := by
  rcases h with rfl | rfl | rfl
  · exact ⟨0, rfl⟩
  · exact ⟨1, rfl⟩
  · exact ⟨2, rfl⟩
theorem drr {d p : Int} (h : isDay d) (h0 : 0 ≤ p) (h1 : p < 14) : s_rf (d + 1) p = d + 6 + p := by
  obtain ⟨k, rfl⟩ := dday_of h
  have := drr_all k ⟨p.toNat, by omega⟩
  have e : ((p.toNat : Nat) : Int) = p := by omega
  dsimp only at this
  rw [e] at this
  exact this
theorem dfs3 {d s : Int} (h : isDay d) (h0 : 0 ≤ s) (h1 : s < 3) : s_rf (d + 2) s = d + 20 + 2 * s ∧ s_rf (d + 20 + 2 * s) 0 = d + 21 + 2 * s ∧ s_len (d + 21 + 2 * s) = 20 := by
  obtain ⟨k, rfl⟩ := dday_of h
  have := dfs_all k ⟨s.toNat, by omega⟩
  have e : ((s.toNat : Nat) : Int) = s := by omega
  dsimp only at this
  rw [e] at this
  exact this
theorem dfs {d s : Int} (h : isDay d) (h0 : 0 ≤ s) (h1 : s < 3) : s_rf (d + 2) s = d + 20 + 2 * s := (dfs3 h h0 h1).1
theorem dfp {d s : Int} (h : isDay d) (h0 : 0 ≤ s) (h1 : s < 3) : s_rf (d + 20 + 2 * s) 0 = d + 21 + 2 * s := (dfs3 h h0 h1).2.1
theorem dfl {d s : Int} (h : isDay d) (h0 : 0 ≤ s) (h1 : s < 3) : s_len (d + 21 + 2 * s) = 20 := (dfs3 h h0 h1).2.2
