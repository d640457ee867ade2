/-! pairs: sheet, drop, item -/
theorem row_all : ∀ s : Fin 4, s_rf 27 (s.val : Int) = 106 + 2 * (s.val : Int) ∧ s_rf (106 + 2 * (s.val : Int)) 0 = 107 + 2 * (s.val : Int) ∧ s_len (107 + 2 * (s.val : Int)) = 16 := by decide +kernel
theorem row_ {s : Int} (s0 : 0 ≤ s) (s4 : s < 4) : s_rf 27 s = 106 + 2 * s ∧ s_rf (106 + 2 * s) 0 = 107 + 2 * s ∧ s_len (107 + 2 * s) = 16 := by
  have := row_all ⟨s.toNat, by omega⟩
  have e : ((s.toNat : Nat) : Int) = s := by omega
  dsimp only at this
  rw [e] at this
  exact this
theorem rf_0_4 : s_rf 0 4 = 27 ∧ s_len 27 = 4 := by decide +kernel
theorem rowE {s : Int} {i : Nat} {L : jLo} {M : jMm} (l0 : L 0 = 0) (l1 : L i = s) (s0 : 0 ≤ s) (s4 : s < 4) (Q : Int → jMm → Prop) : xAr (xGr (xV 0) 4) (xV i) L M Q = Q (106 + 2 * s) M := by
  show ((0 ≤ L i ∧ L i < s_len (s_rf (L 0) 4)) ∧ Q (s_rf (s_rf (L 0) 4) (L i)) M) = _
  rw [l0, l1, rf_0_4.1, rf_0_4.2, (row_ s0 s4).1]
  exact propext ⟨fun h => h.2, fun h => ⟨⟨s0, s4⟩, h⟩⟩
theorem q_isSheet {v : Int} {M : jMm} {Q : Int → jMm → Prop} : f_X6_isSheet [v] M Q = Q (bt 0 v 3) M := by
  unfold f_X6_isSheet
  show xCall f_X6_isBetween (xsC (xV 0) (xsC (xC 0) (xsC (xC 3) xsN))) (jIn [0] [v]) M (fun x M => (x = 0 ∨ x = 1) ∧ Q x M) = _
  rw [bw (a := v) (b := 0) (c := 3) (fun Q => rfl) (fun Q => rfl) (fun Q => rfl)]
  exact propext ⟨fun h => h.2, fun h => ⟨bt_01 _ _ _, h⟩⟩
theorem qm_isSheet {v : Int} {M : jMm} {Q : Int → jMm → Prop} : f_X7_isSheet [v] M Q = Q (bt 0 v 3) M := by
  unfold f_X7_isSheet
  show xCall f_X7_in (xsC (xUn (fun x => x) (xV 0)) (xsC (xC 0) (xsC (xC 3) xsN))) (jIn [0] [v]) M (fun x M => (x = 0 ∨ x = 1) ∧ Q x M) = _
  rw [bm (a := v) (b := 0) (c := 3) (fun Q => rfl) (fun Q => rfl) (fun Q => rfl)]
  exact propext ⟨fun h => h.2, fun h => ⟨bt_01 _ _ _, h⟩⟩
theorem qm_isLane {v : Int} {M : jMm} {Q : Int → jMm → Prop} : f_X7_isLane [v] M Q = Q (bt 0 v 2) M := by
  unfold f_X7_isLane
  show xCall f_X7_in (xsC (xUn (fun x => x) (xV 0)) (xsC (xC 0) (xsC (xC 2) xsN))) (jIn [0] [v]) M (fun x M => (x = 0 ∨ x = 1) ∧ Q x M) = _
  rw [bm (a := v) (b := 0) (c := 2) (fun Q => rfl) (fun Q => rfl) (fun Q => rfl)]
  exact propext ⟨fun h => h.2, fun h => ⟨bt_01 _ _ _, h⟩⟩
theorem q_fill {k v : Int} {M : jMm} {Q : Int → jMm → Prop} (hl : 0 ≤ s_len k) (hl2 : s_len k ≤ 1000) (hq : ∀ M', (∀ a b, a ≠ k ∨ b < 0 ∨ s_len k ≤ b → M' a b = M a b) → (∀ b, 0 ≤ b → b < s_len k → M' k b = v) → Q 0 M') : f_J_fill [k, v] M Q := by
  unfold f_J_fill
  have en : (((s_len k).toNat : Nat) : Int) = s_len k := by omega
  refine mt_ (sq_ (st_c (sq_ (st_v (v := s_len k) (fun Q => rfl) (sq_ ?_)))))
  refine up0 (s_len k).toNat (fun j L M1 => L 0 = k ∧ L 1 = v ∧ L 3 = s_len k ∧ (∀ a b, a ≠ k ∨ b < 0 ∨ (j : Int) ≤ b → M1 a b = M a b) ∧ ∀ b : Int, 0 ≤ b → b < j → M1 k b = v) rfl (by omega) ⟨rfl, rfl, rfl, fun _ _ _ => rfl, fun b _ _ => by omega⟩ ?_ ?_ ?_
  · rintro j L M1 Q1 ⟨-, -, l3, -⟩ hQ
    show Q1 (L 3) M1
    rw [l3, ← en]; exact hQ
  · rintro j L M1 N1 hj hi ⟨l0, l1, l3, F, hb⟩ hN
    show (0 ≤ L 2 ∧ L 2 < s_len (L 0)) ∧ N1 L (jwr M1 (L 0) (L 2) (L 1))
    rw [l0, hi, l1]
    refine ⟨by omega, hN L _ hi ⟨l0, l1, l3, fun a b h => ?_, fun b b0 b1 => ?_⟩⟩
    · rw [jw0 (by omega)]; exact F a b (by omega)
    · by_cases e : b = j
      · rw [jw1 ⟨rfl, e⟩]
      · rw [jw0 (.inr e)]; exact hb b b0 (by omega)
  · rintro L M1 - ⟨l0, l1, l3, F, hb⟩
    rw [en] at F hb
    exact hq M1 F hb
theorem Inv_sheet {M M' : jMm} {s : Int} (I : Inv M) (s0 : 0 ≤ s) (s4 : s < 4) (F : ∀ a b, ¬ scr a b → a ≠ 106 + 2 * s → a ≠ 107 + 2 * s → (a ≠ 140 ∨ b ≠ s) → (a ≠ 141 ∨ b ≠ s) → (a ≠ 142 ∨ b < 16 * s ∨ 16 * s + 16 ≤ b) → M' a b = M a b) (h : iSheet M' s) : Inv M' := by
  have n : ∀ a b, ¬ scr a b → (a < 106 ∨ (114 ≤ a ∧ a < 140)) → M' a b = M a b := fun a b ha hb => F a b ha (by omega) (by omega) (by omega) (by omega) (by omega)
  refine Inv_same I (fun b hb => n _ _ (by unfold scr; omega) (by omega)) (fun b => ⟨n _ _ (by unfold scr; omega) (by omega), n _ _ (by unfold scr; omega) (by omega), n _ _ (by unfold scr; omega) (by omega)⟩) (fun a b ha _ => n _ _ (by unfold scr; omega) (by omega)) (iKept_eq I.2.1 (n _ _ (by unfold scr; omega) (by omega)) (n _ _ (by unfold scr; omega) (by omega)) (fun a b _ _ => n _ _ (by unfold scr; omega) (by omega)) (fun b => n _ _ (by unfold scr; omega) (by omega))) (iTape_eq I.2.2.1 (n _ _ (by unfold scr; omega) (by omega)) (n _ _ (by unfold scr; omega) (by omega)) (fun b => n _ _ (by unfold scr; omega) (by omega)) (fun b => n _ _ (by unfold scr; omega) (by omega))) (fun z z0 z4 => ?_) (.inl ⟨n _ _ (by unfold scr; omega) (by omega), fun a b _ _ => n _ _ (by unfold scr; omega) (by omega)⟩) (.inl (fun b _ _ => n _ _ (by unfold scr; omega) (by omega)))
  by_cases e : z = s
  · rw [e]; exact h
  · exact iSheet_eq (I.2.2.2.1 z z0 z4) (fun b => F _ _ (by unfold scr; omega) (by omega) (by omega) (by omega) (by omega) (by omega)) (fun b => F _ _ (by unfold scr; omega) (by omega) (by omega) (by omega) (by omega) (by omega)) (F _ _ (by unfold scr; omega) (by omega) (by omega) (by omega) (by omega) (by omega)) (F _ _ (by unfold scr; omega) (by omega) (by omega) (by omega) (by omega) (by omega)) (fun i i0 i1 => F _ _ (by unfold scr; omega) (by omega) (by omega) (by omega) (by omega) (by omega))
theorem q_begin {s l n : Int} {M : jMm} {Q : Int → jMm → Prop} (s0 : 0 ≤ s) (s4 : s < 4) (hq : ∀ M', (∀ a b, (a ≠ 106 + 2 * s ∨ (b ≠ 1 ∧ b ≠ 2 ∧ b ≠ 3)) → a ≠ 107 + 2 * s → M' a b = M a b) → M' (106 + 2 * s) 1 = 1 → M' (106 + 2 * s) 2 = l → M' (106 + 2 * s) 3 = n → (∀ b, 0 ≤ b → b < 16 → M' (107 + 2 * s) b = 0) → Q 0 M') : f_X4_begin [106 + 2 * s, l, n] M Q := by
  unfold f_X4_begin
  obtain ⟨h1, h2, h3⟩ := row_ s0 s4
  refine mt_ (sq_ ⟨.inr rfl, sq_ (pu (k := 106 + 2 * s) (v := l) (fun Q => rfl) (fun Q => rfl) (sq_ (pu (k := 106 + 2 * s) (v := n) (fun Q => rfl) (fun Q => rfl) (sq_ (seqG (x := 107 + 2 * s) (y := 0) (fun Q => ?_) (fun Q => rfl) ?_)))))⟩)
  · show Q (s_rf (106 + 2 * s) 0) _ = _
    rw [h2]
  · refine q_fill (by omega) (by omega) (fun M' F hb => hq M' (fun a b e1 e2 => ?_) ?_ ?_ ?_ (fun b b0 b1 => hb b b0 (by omega)))
    · rw [F _ _ (.inl e2), jw0 (by omega), jw0 (by omega)]; exact jw0 (by show a ≠ 106 + 2 * s ∨ b ≠ 1; omega)
    · rw [F _ _ (.inl (by omega)), jw0 (by omega), jw0 (by omega)]; exact jw1 ⟨rfl, rfl⟩
    · rw [F _ _ (.inl (by omega)), jw0 (by omega), jw1 ⟨rfl, rfl⟩]
    · rw [F _ _ (.inl (by omega)), jw1 ⟨rfl, rfl⟩]
theorem y_sheet {s l n : Int} : yPair Inv f_X6_sheet f_X7_sheet [s, l, n] := by
  intro M Q I hq
  unfold f_X6_sheet
  have model : ∀ (M1 : jMm) (Q1 : Int → jMm → Prop), ((bt 0 s 3 = 0 ∨ bt 0 l 2 = 0) ∨ n > 16 → Q1 (-1) M1) → (¬ ((bt 0 s 3 = 0 ∨ bt 0 l 2 = 0) ∨ n > 16) → n < 0 → Q1 (-14) M1) → (¬ ((bt 0 s 3 = 0 ∨ bt 0 l 2 = 0) ∨ n > 16) → ¬ n < 0 → ∀ M2, (∀ a b, (a ≠ 140 ∨ b ≠ s) → (a ≠ 141 ∨ b ≠ s) → (a ≠ 142 ∨ b < 16 * s ∨ 16 * s + 16 ≤ b) → M2 a b = M1 a b) → M2 140 s = l → M2 141 s = n → (∀ i, 0 ≤ i → i < 16 → M2 142 (16 * s + i) = 0) → Q1 n M2) → f_X7_sheet [114, s, l, n] M1 Q1 := fun M1 Q1 k1 k2 k3 => by
    unfold f_X7_sheet
    refine mt_ (sq_ (if_pc ((bt 0 s 3 = 0 ∨ bt 0 l 2 = 0) ∨ n > 16) (or_pc (or_pc (nz_pc (c1 (fun Q => rfl) (fun Q => qm_isSheet))) (fun _ => nz_pc (c1 (fun Q => rfl) (fun Q => qm_isLane)))) (fun _ => kr_pc (r := fun x y => x > y) (u := n) (v := 16) (fun Q => rfl) (fun Q => rfl))) (fun z => k1 z) (fun c => sk_ (sq_ (if_pc (n < 0) (kz_pc (r := fun x y => x < y) (u := n) (fun Q => rfl)) (fun z => k2 c z) (fun z => sk_ ?_))))))
    obtain ⟨s0, s1⟩ := bt_0 (fun z => c (.inl (.inl z)))
    have s4 : s < 4 := by omega
    have as : ∀ (N : jLo → jMm → Prop) (R : Int → jMm → Prop) (L : jLo) (M3 : jMm) (f : Int) (i : Nat) (k v : Int), L 0 = 114 → L 1 = s → s_rf 114 f = k → s_len k = 4 → L i = v → N L (jwr M3 k s v) → tAst (xGr (xV 0) f) (xV 1) (xV i) L M3 N R := fun N R L M3 f i k v l0 l1 e1 e2 l2 h => by
      show (0 ≤ L 1 ∧ L 1 < s_len (s_rf (L 0) f)) ∧ N L (jwr M3 (s_rf (L 0) f) (L 1) (L i))
      rw [l0, l1, e1, e2, l2]; exact ⟨⟨s0, s4⟩, h⟩
    refine sq_ (as _ _ _ _ _ _ 140 l rfl rfl mrf40 mln140 rfl (sq_ (as _ _ _ _ _ _ 141 n rfl rfl mrf41 mln141 rfl (sq_ (sq_ (st_c ?_))))))
    refine up0 16 (fun j L M3 => L 0 = 114 ∧ L 1 = s ∧ L 3 = n ∧ (∀ a b, (a ≠ 140 ∨ b ≠ s) → (a ≠ 141 ∨ b ≠ s) → (a ≠ 142 ∨ b < 16 * s ∨ 16 * s + 16 ≤ b) → M3 a b = M1 a b) ∧ M3 140 s = l ∧ M3 141 s = n ∧ ∀ i : Int, 0 ≤ i → i < j → M3 142 (16 * s + i) = 0) rfl (by decide) ⟨rfl, rfl, rfl, fun a b e1 e2 _ => by rw [jw0 e2, jw0 e1], by rw [jw0 (.inl (by decide)), jw1 ⟨rfl, rfl⟩], jw1 ⟨rfl, rfl⟩, fun i _ _ => by omega⟩ (fun _ _ _ _ _ h => h) ?_ ?_
    · rintro j L M3 N3 hj hi ⟨l0, l1, l3, F, h0, h1, hz⟩ hN
      have j16 : (j : Int) < 16 := by omega
      have i1 : ir (16 * s) := ⟨by omega, by omega⟩
      have i2 : ir (16 * s + j) := ⟨by omega, by omega⟩
      have j1 : 0 ≤ 16 * s + (j : Int) ∧ 16 * s + (j : Int) < 64 := by omega
      have k := hN L (jwr M3 142 (16 * s + j) 0) hi ⟨l0, l1, l3, fun a b e1 e2 e3 => by rw [jw0 (by omega)]; exact F a b e1 e2 e3, by rw [jw0 (.inl (by decide))]; exact h0, by rw [jw0 (.inl (by decide))]; exact h1, fun i i0 i1 => ?_⟩
      · simp [tAst, xBin, boAdd, boMul, xGr, xV, xC, l0, l1, hi, mrf42, mln142, i1, i2, j1]
        exact k
      · by_cases e : i = j
        · rw [jw1 ⟨rfl, by omega⟩]
        · rw [jw0 (.inr (by omega))]; exact hz i i0 (by omega)
    · rintro L M3 - ⟨l0, l1, l3, F, h0, h1, hz⟩
      refine rt_ ?_
      show Q1 (L 3) M3
      rw [l3]
      exact k3 c z M3 F h0 h1 (fun i i0 i1 => hz i i0 (by omega))
  refine mt_ (sq_ (if_pc ((bt 0 s 3 = 0 ∨ bt 0 l 2 = 0) ∨ n > 16) (or_pc (or_pc (nz_pc (c1 (fun Q => rfl) (fun Q => q_isSheet))) (fun _ => nz_pc (bw (fun Q => rfl) (fun Q => rfl) (fun Q => rfl)))) (fun _ => kr_pc (r := fun x y => x > y) (u := n) (v := 16) (fun Q => rfl) (fun Q => rfl))) (fun z => rt_ ?_) (fun c => sk_ (sq_ (if_pc (n < 0) (kz_pc (r := fun x y => x < y) (u := n) (fun Q => rfl)) (fun z => rt_ ?_) (fun z => sk_ ?_))))))
  · exact model M _ (fun _ => hq _ _ I) (fun n => absurd z n) (fun n => absurd z n)
  · exact model M _ (fun n => absurd n c) (fun _ _ => hq _ _ I) (fun _ n => absurd z n)
  · obtain ⟨s0, s1⟩ := bt_0 (fun z => c (.inl (.inl z)))
    obtain ⟨l0, l2⟩ := bt_0 (fun z => c (.inl (.inr z)))
    have s4 : s < 4 := by omega
    refine sq_ (do3e (x0 := 106 + 2 * s) (x1 := l) (x2 := n) (rowE rfl rfl s0 s4) (fun Q => rfl) (fun Q => rfl) ?_)
    refine q_begin s0 s4 (fun M1 F1 a1 a2 a3 az => rt_ ?_)
    refine model M1 _ (fun n => absurd n c) (fun _ n => absurd n z) (fun _ _ M2 F2 b0 b1 bz => hq _ _ (Inv_sheet I s0 s4 (fun a b _ e1 e2 e3 e4 e5 => by rw [F2 a b e3 e4 e5, F1 a b (.inl e1) e2]) ?_))
    have lo : ∀ a b, a < 140 → M2 a b = M1 a b := fun a b h => F2 a b (by omega) (by omega) (by omega)
    unfold iSheet
    rw [lo (106 + 2 * s) 1 (by omega), lo (106 + 2 * s) 2 (by omega), lo (106 + 2 * s) 3 (by omega), a1, a2, a3, b0, b1]
    refine ⟨.inr ⟨rfl, rfl, l0, l2⟩, rfl, by omega, by omega, fun i i0 i1 => ?_⟩
    rw [bz i i0 i1, lo (107 + 2 * s) i (by omega), az i i0 i1]
theorem y_drop {s : Int} : yPair Inv f_X6_drop f_X7_drop [s] := by
  intro M Q I hq
  unfold f_X6_drop
  refine mt_ (sq_ (if_pc (bt 0 s 3 = 0) (nz_pc (c1 (fun Q => rfl) (fun Q => q_isSheet))) (fun z => rt_ ?_) (fun c => sk_ ?_)))
  · show f_X7_drop [114, s] M _
    unfold f_X7_drop
    exact mt_ (sq_ (if_pc (bt 0 s 3 = 0) (nz_pc (c1 (fun Q => rfl) (fun Q => qm_isSheet))) (fun _ => hq _ _ I) (fun n => absurd z n)))
  obtain ⟨s0, s1⟩ := bt_0 c
  have s4 : s < 4 := by omega
  have sh := I.2.2.2.1 s s0 s4
  have al : ∀ (f k : Int) (M1 : jMm) (Q1 : Int → jMm → Prop), s_rf 114 f = k → s_len k = 4 → xAl (xGr (xV 0) f) (xV 1) (jIn [0, 1] [114, s]) M1 Q1 = Q1 (M1 k s) M1 := fun f k M1 Q1 e1 e2 => by
    show ((0 ≤ s ∧ s < s_len (s_rf 114 f)) ∧ Q1 (M1 (s_rf 114 f) s) M1) = _
    rw [e1, e2]; exact propext ⟨fun h => h.2, fun h => ⟨⟨s0, s4⟩, h⟩⟩
  have rw1 : ∀ (f : Int) (M1 : jMm) (Q1 : Int → jMm → Prop), xGf (xAr (xGr (xV 0) 4) (xV 1)) f (jIn [0, 1] [0, s]) M1 Q1 = Q1 (M1 (106 + 2 * s) f) M1 := fun f M1 Q1 => rowE (L := jIn [0, 1] [0, s]) (i := 1) rfl rfl s0 s4 (fun k M2 => Q1 (M2 k f) M2)
  refine sq_ (if_pc (M (106 + 2 * s) 1 = 0) (nz_pc (fun Q => rw1 1 M Q)) (fun z => rt_ ?_) (fun z => sk_ ?_))
  · have neg : M 140 s < 0 := by rcases sh.1 with h | h <;> omega
    show f_X7_drop [114, s] M _
    unfold f_X7_drop
    exact mt_ (sq_ (if_pc (bt 0 s 3 = 0) (nz_pc (c1 (fun Q => rfl) (fun Q => qm_isSheet))) (fun n => absurd n c) (fun _ => sk_ (sq_ (if_pc (M 140 s < 0) (kz_pc (r := fun x y => x < y) (fun Q => al 40 140 M Q mrf40 mln140)) (fun _ => hq _ _ I) (fun n => absurd neg n))))))
  · have neg : ¬ M 140 s < 0 := by rcases sh.1 with h | h <;> omega
    have pz : ∀ (N : jLo → jMm → Prop) (R : Int → jMm → Prop), N (jIn [0, 1] [0, s]) (jwr M (106 + 2 * s) 1 0) → tPutZ (xAr (xGr (xV 0) 4) (xV 1)) 1 (xC 0) (jIn [0, 1] [0, s]) M N R := fun N R h => by
      show xAr (xGr (xV 0) 4) (xV 1) (jIn [0, 1] [0, s]) M (fun k M1 => (0 = 0 ∨ (0 : Int) = 1) ∧ N (jIn [0, 1] [0, s]) (jwr M1 k 1 0))
      rw [rowE (s := s) (L := jIn [0, 1] [0, s]) (i := 1) rfl rfl s0 s4]
      exact ⟨.inl rfl, h⟩
    refine sq_ (pz _ _ (rt_ ?_))
    rw [rw1, jw0 (.inr (by decide))]
    show f_X7_drop [114, s] (jwr M (106 + 2 * s) 1 0) _
    generalize hM1 : jwr M (106 + 2 * s) 1 0 = M1
    have f1 : ∀ a b, (a ≠ 106 + 2 * s ∨ b ≠ 1) → M1 a b = M a b := fun a b h => by rw [← hM1, jw0 h]
    have v1 : M1 (106 + 2 * s) 1 = 0 := by rw [← hM1, jw1 ⟨rfl, rfl⟩]
    unfold f_X7_drop
    refine mt_ (sq_ (if_pc (bt 0 s 3 = 0) (nz_pc (c1 (fun Q => rfl) (fun Q => qm_isSheet))) (fun n => absurd n c) (fun _ => sk_ (sq_ (if_pc (M 140 s < 0) (kz_pc (r := fun x y => x < y) (fun Q => by rw [al 40 140 M1 Q mrf40 mln140, f1 _ _ (.inl (by omega))])) (fun n => absurd n neg) (fun _ => sk_ (sq_ ?_)))))))
    show (0 ≤ s ∧ s < s_len (s_rf 114 40)) ∧ xAl (xGr (xV 0) 41) (xV 1) (jIn [0, 1] [114, s]) (jwr M1 (s_rf 114 40) s (-1)) _
    rw [mrf40, mln140, al 41 141 _ _ mrf41 mln141, jw0 (.inl (by decide)), f1 _ _ (.inl (by omega)), sh.2.1]
    refine ⟨⟨s0, s4⟩, hq _ _ (Inv_sheet I s0 s4 (fun a b _ e1 e2 e3 e4 e5 => by rw [jw0 e3, f1 _ _ (.inl e1)]) ?_)⟩
    obtain ⟨-, g1, g2, g3, g4⟩ := sh
    unfold iSheet
    have w0 : jwr M1 140 s (-1) 140 s = -1 := jw1 ⟨rfl, rfl⟩
    have w1 : jwr M1 140 s (-1) (106 + 2 * s) 1 = 0 := (jw0 (.inl (by omega))).trans v1
    have w2 : jwr M1 140 s (-1) 141 s = M 141 s := (jw0 (.inl (by decide))).trans (f1 _ _ (.inl (by omega)))
    have w3 : jwr M1 140 s (-1) (106 + 2 * s) 3 = M (106 + 2 * s) 3 := (jw0 (.inl (by omega))).trans (f1 _ _ (.inr (by decide)))
    rw [w0, w1, w2, w3]
    refine ⟨.inl ⟨rfl, rfl⟩, g1, g2, g3, fun i i0 i1 => ?_⟩
    rw [jw0 (.inl (by decide)), jw0 (.inl (by omega)), f1 142 _ (.inl (by omega)), f1 (107 + 2 * s) _ (.inl (by omega))]
    exact g4 i i0 i1
