/-! pairs: item -/
theorem q_holds {s i n : Int} {M : jMm} {Q : Int → jMm → Prop} (z0 : 0 ≤ M (106 + 2 * s) 3) (z16 : M (106 + 2 * s) 3 ≤ 16) : f_X4_holds [106 + 2 * s, i, n] M Q = Q (if ((i ≥ 0 ∧ i ≤ M (106 + 2 * s) 3) ∧ n ≥ 0) ∧ n ≤ M (106 + 2 * s) 3 - i then 1 else 0) M := by
  refine dt_eq dt_f_X4_holds (fun Q hq => ?_) Q
  unfold f_X4_holds
  refine mt_ (ret_tern (((i ≥ 0 ∧ i ≤ M (106 + 2 * s) 3) ∧ n ≥ 0) ∧ n ≤ M (106 + 2 * s) 3 - i) (an_pc (an_pc (an_pc (kz_pc (r := fun x y => x ≥ y) (u := i) (fun Q => rfl)) (fun _ => kr_pc (r := fun x y => x ≤ y) (u := i) (v := M (106 + 2 * s) 3) (fun Q => rfl) (fun Q => rfl))) (fun _ => kz_pc (r := fun x y => x ≥ y) (u := n) (fun Q => rfl))) (fun c => kr_pc (r := fun x y => x ≤ y) (u := n) (v := M (106 + 2 * s) 3 - i) (fun Q => rfl) (bn_sub (x := M (106 + 2 * s) 3) (y := i) (fun Q => rfl) (fun Q => rfl) ⟨by omega, by omega⟩))) hq)
def fz (M : jMm) (s l i n : Int) : Int := if M 140 s < 0 then -11 else if M 140 s ≠ l then -12 else if i < 0 ∨ i + n > M 141 s then -13 else 0
def rfz (M : jMm) (s l i n : Int) : Int := if bt 0 s 3 = 0 ∨ bt 0 l 2 = 0 then -1 else fz M s l i n
theorem alE {s f k : Int} {i : Nat} {L : jLo} {M : jMm} (l0 : L 0 = 114) (l1 : L i = s) (e1 : s_rf 114 f = k) (e2 : s_len k = 4) (s0 : 0 ≤ s) (s4 : s < 4) (Q : Int → jMm → Prop) : xAl (xGr (xV 0) f) (xV i) L M Q = Q (M k s) M := by
  show ((0 ≤ L i ∧ L i < s_len (s_rf (L 0) f)) ∧ Q (M (s_rf (L 0) f) (L i)) M) = _
  rw [l0, l1, e1, e2]; exact propext ⟨fun h => h.2, fun h => ⟨⟨s0, s4⟩, h⟩⟩
theorem qm_finds {s l i n : Int} {M : jMm} {Q : Int → jMm → Prop} (s0 : 0 ≤ s) (s4 : s < 4) (hi : ir i) (hn : ir n) : f_X7_finds [114, s, l, i, n] M Q = Q (fz M s l i n) M := by
  refine dt_eq dt_f_X7_finds (fun Q hq => ?_) Q
  unfold f_X7_finds
  unfold fz at hq
  unfold ir at hi hn
  have x0 : jIn [0, 1, 2, 3, 4] [114, s, l, i, n] 0 = 114 := rfl
  have x1 : jIn [0, 1, 2, 3, 4] [114, s, l, i, n] 1 = s := rfl
  refine mt_ (sq_ (if_pc (M 140 s < 0) (kz_pc (r := fun x y => x < y) (alE x0 x1 mrf40 mln140 s0 s4)) (fun c => rt_ ?_) (fun c => sk_ (sq_ (if_pc (M 140 s ≠ l) (kr_pc (r := fun x y => x ≠ y) (v := l) (alE x0 x1 mrf40 mln140 s0 s4) (fun Q => rfl)) (fun c2 => rt_ ?_) (fun c2 => sk_ (rt_ ?_)))))))
  · rw [if_pos c] at hq; exact hq
  · rw [if_neg c, if_pos c2] at hq; exact hq
  · rw [if_neg c, if_neg c2] at hq
    have hl : lr (i + n) := ⟨by omega, by omega⟩
    have cc : ∀ T F : jMm → Prop, (kOr (kZ (fun x y => x < y) (xV 3)) (kR (fun x y => x > y) (xBin boLadd (xUn (fun x => x) (xV 3)) (xUn (fun x => x) (xV 4))) (xUn (fun x => x) (xAl (xGr (xV 0) 41) (xV 1))))) (jIn [0, 1, 2, 3, 4] [114, s, l, i, n]) M T F = ((i < 0 ∨ i + n > M 141 s → T M) ∧ (¬ (i < 0 ∨ i + n > M 141 s) → F M)) := or_pc (kz_pc (r := fun x y => x < y) (u := i) (fun Q => rfl)) (fun _ => kr_pc (r := fun x y => x > y) (u := i + n) (v := M 141 s) (fun Q => propext ⟨fun h => h.2, fun h => ⟨hl, h⟩⟩) (fun Q => alE x0 x1 mrf41 mln141 s0 s4 Q))
    show (kOr _ _) _ M (fun M => Q (-13) M) (fun M => Q 0 M)
    rw [cc]
    by_cases c3 : i < 0 ∨ i + n > M 141 s
    · rw [if_pos c3] at hq; exact ⟨fun _ => hq, fun n => absurd c3 n⟩
    · rw [if_neg c3] at hq; exact ⟨fun n => absurd n c3, fun _ => hq⟩
theorem q_refuse {s l i n : Int} {M : jMm} {Q : Int → jMm → Prop} (hs : ∀ s, 0 ≤ s → s < 4 → iSheet M s) (hn : 0 ≤ n) : f_X6_refuse [0, s, l, i, n] M Q = Q (rfz M s l i n) M := by
  refine dt_eq dt_f_X6_refuse (fun Q hq => ?_) Q
  unfold f_X6_refuse
  unfold rfz fz at hq
  refine mt_ (sq_ (if_pc (bt 0 s 3 = 0 ∨ bt 0 l 2 = 0) (or_pc (nz_pc (c1 (fun Q => rfl) (fun Q => q_isSheet))) (fun _ => nz_pc (bw (fun Q => rfl) (fun Q => rfl) (fun Q => rfl)))) (fun c => rt_ ?_) (fun c => sk_ ?_)))
  · rw [if_pos c] at hq; exact hq
  rw [if_neg c] at hq
  obtain ⟨s0, s1⟩ := bt_0 (fun z => c (.inl z))
  obtain ⟨l0, l1⟩ := bt_0 (fun z => c (.inr z))
  have s4 : s < 4 := by omega
  obtain ⟨g0, g1, g2, g3, g4⟩ := hs s s0 s4
  refine sq_ (st_v (v := 106 + 2 * s) (fun Q => rowE (L := jIn [0, 1, 2, 3, 4] [0, s, l, i, n]) (i := 1) rfl rfl s0 s4 Q) ?_)
  refine sq_ (if_pc (M (106 + 2 * s) 1 = 0) (nz_pc (fun Q => rfl)) (fun d => rt_ ?_) (fun d => sk_ ?_))
  · rw [if_pos (by omega)] at hq; exact hq
  have d1 : ¬ M 140 s < 0 := by omega
  rw [if_neg d1] at hq
  have e2 : M (106 + 2 * s) 2 = M 140 s := by omega
  refine sq_ (if_pc (M 140 s ≠ l) (kr_pc (r := fun x y => x ≠ y) (u := M 140 s) (v := l) (fun Q => by show Q (M (106 + 2 * s) 2) M = _; rw [e2]) (fun Q => rfl)) (fun d2 => rt_ ?_) (fun d2 => sk_ (rt_ ?_)))
  · rw [if_pos d2] at hq; exact hq
  rw [if_neg d2] at hq
  show f_X4_holds [106 + 2 * s, i, n] M (fun x M1 => (x ≠ 0 → Q 0 M1) ∧ (¬ x ≠ 0 → Q (-13) M1))
  rw [q_holds (by omega) (by omega)]
  by_cases e : ((i ≥ 0 ∧ i ≤ M (106 + 2 * s) 3) ∧ n ≥ 0) ∧ n ≤ M (106 + 2 * s) 3 - i
  · rw [if_neg (by omega)] at hq
    rw [if_pos e]; exact ⟨fun _ => hq, fun n => absurd (by decide) n⟩
  · rw [if_pos (by omega)] at hq
    rw [if_neg e]; exact ⟨fun n => absurd rfl n, fun _ => hq⟩
def cst (l v : Int) : Int := if l = 0 then u_i2b v else if l = 1 then u_i2s v else v
theorem q_put {s i v : Int} {M : jMm} {Q : Int → jMm → Prop} (s0 : 0 ≤ s) (s4 : s < 4) (i0 : 0 ≤ i) (i1 : i < M (106 + 2 * s) 3) (z16 : M (106 + 2 * s) 3 ≤ 16) (hq : Q 0 (jwr M (107 + 2 * s) i (cst (M (106 + 2 * s) 2) v))) : f_X4_put [106 + 2 * s, i, v] M Q := by
  unfold f_X4_put
  obtain ⟨h1, h2, h3⟩ := row_ s0 s4
  have b1 : ¬ bt 0 i (M (106 + 2 * s) 3 - 1) = 0 := by unfold bt; rw [if_pos (by omega)]; decide
  refine mt_ (sq_ (if_pc (bt 0 i (M (106 + 2 * s) 3 - 1) ≠ 0) (kz_pc (r := fun x y => x ≠ y) (bw (fun Q => rfl) (fun Q => rfl) (bn_sub (x := M (106 + 2 * s) 3) (y := 1) (fun Q => rfl) (fun Q => rfl) ⟨by omega, by omega⟩))) (fun _ => ?_) (fun n => absurd b1 n)))
  unfold cst at hq
  generalize hl : M (106 + 2 * s) 2 = l at *
  have j1 : 0 ≤ i ∧ i < 16 := by omega
  by_cases c0 : l = 0
  · rw [if_pos c0] at hq
    simp [tAst, xTern, kZ, kR, xGf, xGr, xV, xC, xUn, jIn, tRet0, hl, c0, h2, h3, j1]
    exact hq
  · rw [if_neg c0] at hq
    by_cases c1 : l = 1
    · rw [if_pos c1] at hq
      simp [tAst, xTern, kZ, kR, xGf, xGr, xV, xC, xUn, jIn, tRet0, hl, c1, h2, h3, j1]
      exact hq
    · rw [if_neg c1] at hq
      simp [tAst, xTern, kZ, kR, xGf, xGr, xV, xC, xUn, jIn, tRet0, hl, c0, c1, h2, h3, j1]
      exact hq
theorem fz_ok {M : jMm} {s l i n : Int} (h : ¬ fz M s l i n < 0) : 0 ≤ M 140 s ∧ M 140 s = l ∧ 0 ≤ i ∧ i + n ≤ M 141 s := by
  unfold fz at h
  by_cases e1 : M 140 s < 0
  · rw [if_pos e1] at h; omega
  · rw [if_neg e1] at h
    by_cases e2 : M 140 s ≠ l
    · rw [if_pos e2] at h; omega
    · rw [if_neg e2] at h
      by_cases e3 : i < 0 ∨ i + n > M 141 s
      · rw [if_pos e3] at h; omega
      · omega
theorem y_item {s l i v : Int} (hi : ir i) : yPair Inv f_X6_item f_X7_item [s, l, i, v] := by
  intro M Q I hq
  unfold f_X6_item
  have i1 : ir 1 := by unfold ir; omega
  have model : ∀ (M1 : jMm) (Q1 : Int → jMm → Prop), (rfz M1 s l i 1 < 0 → Q1 (rfz M1 s l i 1) M1) → (¬ rfz M1 s l i 1 < 0 → 0 ≤ i → i < 16 → Q1 1 (jwr M1 142 (16 * s + i) (cst l v))) → (M1 141 s ≤ 16) → f_X7_item [114, s, l, i, v] M1 Q1 := fun M1 Q1 k1 k2 k16 => by
    unfold f_X7_item
    unfold rfz at k1 k2
    refine mt_ (sq_ (if_pc (bt 0 s 3 = 0 ∨ bt 0 l 2 = 0) (or_pc (nz_pc (c1 (fun Q => rfl) (fun Q => qm_isSheet))) (fun _ => nz_pc (c1 (fun Q => rfl) (fun Q => qm_isLane)))) (fun c => rt_ ?_) (fun c => sk_ ?_)))
    · rw [if_pos c] at k1
      exact k1 (by decide)
    · rw [if_neg c] at k1 k2
      obtain ⟨s0, s1⟩ := bt_0 (fun z => c (.inl z))
      have s4 : s < 4 := by omega
      refine sq_ (st_v (v := fz M1 s l i 1) (fun Q => by
        show f_X7_finds [114, s, l, i, 1] M1 Q = _
        rw [qm_finds s0 s4 hi i1]) ?_)
      generalize hz : fz M1 s l i 1 = z at *
      refine sq_ (if_pc (z < 0) (kz_pc (r := fun x y => x < y) (u := z) (fun Q => rfl)) (fun d => rt_ (k1 d)) (fun d => sk_ ?_))
      unfold fz at hz
      have ib : 0 ≤ i ∧ i + 1 ≤ M1 141 s := by
        by_cases e1 : M1 140 s < 0
        · rw [if_pos e1] at hz; omega
        · rw [if_neg e1] at hz
          by_cases e2 : M1 140 s ≠ l
          · rw [if_pos e2] at hz; omega
          · rw [if_neg e2] at hz
            by_cases e3 : i < 0 ∨ i + 1 > M1 141 s
            · rw [if_pos e3] at hz; omega
            · omega
      have k := k2 d ib.1 (by omega)
      have i2 : ir (16 * s) := ⟨by omega, by omega⟩
      have i3 : ir (16 * s + i) := ⟨by omega, by omega⟩
      have j1 : 0 ≤ 16 * s + i ∧ 16 * s + i < 64 := by omega
      unfold cst at k
      by_cases c0 : l = 0
      · rw [if_pos c0] at k
        simp [tSeq, tAst, tRet, xTern, kZ, kR, xBin, boAdd, boMul, xGf, xGr, xV, xC, xUn, jIn, jup, c0, i2, i3, mrf42, mln142, j1]
        exact k
      · rw [if_neg c0] at k
        by_cases c1 : l = 1
        · rw [if_pos c1] at k
          simp [tSeq, tAst, tRet, xTern, kZ, kR, xBin, boAdd, boMul, xGf, xGr, xV, xC, xUn, jIn, jup, c1, i2, i3, mrf42, mln142, j1]
          exact k
        · rw [if_neg c1] at k
          simp [tSeq, tAst, tRet, xTern, kZ, kR, xBin, boAdd, boMul, xGf, xGr, xV, xC, xUn, jIn, jup, c0, c1, i2, i3, mrf42, mln142, j1]
          exact k
  have hs := I.2.2.2.1
  refine mt_ (sq_ (st_v (v := rfz M s l i 1) (fun Q => by
    show f_X6_refuse [0, s, l, i, 1] M Q = _
    rw [q_refuse hs (by decide)]) ?_))
  have r16 : ∀ s, 0 ≤ s → s < 4 → M 141 s ≤ 16 := fun s s0 s4 => (hs s s0 s4).2.2.2.1
  refine sq_ (if_pc (rfz M s l i 1 < 0) (kz_pc (r := fun x y => x < y) (u := rfz M s l i 1) (fun Q => rfl)) (fun d => rt_ ?_) (fun d => sk_ ?_))
  · show f_X7_item [114, s, l, i, v] M (fun b M2 => Q (rfz M s l i 1) b M2)
    by_cases c : bt 0 s 3 = 0 ∨ bt 0 l 2 = 0
    · unfold f_X7_item
      have e : rfz M s l i 1 = -1 := by unfold rfz; rw [if_pos c]
      rw [e]
      exact mt_ (sq_ (if_pc (bt 0 s 3 = 0 ∨ bt 0 l 2 = 0) (or_pc (nz_pc (c1 (fun Q => rfl) (fun Q => qm_isSheet))) (fun _ => nz_pc (c1 (fun Q => rfl) (fun Q => qm_isLane)))) (fun _ => hq _ _ I) (fun n => absurd c n)))
    · obtain ⟨s0, s1⟩ := bt_0 (fun z => c (.inl z))
      exact model M _ (fun _ => hq _ _ I) (fun n => absurd d n) (r16 s s0 (by omega))
  · have c : ¬ (bt 0 s 3 = 0 ∨ bt 0 l 2 = 0) := fun c => by
      unfold rfz at d; rw [if_pos c] at d; exact d (by decide)
    obtain ⟨s0, s1⟩ := bt_0 (fun z => c (.inl z))
    have s4 : s < 4 := by omega
    have sh := hs s s0 s4
    have fzd : rfz M s l i 1 = fz M s l i 1 := by unfold rfz; rw [if_neg c]
    have ib := fz_ok (by rw [← fzd]; exact d)
    obtain ⟨g0, g1, g2, g3, g4⟩ := id sh
    have e2 : M (106 + 2 * s) 2 = l := by omega
    refine sq_ (do3e (x0 := 106 + 2 * s) (x1 := i) (x2 := v) (fun Q => rowE (L := jup (jIn [0, 1, 2, 3, 4] [0, s, l, i, v]) 5 (rfz M s l i 1)) (i := 1) rfl rfl s0 s4 Q) (fun Q => rfl) (fun Q => rfl) ?_)
    refine q_put s0 s4 ib.2.2.1 (by omega) (by omega) (rt_ ?_)
    rw [e2]
    show f_X7_item [114, s, l, i, v] (jwr M (107 + 2 * s) i (cst l v)) (fun b M2 => Q 1 b M2)
    generalize hM1 : jwr M (107 + 2 * s) i (cst l v) = M1
    have f1 : ∀ a b, (a ≠ 107 + 2 * s ∨ b ≠ i) → M1 a b = M a b := fun a b h => by rw [← hM1, jw0 h]
    have v1 : M1 (107 + 2 * s) i = cst l v := by rw [← hM1, jw1 ⟨rfl, rfl⟩]
    have rz : rfz M1 s l i 1 = rfz M s l i 1 := by unfold rfz fz; rw [f1 140 s (.inl (by omega)), f1 141 s (.inl (by omega))]
    refine model M1 _ (fun n => absurd n (by rw [rz]; exact d)) (fun _ _ _ => hq _ _ (Inv_sheet I s0 s4 (fun a b _ e1 e2 e3 e4 e5 => by rw [jw0 (by omega), f1 _ _ (.inl e2)]) ?_)) (by rw [f1 141 s (.inl (by omega))]; exact r16 s s0 s4)
    have w : ∀ a b, a ≠ 142 → a ≠ 107 + 2 * s → jwr M1 142 (16 * s + i) (cst l v) a b = M a b := fun a b h1 h2 => by rw [jw0 (.inl h1), f1 _ _ (.inl h2)]
    unfold iSheet
    rw [w 140 s (by decide) (by omega), w 141 s (by decide) (by omega), w (106 + 2 * s) 1 (by omega) (by omega), w (106 + 2 * s) 2 (by omega) (by omega), w (106 + 2 * s) 3 (by omega) (by omega)]
    refine ⟨g0, g1, g2, g3, fun q q0 q1 => ?_⟩
    by_cases e : q = i
    · rw [jw1 ⟨rfl, by omega⟩, jw0 (.inl (by omega)), e, v1]
    · rw [jw0 (.inr (by omega)), jw0 (.inl (by omega)), f1 _ _ (.inl (by omega)), f1 _ _ (.inr e)]; exact g4 q q0 q1
