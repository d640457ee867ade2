/-! the model: who leaves, who steps on -/
theorem fst_eq {c : Int → Bool} {key : Int → Int} {n r : Int} {m : Nat} (e : (m : Int) = n) (h : isFst c key 0 n r) : r = gFst c key m := by
  subst e
  exact isFst_uniq h (isFst_gFst c key m)
theorem mo_leaves {M g : jMm} {t : Int} {Q : Int → jMm → Prop} (S : moS M g) {T B : Int} (ok : gOK T B g) (t0 : 0 ≤ t) (t1 : t ≤ 99) (hq : ∀ M', moS M' (gLeave t g) → mFr M M' → Q 0 M') : f_X7_leaves [114, t] M Q := by
  unfold f_X7_leaves
  have v := ok.1
  have e2 : M 115 2 = g 115 2 := (S.2.1 2).1
  have v2 := v.2.2.2
  have em : (((g 115 2).toNat : Nat) : Int) = g 115 2 := by omega
  generalize hm : (g 115 2).toNat = m at *
  refine mt_ (sq_ (sq_ (st_c ?_)))
  refine up0 2 (fun f L M' => L 0 = 114 ∧ L 1 = t ∧ mFr M M' ∧ ∃ h, moS M' h ∧ gOK T B h ∧ gSame g h ∧ h = (if f = 0 then g else if f = 1 then gLvs t 0 m g else gLvs t 1 m (gLvs t 0 m g))) rfl (by decide) ⟨rfl, rfl, mFr_rfl, g, S, ok, gSame_rfl, rfl⟩ (fun _ _ _ _ _ h => h) ?_ ?_
  · rintro f L M' N1 hf hi ⟨l0, l1, F, h, S', ok', sm', hh⟩ hN
    refine sq_ (st_c ?_)
    refine up0 m (fun j L M1 => L 0 = 114 ∧ L 1 = t ∧ L 2 = (f : Int) ∧ mFr M' M1 ∧ ∃ h1, moS M1 h1 ∧ gOK T B h1 ∧ gSame h h1 ∧ gLvs t f (m - j) h1 = gLvs t f m h) rfl (by omega) ⟨l0, l1, hi, mFr_rfl, h, S', ok', gSame_rfl, rfl⟩ ?_ ?_ ?_
    · rintro j L M1 Q ⟨l0, -, -, -, h1, S1, -, sm1, -⟩ hq
      have e : M1 115 2 = (m : Int) := by rw [(S1.2.1 2).1, (sm1.2 2).1, (sm'.2 2).1]; omega
      simp (disch := omega) only [xAl, xGr, xV, xC, l0, mrf0, mln115, ixE, e]
      exact hq
    · rintro j L M1 N2 hj hi3 ⟨l0, l1, l2, F1, h1, S1, ok1, sm1, hw⟩ hN2
      have v1 := ok1.1
      have hn0 := v1.1.2.2.1
      have hn := v1.1.2.2.2.1
      have en := gN_eq hn0
      obtain ⟨m', hm'⟩ : ∃ m', m - j = m' + 1 := ⟨m - j - 1, by omega⟩
      rw [hm'] at hw
      have hm2 : m - (j + 1) = m' := by omega
      have key : ∀ (L2 : jLo) M2, L2 3 = (j : Int) → L2 0 = 114 → L2 1 = t → L2 2 = (f : Int) → moS M2 (gLv t f h1) → mFr M1 M2 → N2 L2 M2 := fun L2 M2 i3 i0 i1 i2 S2 F2 => hN2 L2 M2 i3 ⟨i0, i1, i2, mFr_tr F1 F2, gLv t f h1, S2, ok_lv ok1 t0 t1, gSame_tr sm1 same_lv, by rw [hm2]; exact hw⟩
      refine sq_ (st_c (sq_ (sq_ (st_v (v := h1 114 5 - 1) (fun Q => ?_) ?_))))
      · have e5 : M1 114 5 = h1 114 5 := S1.1.2.1
        simp (disch := omega) only [xBin, boSub, xGf, xV, xC, jup, l0, e5, irE, reduceIte, Nat.reduceEqDiff]
      refine dn0 (gN h1) (fun i L M3 => L 0 = 114 ∧ L 1 = t ∧ L 2 = (f : Int) ∧ L 3 = (j : Int) ∧ M3 = M1 ∧ isFst (fun p => decide (h1 123 p = 3 ∧ h1 128 p = f)) (fun p => h1 129 p) i (h1 114 5) (L 4)) ?_ ⟨l0, l1, l2, hi3, rfl, .inl ⟨rfl, fun q a b => by omega⟩⟩ ?_ (by omega) ?_
      · show h1 114 5 - 1 = _
        omega
      · rintro i L M3 N3 hi' hi5 ⟨l0, l1, l2, l3, rfl, l4⟩ hN3
        have hp : (i : Int) < h1 114 5 := by omega
        have h2 : (i : Int) < 14 := by omega
        obtain ⟨p1, p2, -, -, -, -, -, p3⟩ := moS_get S1 (Int.natCast_nonneg i) hp
        have ei : ((i + 1 : Nat) : Int) = (i : Int) + 1 := by omega
        rw [ei] at l4
        refine sq_ (set_tern (h1 123 i = 3 ∧ h1 128 i = f) (fun T F => propext ?_) ?_)
        · by_cases c : h1 123 i = 3
          · have := (p3 c).1
            simp [kAnd, kR, xV, xC, xAl, xGr, l0, l2, hi5, mrf18, mrf23, mln123, mln128, h2, p1, this, c]
          · simp [kAnd, kR, xV, xC, xAl, xGr, l0, l2, hi5, mrf18, mrf23, mln123, mln128, h2, p1, c]
        refine set_sel (u := (i : Int)) (v := L 4) (decide (h1 123 i = 3 ∧ h1 128 i = f) = true ∧ (L 4 < 0 ∨ h1 129 i ≤ h1 129 (L 4))) (fun T F => propext ?_) (fun _ Q => ?_) (fun _ Q => ?_) (hN3 _ _ hi5 ⟨l0, l1, l2, l3, rfl, isFst_dn l4 hp (by omega)⟩)
        · by_cases c : h1 123 i = 3 ∧ h1 128 i = f
          · have q1 := (p3 c.1).2
            by_cases c2 : L 4 < 0
            · simp [kAnd, kOr, kZ, kR, xV, xC, jup, c, c2]
            · rcases l4 with ⟨q, -⟩ | ⟨b1, b2, b3, -⟩
              · omega
              · simp only [decide_eq_true_eq] at b3
                have q2 := ((moS_get S1 (by omega) b2).2.2.2.2.2.2.2 b3.1).2
                have b4 : L 4 < 14 := by omega
                have b5 : 0 ≤ L 4 := by omega
                simp [-Int.not_lt, kAnd, kOr, kZ, kR, xV, xC, xAl, xGr, jup, l0, hi5, mrf24, mln129, h2, q1, q2, b4, b5, c, c2]
          · simp [kAnd, kOr, kZ, kR, xV, xC, jup, c]
        · simp [xV, jup, hi5]
        · simp [xV, jup]
      · rintro L M3 hi5 ⟨l0, l1, l2, l3, rfl, l4⟩
        have l4 : L 4 = gLvP f h1 := fst_eq en l4
        unfold gLv at key
        rcases lvp_cases (g := h1) (f := f) hn0 with c | ⟨c1, c2, c3, c4⟩
        · rw [if_neg (by omega)] at key
          refine if_pc False (fun T F => ?_) (fun c => c.elim) (fun _ => key _ _ l3 l0 l1 l2 S1 mFr_rfl)
          simp [kZ, xV, l4, c]
        · rw [if_pos c1] at key
          refine if_pc True (fun T F => ?_) (fun c => ?_) (fun c => absurd trivial c)
          · simp [kZ, xV, l4, c1]
          generalize gLvP f h1 = q at *
          have c14 : q < 14 := by omega
          simp [tSeq, tAst, xV, xC, xGr, l0, l1, l4, mrf18, mrf27, mln123, mln132, c1, c14]
          refine key _ _ l3 l0 l1 l2 (moS_at q S1 (fun a b hab => ?_) (fun a b hab => ?_) ?_) (mFr_wr (mFr_wr mFr_rfl (.inl ⟨by decide, by decide⟩)) (.inl ⟨by decide, by decide⟩))
          · unfold jwr; rw [if_neg (by omega), if_neg (by omega)]
          · unfold jwr; rw [if_neg (by omega), if_neg (by omega)]
          · have P := moS_get S1 c1 c2
            simp [moP, jwr] at P ⊢
            omega
    · rintro L M1 hi3 ⟨l0, l1, l2, F1, h1, S1, ok1, sm1, hw⟩
      rw [Nat.sub_self] at hw
      have hw : h1 = gLvs t f m h := hw
      refine hN _ _ l2 ⟨l0, l1, mFr_tr F F1, h1, S1, ok1, gSame_tr sm' sm1, ?_⟩
      rw [hw, hh]
      have : f = 0 ∨ f = 1 := by omega
      rcases this with rfl | rfl <;> rfl
  · rintro L M' hi ⟨-, -, F, h, S', -, -, hw⟩
    have hw : h = gLvs t 1 m (gLvs t 0 m g) := hw
    have e : gLeave t g = h := by unfold gLeave; rw [hm, hw]
    rw [e] at hq
    exact hq _ S' F
theorem mo_stepsOn {M g : jMm} {t s : Int} {Q : Int → jMm → Prop} (S : moS M g) {B : Int} (ok : gOK (t + 1) B g) (s0 : 0 ≤ s) (s1 : s < g 114 1) (hg : gGoes g s) (t0 : 0 ≤ t) (t1 : t ≤ 99) (hq : ∀ M', moS M' (gBd t s 1 (gBd t s 0 g)) → mFr M M' → Q 0 M') : f_X7_stepsOn [114, s, t] M Q := by
  unfold f_X7_stepsOn
  have v := ok.1
  have hk := v.1.2.1
  have s3 : s < 3 := by omega
  obtain ⟨-, e134, -⟩ := S.2.2.1 s s0 s3
  refine mt_ (sq_ (st_v (v := 1 - gFl g s) (fun Q => ?_) (sq_ (sq_ (st_c ?_)))))
  · apply propext
    by_cases c : g 134 s = 1 <;> simp [jMeth, jIn, jup, tSeq, tIf, tSkip, tSet, tInc, tPut, tPutZ, tPutO, tAst, tAstO, tDo, tRet, tRetZ, tRet0, kAnd, kOr, kNot, kZ, kR, xV, xC, xGf, xGr, xAl, xAr, xSt, xLen, xBin, xUn, xNeg, xTern, xCall, xsC, xsN, boAdd, boSub, boMul, boDiv, boRem, boMax, boMin, boOr, boAnd, boShl, boShr, gFl, mrf29, mln134, e134, s0, s3, c]
  refine up0 2 (fun y L M' => L 0 = 114 ∧ L 1 = s ∧ L 2 = t ∧ L 3 = 1 - gFl g s ∧ mFr M M' ∧ ∃ h, moS M' h ∧ gOK (t + 1) B h ∧ gSame g h ∧ (∀ b, h 134 b = g 134 b) ∧ h = (if y = 0 then g else if y = 1 then gBd t s 0 g else gBd t s 1 (gBd t s 0 g))) rfl (by decide) ⟨rfl, rfl, rfl, rfl, mFr_rfl, g, S, ok, gSame_rfl, fun _ => rfl, rfl⟩ (fun _ _ _ _ _ h => h) ?_ ?_
  · rintro y L M' N1 hy hi ⟨l0, l1, l2, l3, F, h1, S1, ok1, sm1, h134, hw⟩ hN
    have v1 := ok1.1
    have hn0 := v1.1.2.2.1
    have hn := v1.1.2.2.2.1
    have en := gN_eq hn0
    have efl : gFl h1 s = gFl g s := by unfold gFl; rw [h134]
    have s1' : s < h1 114 1 := by rw [sm1.1 1 (by decide)]; exact s1
    have key : ∀ (L2 : jLo) M2, L2 4 = (y : Int) → L2 0 = 114 → L2 1 = s → L2 2 = t → L2 3 = 1 - gFl g s → moS M2 (gBd t s y h1) → mFr M' M2 → N1 L2 M2 := fun L2 M2 i4 i0 i1 i2 i3 S2 F2 => hN L2 M2 i4 ⟨i0, i1, i2, i3, mFr_tr F F2, gBd t s y h1, S2, ok_bd ok1 s0 s1' t0 t1 (by omega) (by omega) (by rw [h134]; omega), gSame_tr sm1 same_bd, fun b => by rw [bd_134, h134], by
      rw [hw]
      have : y = 0 ∨ y = 1 := by omega
      rcases this with rfl | rfl <;> rfl⟩
    refine sq_ (st_c (sq_ (sq_ (st_v (v := h1 114 5 - 1) (fun Q => ?_) ?_))))
    · have e5 : M' 114 5 = h1 114 5 := S1.1.2.1
      simp (disch := omega) only [xBin, boSub, xGf, xV, xC, jup, l0, e5, irE, reduceIte, Nat.reduceEqDiff]
    refine dn0 (gN h1) (fun i L M3 => L 0 = 114 ∧ L 1 = s ∧ L 2 = t ∧ L 3 = 1 - gFl g s ∧ L 4 = (y : Int) ∧ M3 = M' ∧ isFst (fun p => decide (h1 123 p = 1 ∧ h1 117 (3 * p + 1) = 1 - gFl h1 s) && gMay h1 p s y) (fun p => h1 117 (3 * p)) i (h1 114 5) (L 5)) ?_ ⟨l0, l1, l2, l3, hi, rfl, .inl ⟨rfl, fun q a b => by omega⟩⟩ ?_ (by omega) ?_
    · show h1 114 5 - 1 = _
      omega
    · rintro i L M3 N3 hi' hi6 ⟨l0, l1, l2, l3, l4, rfl, l5⟩ hN3
      have hp : (i : Int) < h1 114 5 := by omega
      have h2 : (i : Int) < 14 := by omega
      obtain ⟨p1, p2, -⟩ := moS_get S1 (Int.natCast_nonneg i) hp
      have ei : ((i + 1 : Nat) : Int) = (i : Int) + 1 := by omega
      rw [ei] at l5
      have e117 : ∀ j, M3 117 j = h1 117 j := fun j => (S1.2.1 j).2.2
      have hmay : ∀ Q, f_X7_may [114, (i : Int), s, (y : Int)] M3 Q = Q (if gMay h1 i s y = true then 1 else 0) M3 := fun Q => mo_may S1 hn hn0 (by omega) hp s0 s3
      refine sq_ (set_tern ((decide (h1 123 i = 1 ∧ h1 117 (3 * i + 1) = 1 - gFl h1 s) && gMay h1 i s y) = true) (fun T F => propext ?_) ?_)
      · have i1 : ir (3 * (i : Int)) := ⟨by omega, by omega⟩
        have i2 : ir (3 * (i : Int) + 1) := ⟨by omega, by omega⟩
        have i3 : 0 ≤ 3 * (i : Int) + 1 := by omega
        have i4 : 3 * (i : Int) + 1 < 42 := by omega
        simp only [kAnd, kR, kZ, xV, xC, xAl, xGr, xBin, boAdd, boMul, xCall, xsC, xsN, l0, l1, l3, l4, hi6, mrf6, mrf18, mln117, mln123, e117, p1, hmay, efl]
        by_cases c : h1 123 i = 1 <;> by_cases c2 : h1 117 (3 * i + 1) = 1 - gFl g s <;> by_cases c3 : gMay h1 i s y = true <;> simp [h2, i1, i2, i3, i4, c, c2, c3]
      refine set_sel (u := (i : Int)) (v := L 5) ((decide (h1 123 i = 1 ∧ h1 117 (3 * i + 1) = 1 - gFl h1 s) && gMay h1 i s y) = true ∧ (L 5 < 0 ∨ h1 117 (3 * i) ≤ h1 117 (3 * (L 5)))) (fun T F => propext ?_) (fun _ Q => ?_) (fun _ Q => ?_) (hN3 _ _ hi6 ⟨l0, l1, l2, l3, l4, rfl, isFst_dn l5 hp (by omega)⟩)
      · by_cases c : (decide (h1 123 i = 1 ∧ h1 117 (3 * i + 1) = 1 - gFl h1 s) && gMay h1 i s y) = true
        · by_cases c2 : L 5 < 0
          · rw [if_pos c]
            simp only [c, c2]
            simp [kAnd, kOr, kZ, kR, xV, xC, jup, c2]
          · rcases l5 with ⟨q, -⟩ | ⟨b1, b2, -, -⟩
            · omega
            · have b4 : L 5 < 14 := by omega
              have b5 : 0 ≤ L 5 := by omega
              have i1 : ir (3 * (i : Int)) := ⟨by omega, by omega⟩
              have i2 : ir (3 * L 5) := ⟨by omega, by omega⟩
              have i3 : 0 ≤ 3 * (i : Int) ∧ 3 * (i : Int) < 42 := by omega
              have i4 : 0 ≤ 3 * L 5 ∧ 3 * L 5 < 42 := by omega
              rw [if_pos c]
              simp only [c, kAnd, kOr, kZ, kR, xV, xC, xAl, xGr, xBin, boMul, jup, l0, hi6, mrf6, mln117, e117, reduceIte, Nat.reduceEqDiff]
              simp only [i1, i2, i3, i4, c2]
              simp
        · rw [if_neg c]
          simp only [c]
          simp [kAnd, kOr, kZ, kR, xV, xC, jup]
      · simp [xV, jup, hi6]
      · simp [xV, jup]
    · rintro L M3 hi6 ⟨l0, l1, l2, l3, l4, rfl, l5⟩
      have l5 : L 5 = gBdP s y h1 := fst_eq en l5
      have hw : ∀ Q, f_X7_who [114, s, 0, (y : Int)] M3 Q = Q (gWho h1 s 0 y) M3 := fun Q => mo_who S1 hn hn0
      unfold gBd at key
      refine if_pc (gWho h1 s 0 y < 0 ∧ gBdP s y h1 ≥ 0) (fun T F => propext ?_) (fun c => ?_) (fun c => ?_)
      · simp only [kAnd, kZ, xCall, xsC, xsN, xV, xC, l0, l1, l4, l5, hw]
        by_cases c1 : gWho h1 s 0 y < 0 <;> by_cases c2 : gBdP s y h1 ≥ 0 <;> simp [-Int.not_lt, -Int.not_le, c1, c2]
      · rw [if_pos c] at key
        rcases bdp_cases (g := h1) (s := s) (y := y) hn0 with c' | ⟨c1, c2, c3, c4, -⟩
        · omega
        generalize gBdP s y h1 = q at *
        have c14 : q < 14 := by omega
        have e117 : M3 117 (3 * q) = h1 117 (3 * q) := (S1.2.1 _).2.2
        have u := v1.2.1 q c1 c2
        have i1 : ir (3 * q) := ⟨by omega, by omega⟩
        have i2 : ir (t - h1 117 (3 * q)) := ⟨by omega, by omega⟩
        have i3 : 0 ≤ 3 * q ∧ 3 * q < 42 := by omega
        simp only [tSeq, tAst, xV, xC, xGr, xAl, xBin, boSub, boMul, l0, l1, l2, l4, l5, mrf6, mrf18, mrf20, mrf21, mrf22, mrf25, mrf26, mrf28, mln117, mln123, mln125, mln126, mln127, mln130, mln131, mln133]
        have er : ∀ (M : jMm) (k v : Int), k ≠ 117 → jwr M k q v 117 (3 * q) = M 117 (3 * q) := fun M k v hk => by
          unfold jwr; rw [if_neg (fun z => hk z.1.symm)]
        rw [er _ _ _ (by decide), er _ _ _ (by decide), er _ _ _ (by decide), er _ _ _ (by decide), er _ _ _ (by decide), er _ _ _ (by decide), e117]
        simp only [c1, c14, i1, i2, i3, true_and]
        refine key _ _ l4 l0 l1 l2 l3 (moS_at q S1 (fun a b hab => ?_) (fun a b hab => ?_) ?_) (mFr_of q fun a b hab => ?_)
        · unfold jwr; rw [if_neg (by omega), if_neg (by omega), if_neg (by omega), if_neg (by omega), if_neg (by omega), if_neg (by omega), if_neg (by omega)]
        · unfold gPut
          by_cases e : b = q
          · rw [if_pos e, if_neg (by omega), if_neg (by omega), if_neg (by omega), if_neg (by omega), if_neg (by omega), if_neg (by omega), if_neg (by omega)]
          · rw [if_neg e]
        · have P := moS_get S1 c1 c2
          simp [moP, jwr, gPut] at P ⊢
          omega
        · unfold jwr; rw [if_neg (by omega), if_neg (by omega), if_neg (by omega), if_neg (by omega), if_neg (by omega), if_neg (by omega), if_neg (by omega)]
      · rw [if_neg c] at key
        exact key _ _ l4 l0 l1 l2 l3 S1 mFr_rfl
  · rintro L M' hi ⟨-, -, -, -, F, h, S', -, -, -, hw⟩
    have hw : h = gBd t s 1 (gBd t s 0 g) := hw
    rw [← hw] at hq
    exact hq _ S' F
