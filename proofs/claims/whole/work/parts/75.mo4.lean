/-! the model: walks, the change, who leaves -/
theorem wh_out {c : jCn} {b : jSt} {L : jLo} {M : jMm} {N : jLo → jMm → Prop} {R : Int → jMm → Prop} (h : ∀ T : jMm → Prop, c L M T (fun M => N L M)) : tWh c b L M N R := ⟨1, h _⟩
theorem up0a {i : Nat} {E : jEx} {C : jCn} {B : jSt} {L : jLo} {M : jMm} {N : jLo → jMm → Prop} {R : Int → jMm → Prop} (n : Nat) (I : Nat → jLo → jMm → Prop) (ha : L i = 0) (hh : (n : Int) ≤ 2147483647) (hI : I 0 L M)
    (hE : ∀ (j : Nat) (L : jLo) (M : jMm) (Q : Int → jMm → Prop), I j L M → Q (n : Int) M → E L M Q)
    (hC : ∀ (j : Nat) (L : jLo) (M : jMm) (T F : jMm → Prop), I j L M → T M → C L M T F)
    (hB : ∀ (j : Nat) (L : jLo) (M : jMm) (N1 : jLo → jMm → Prop), j < n → L i = (j : Int) → I j L M → (∀ (L' : jLo) (M' : jMm), L' i = (j : Int) → I (j + 1) (jup L' i ((j : Int) + 1)) M' → N1 L' M') → B L M N1 R)
    (hN : ∀ (L : jLo) (M : jMm), L i = (n : Int) → I n L M → N L M) : tWh (kAnd (kR (fun x y => x < y) (xV i) E) C) (tSeq B (tInc i 1)) L M N R := by
  refine wh_rule (fun k L M => ∃ j : Nat, L i = (j : Int) ∧ j ≤ n ∧ I j L M ∧ k = n - j) ?_ (k := n) ⟨0, ha, Nat.zero_le _, hI, rfl⟩
  rintro k L M ⟨j, h1, h3, h4, h5⟩ N' hN'
  refine hE j L M _ h4 ⟨fun hc => ?_, fun hc => ?_⟩
  · have hc : L i < (n : Int) := hc
    refine hC j L M _ _ h4 (hB j L M _ (by omega) h1 h4 (fun L' M' e hI' => ?_))
    refine ⟨⟨by omega, by omega⟩, hN' (n - (j + 1)) _ M' (by omega) ⟨j + 1, ?_, by omega, ?_, rfl⟩⟩
    · show (if i = i then L' i + 1 else L' i) = ((j + 1 : Nat) : Int)
      rw [if_pos rfl, e]; omega
    · rw [e]; exact hI'
  · have hc : ¬ L i < (n : Int) := hc
    have : j = n := by omega
    subst this
    exact hN L M h1 h4
theorem mo_walks {M g : jMm} {s : Int} {Q : Int → jMm → Prop} (S : moS M g) {T B : Int} (ok : gOK T B g) (s0 : 0 ≤ s) (s1 : s < g 114 1) (hq : ∀ M', moS M' (gWalks s (g 116 (3 * s) - 1).toNat g) → mFr M M' → Q 0 M') : f_X7_walks [114, s] M Q := by
  unfold f_X7_walks
  have v := ok.1
  have hk := v.1.2.1
  have vs := v.2.2.1 s s0 s1
  have e116 : M 116 (3 * s) = g 116 (3 * s) := (S.2.1 _).2.1
  have eN : (((g 116 (3 * s) - 1).toNat : Nat) : Int) = g 116 (3 * s) - 1 := by omega
  generalize hm : (g 116 (3 * s) - 1).toNat = m at *
  refine mt_ (sq_ (sq_ (st_v (v := g 116 (3 * s) - 2) (fun Q => ?_) ?_)))
  · simp (disch := omega) only [jMeth, jIn, jup, tSeq, tIf, tSkip, tSet, tInc, tPut, tPutZ, tPutO, tAst, tAstO, tDo, tRet, tRetZ, tRet0, kAnd, kOr, kNot, kZ, kR, xV, xC, xGf, xGr, xAl, xAr, xSt, xLen, xBin, xUn, xNeg, xTern, xCall, xsC, xsN, boAdd, boSub, boMul, boDiv, boRem, boMax, boMin, boOr, boAnd, boShl, boShr, mrf2, mln116, e116, ixE, irE, reduceIte, Nat.reduceEqDiff]
  refine dn0 m (fun j L M' => L 0 = 114 ∧ L 1 = s ∧ mFr M M' ∧ ∃ h, moS M' h ∧ gOK T B h ∧ gSame g h ∧ gWalks s j h = gWalks s m g) ?_ ⟨rfl, rfl, mFr_rfl, g, S, ok, gSame_rfl, rfl⟩ ?_ (by omega) ?_
  · show g 116 (3 * s) - 2 = (m : Int) - 1
    omega
  · rintro j L M' N1 hj hi ⟨l0, l1, F, h, S', ok', sm', hw⟩ hN
    have e1 : h 114 1 = g 114 1 := sm'.1 1 (by decide)
    have e2 : h 116 (3 * s) = g 116 (3 * s) := (sm'.2 _).2.1
    have v' := ok'.1
    have hn0 := v'.1.2.2.1
    have hn := v'.1.2.2.2.1
    have w1 : ∀ x Q, f_X7_who [114, s, x, 1] M' Q = Q (gWho h s x 1) M' := fun x Q => mo_who S' hn hn0
    refine sq_ (st_v (v := gWho h s j 1) (fun Q => ?_) ?_)
    · simp only [xCall, xsC, xsN, xV, xC, l0, l1, hi, w1]
    have key : ∀ M2, moS M2 (gWalk s j h) → mFr M' M2 → N1 (jup L 3 (gWho h s j 1)) M2 := fun M2 S2 F2 => hN _ _ hi ⟨l0, l1, mFr_tr F F2, gWalk s j h, S2, ok_walk ok' s0 (by omega) (by omega), gSame_tr sm' same_walk, hw⟩
    unfold gWalk at key
    rcases who_cases (g := h) (s := s) (x := j) (y := 1) hn0 with ⟨a1, -⟩ | ⟨a1, a2, ⟨a3, a4⟩, a5, a6⟩
    · rw [a1] at key ⊢
      refine if_pc False (fun T F => ?_) (fun c => c.elim) (fun _ => key _ ?_ mFr_rfl)
      · simp [kAnd, kZ, xV, jup]
      · rw [if_neg (by omega)]; exact S'
    · generalize hW : gWho h s j 1 = q at *
      have P := moS_get S' a1 a2
      obtain ⟨p1, p2, -, -, -, -, p3, -⟩ := P
      obtain ⟨-, p4, p5⟩ := p3 a3
      have a14 : q < 14 := by omega
      have i1 : ir ((j : Int) + 1) := ⟨by omega, by omega⟩
      refine if_pc ((q ≥ 0 ∧ h 124 q = 1 ∧ h 127 q = 1) ∧ gWho h s ((j : Int) + 1) 1 < 0) (fun T F => ?_) (fun c => ?_) (fun c => ?_)
      · by_cases c1 : h 124 q = 1 <;> by_cases c2 : h 127 q = 1 <;> simp [kAnd, kZ, kR, xV, xC, xAl, xGr, xCall, xsC, xsN, xBin, boAdd, jup, l0, l1, hi, mrf19, mrf22, mln124, mln127, p2, p5, a1, a14, c1, c2, w1, i1]
      · rw [if_pos c] at key
        have gp := (ok'.2.1 q a1 a2).2.2.2.2.1 a3
        rw [a4] at gp
        have i2 : ir (h 126 q + 1) := ⟨by omega, by omega⟩
        simp [tAstO, xV, xC, xGr, boAdd, jup, l0, mrf21, mln126, p4, a1, a14, i2]
        refine key _ (moS_at q S' (fun a b hab => ?_) (fun a b hab => ?_) ?_) (mFr_wr mFr_rfl (.inl ⟨by decide, by decide⟩))
        · unfold jwr; rw [if_neg (by omega)]
        · unfold jwr; rw [if_neg (by omega)]
        · have P := moS_get S' a1 a2
          simp [moP, jwr, a3] at P ⊢
          omega
      · rw [if_neg c] at key
        exact key _ S' mFr_rfl
  · rintro L M' hi ⟨-, -, F, h, S', -, -, hw⟩
    have hw : h = gWalks s m g := hw
    rw [hw] at S'
    exact hq _ S' F
