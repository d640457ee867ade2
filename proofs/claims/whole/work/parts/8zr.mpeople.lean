/-! the model: people -/
theorem putm {v b : Int} {L : jLo} {M : jMm} {N : jLo → jMm → Prop} {R : Int → jMm → Prop} (l0 : L 0 = 114) (l2 : L 2 = v) (hv : v = 0 ∨ v = 1) (hb : M 114 9 = b) (b0 : 0 ≤ b) (b80 : b ≤ 80) (h : N L (jwr M 114 9 (b + v))) : tPutO boAdd (xV 0) 9 (xTern (kZ (fun x y => x ≠ y) (xV 2)) (xC 1) (xC 0)) L M N R := by
  show (xTern (kZ (fun x y => x ≠ y) (xV 2)) (xC 1) (xC 0)) L M (fun v M1 => ir (M (L 0) 9 + v) ∧ N L (jwr M1 (L 0) 9 (M (L 0) 9 + v)))
  rw [tern_ (P := v ≠ 0) (u := 1) (v := 0) (kz_pc (fun Q => by simp only [xV, l2])) (fun _ Q => rfl) (fun _ Q => rfl)]
  have e : (if v ≠ 0 then (1 : Int) else 0) = v := by
    rcases hv with z | z <;> rw [z] <;> decide
  rw [e, l0, hb]
  exact ⟨⟨by omega, by omega⟩, h⟩
theorem qm_tail1 {a j : Int} {L : jLo} {M : jMm} {N : jLo → jMm → Prop} {R : Int → jMm → Prop} (l0 : L 0 = 114) (l1 : L 1 = j) (j0 : 0 ≤ j) (j8 : j < 8) (ha : M 114 9 = a) (hw : M 114 10 = 1) (a0 : 0 ≤ a) (a80 : a ≤ 80) (hN : ∀ L', L' 0 = 114 → L' 1 = j + 1 → L' 2 = 0 → N L' M) : (tSeq (tInc 1 1) (tSeq (tSet 2 (xTern (kAnd (kAnd (kNot (kZ (fun x y => x ≠ y) (xGf (xV 0) 10))) (kR (fun x y => x < y) (xV 1) (xC 8))) (kR (fun x y => x = y) (xCall f_X7_here (xsC (xV 0) (xsN))) (xC 59))) (xC 1) (xC 0))) (tPutO boAdd (xV 0) 9 (xTern (kZ (fun x y => x ≠ y) (xV 2)) (xC 1) (xC 0))))) L M N R := by
  refine sq_ ⟨⟨by omega, by omega⟩, ?_⟩
  have l0' : jup L 1 (L 1 + 1) 0 = 114 := l0
  have l1' : jup L 1 (L 1 + 1) 1 = j + 1 := by show L 1 + 1 = j + 1; rw [l1]
  generalize jup L 1 (L 1 + 1) = L1 at *
  refine sq_ ?_
  show (M (L1 0) 10 ≠ 0 → _) ∧ (¬ M (L1 0) 10 ≠ 0 → _)
  rw [l0', hw]
  refine ⟨fun _ => ?_, fun z => absurd (by decide) z⟩
  show tPutO boAdd (xV 0) 9 (xTern (kZ (fun x y => x ≠ y) (xV 2)) (xC 1) (xC 0)) (jup L1 2 0) M N R
  refine putm (v := 0) (b := a) l0' rfl (.inl rfl) ha a0 a80 ?_
  rw [show a + 0 = a by omega, jwS ha]
  exact hN _ l0' l1' rfl
theorem qm_tail0 {f : Int → Int} {T b j : Int} {L : jLo} {M : jMm} {N : jLo → jMm → Prop} {R : Int → jMm → Prop} (h : tXm M f T) (l0 : L 0 = 114) (l1 : L 1 = j) (j0 : 0 ≤ j) (j8 : j < 8) (hb : M 114 9 = b) (hw : M 114 10 = 0) (b0 : 0 ≤ b) (bT : b ≤ T) (hN : ∀ L' M', L' 0 = 114 → L' 1 = j + 1 → mrF M M' → (∀ y, M' 119 y = M 119 y) → M' 114 10 = 0 → ((L' 2 = 1 ∧ hd f T b = 59 ∧ j + 1 < 8 ∧ M' 114 9 = bl f T b + 1) ∨ (L' 2 = 0 ∧ ¬ (hd f T b = 59 ∧ j + 1 < 8) ∧ 0 ≤ M' 114 9 ∧ M' 114 9 ≤ T ∧ bl f T (M' 114 9) = bl f T b)) → N L' M') : (tSeq (tInc 1 1) (tSeq (tSet 2 (xTern (kAnd (kAnd (kNot (kZ (fun x y => x ≠ y) (xGf (xV 0) 10))) (kR (fun x y => x < y) (xV 1) (xC 8))) (kR (fun x y => x = y) (xCall f_X7_here (xsC (xV 0) (xsN))) (xC 59))) (xC 1) (xC 0))) (tPutO boAdd (xV 0) 9 (xTern (kZ (fun x y => x ≠ y) (xV 2)) (xC 1) (xC 0))))) L M N R := by
  have hT := h.2.1.1
  have bb := bl_b (f := f) bT
  refine sq_ ⟨⟨by omega, by omega⟩, ?_⟩
  have l0' : jup L 1 (L 1 + 1) 0 = 114 := l0
  have l1' : jup L 1 (L 1 + 1) 1 = j + 1 := by show L 1 + 1 = j + 1; rw [l1]
  generalize jup L 1 (L 1 + 1) = L1 at *
  refine sq_ ?_
  show (M (L1 0) 10 ≠ 0 → _) ∧ (¬ M (L1 0) 10 ≠ 0 → ((L1 1 < 8 → f_X7_here [L1 0] M (fun v M1 => (v = 59 → tPutO boAdd (xV 0) 9 (xTern (kZ (fun x y => x ≠ y) (xV 2)) (xC 1) (xC 0)) (jup L1 2 1) M1 N R) ∧ (¬ v = 59 → tPutO boAdd (xV 0) 9 (xTern (kZ (fun x y => x ≠ y) (xV 2)) (xC 1) (xC 0)) (jup L1 2 0) M1 N R))) ∧ (¬ L1 1 < 8 → tPutO boAdd (xV 0) 9 (xTern (kZ (fun x y => x ≠ y) (xV 2)) (xC 1) (xC 0)) (jup L1 2 0) M N R)))
  rw [l0', hw, l1']
  refine ⟨fun z => absurd rfl z, fun _ => ⟨fun c => ?_, fun c => ?_⟩⟩
  · rw [qm_here h hb b0 bT]
    refine ⟨fun c2 => ?_, fun c2 => ?_⟩
    · have k := hd_lt (f := f) (T := T) (a := b) (by rw [c2]; decide)
      refine putm (v := 1) (b := bl f T b) l0' rfl (.inr rfl) (jw1 ⟨rfl, rfl⟩) (by omega) (by omega) ?_
      exact hN _ _ l0' l1' (mrF_tr (mrF_wr (by omega)) (mrF_wr (by omega))) (fun y => by rw [jw0 (by omega), jw0 (by omega)]) (by rw [jw0 (by omega), jw0 (by omega)]; exact hw) (.inl ⟨rfl, c2, c, jw1 ⟨rfl, rfl⟩⟩)
    · refine putm (v := 0) (b := bl f T b) l0' rfl (.inl rfl) (jw1 ⟨rfl, rfl⟩) (by omega) (by omega) ?_
      rw [show bl f T b + 0 = bl f T b by omega]
      have e9 : jwr (jwr M 114 9 (bl f T b)) 114 9 (bl f T b) 114 9 = bl f T b := jw1 ⟨rfl, rfl⟩
      exact hN _ _ l0' l1' (mrF_tr (mrF_wr (by omega)) (mrF_wr (by omega))) (fun y => by rw [jw0 (by omega), jw0 (by omega)]) (by rw [jw0 (by omega), jw0 (by omega)]; exact hw) (.inr ⟨rfl, fun z => c2 z.1, by rw [e9]; omega, by rw [e9]; omega, by rw [e9, bl_i bT]⟩)
  · refine putm (v := 0) (b := b) l0' rfl (.inl rfl) hb b0 (by omega) ?_
    rw [show b + 0 = b by omega, jwS hb]
    exact hN _ _ l0' l1' (fun _ _ _ _ => rfl) (fun y => rfl) hw (.inr ⟨rfl, fun z => c z.2, by omega, by omega, by rw [hb]⟩)
theorem qm_body {f : Int → Int} {T a j : Int} {L : jLo} {M : jMm} {N : jLo → jMm → Prop} {R : Int → jMm → Prop} (h : tXm M f T) (ha : M 114 9 = a) (hw : M 114 10 = 0) (a0 : 0 ≤ a) (aT : a ≤ T) (l0 : L 0 = 114) (l1 : L 1 = j) (j0 : 0 ≤ j) (j8 : j < 8)
    (h1 : ∀ L' M', L' 0 = 114 → L' 1 = j + 1 → L' 2 = 0 → mrF M M' → M' 114 10 = 1 → M' 114 9 = flt f T a → 0 ≤ flt f T a → N L' M')
    (h2 : ∀ L' M', L' 0 = 114 → L' 1 = j + 1 → mrF M M' → (∀ y, y < 3 * j → M' 119 y = M 119 y) → flt f T a = -1 → (M' 119 (3 * j) = nv f T a ∧ M' 119 (3 * j + 1) = lA (hd f T (e1 f T a)) ∧ M' 119 (3 * j + 2) = lB (hd f T (e2 f T a))) → M' 114 10 = 0 → ((L' 2 = 1 ∧ hd f T (e3 f T a) = 59 ∧ j + 1 < 8 ∧ M' 114 9 = bl f T (e3 f T a) + 1) ∨ (L' 2 = 0 ∧ ¬ (hd f T (e3 f T a) = 59 ∧ j + 1 < 8) ∧ 0 ≤ M' 114 9 ∧ M' 114 9 ≤ T ∧ bl f T (M' 114 9) = bl f T (e3 f T a))) → N L' M') :
    (tSeq (tAst (xGr (xV 0) 11) (xBin boMul (xC 3) (xV 1)) (xCall f_X7_number (xsC (xV 0) (xsC (xC 99) (xsN))))) (tSeq (tAst (xGr (xV 0) 11) (xBin boAdd (xBin boMul (xC 3) (xV 1)) (xC 1)) (xCall f_X7_letter (xsC (xV 0) (xsC (xC 117) (xsC (xC 100) (xsC (xC (-1)) (xsC (xC (-1)) (xsC (xC (-1)) (xsN))))))))) (tSeq (tAst (xGr (xV 0) 11) (xBin boAdd (xBin boMul (xC 3) (xV 1)) (xC 2)) (xCall f_X7_letter (xsC (xV 0) (xsC (xC 115) (xsC (xC 119) (xsC (xC 98) (xsC (xC 99) (xsC (xC 102) (xsN))))))))) (tSeq (tInc 1 1) (tSeq (tSet 2 (xTern (kAnd (kAnd (kNot (kZ (fun x y => x ≠ y) (xGf (xV 0) 10))) (kR (fun x y => x < y) (xV 1) (xC 8))) (kR (fun x y => x = y) (xCall f_X7_here (xsC (xV 0) (xsN))) (xC 59))) (xC 1) (xC 0))) (tPutO boAdd (xV 0) 9 (xTern (kZ (fun x y => x ≠ y) (xV 2)) (xC 1) (xC 0)))))))) L M N R := by
  have hT := h.2.1.1
  have l119 : s_len 119 = 24 := mln119
  have bb := bl_b (f := f) aT
  have be := e1_b (f := f) aT
  have ho : ∀ (M : jMm) (Q : Int → jMm → Prop), xGr (xV 0) 11 L M Q = Q 119 M := fun M => gr_ (k := 114) (fun Q => by simp only [xV, l0]) mrf11
  have i3 : ∀ (M : jMm) (Q : Int → jMm → Prop), xBin boMul (xC 3) (xV 1) L M Q = Q (3 * j) M := fun M => bn_mul (fun Q => rfl) (fun Q => by simp only [xV, l1]) ⟨by omega, by omega⟩
  have i31 : ∀ (M : jMm) (Q : Int → jMm → Prop), xBin boAdd (xBin boMul (xC 3) (xV 1)) (xC 1) L M Q = Q (3 * j + 1) M := fun M => bn_add (i3 M) (fun Q => rfl) ⟨by omega, by omega⟩
  have i32 : ∀ (M : jMm) (Q : Int → jMm → Prop), xBin boAdd (xBin boMul (xC 3) (xV 1)) (xC 2) L M Q = Q (3 * j + 2) M := fun M => bn_add (i3 M) (fun Q => rfl) ⟨by omega, by omega⟩
  have w9 : ∀ (M : jMm) (y v : Int) (z : Int), jwr M 119 y v 114 z = M 114 z := fun M y v z => jw0 (.inl (by decide))
  have wF : ∀ (M' : jMm) (y v : Int), mrF M M' → mrF M (jwr M' 119 y v) := fun M' y v F => mrF_tr F (mrF_wr (.inl rfl))
  refine sq_ (ast_c (ho M) (i3 M) ?_)
  show f_X7_number [L 0, 99] M _
  rw [l0]
  refine qm_number h ha hw a0 aT (fun M1 ok F1 r1 p1 w1 => ⟨by omega, ?_⟩) (fun v M1 nk F1 r1 p1 w1 => ⟨by omega, ?_⟩)
  · have fl1 : flt f T a = if lA (hd f T (e1 f T a)) < 0 then bl f T (e1 f T a) else if lB (hd f T (e2 f T a)) < 0 then bl f T (e2 f T a) else -1 := if_pos ok
    have b2 := bl_b (f := f) be.2
    have hb := hd_b (a := e1 f T a) h.2.1 (by omega) be.2
    refine sq_ (ast_c (ho _) (i31 _) ?_)
    show f_X7_letter [L 0, 117, 100, -1, -1, -1] _ _
    rw [l0]
    refine qm_letter0 (tXm_fr h (wF _ _ _ F1)) ((w9 _ _ _ _).trans p1) ((w9 _ _ _ _).trans w1) (by omega) be.2 (fun M2 c2 F2 r2 p2 w2 => ⟨by omega, ?_⟩) (fun M2 c2 F2 r2 p2 w2 => ⟨by omega, ?_⟩)
    · rw [lm_A hb.1] at c2 ⊢
      have la : lA (hd f T (e1 f T a)) < 0 := by
        by_cases z : lA (hd f T (e1 f T a)) < 0
        · exact z
        · rw [if_neg z] at c2; omega
      rw [if_pos la] at fl1
      have G2 : mrF M M2 := mrF_tr (wF _ _ _ F1) F2
      refine sq_ (ast_c (ho _) (i32 _) ?_)
      show f_X7_letter [L 0, 115, 119, 98, 99, 102] _ _
      rw [l0]
      refine qm_letter1 (a := bl f T (e1 f T a)) ((w9 _ _ _ _).trans p2) ((w9 _ _ _ _).trans w2) (by omega) (by omega) ⟨by omega, ?_⟩
      exact qm_tail1 l0 l1 j0 j8 (a := bl f T (e1 f T a)) ((w9 _ _ _ _).trans ((w9 _ _ _ _).trans p2)) ((w9 _ _ _ _).trans ((w9 _ _ _ _).trans w2)) (by omega) (by omega) (fun L' a1 a2 a3 => h1 L' _ a1 a2 a3 (wF _ _ _ (wF _ _ _ G2)) ((w9 _ _ _ _).trans ((w9 _ _ _ _).trans w2)) (((w9 _ _ _ _).trans ((w9 _ _ _ _).trans p2)).trans fl1.symm) (by omega))
    · rw [lm_A hb.1] at c2 ⊢
      have la : ¬ lA (hd f T (e1 f T a)) < 0 := fun z => c2 (by rw [if_pos z]; decide)
      rw [if_neg la] at fl1 ⊢
      have G2 : mrF M M2 := mrF_tr (wF _ _ _ F1) F2
      have be2 := e2_b (f := f) aT la
      have b4 := bl_b (f := f) be2.2
      have hb2 := hd_b (a := e2 f T a) h.2.1 (by omega) be2.2
      refine sq_ (ast_c (ho _) (i32 _) ?_)
      show f_X7_letter [L 0, 115, 119, 98, 99, 102] _ _
      rw [l0]
      refine qm_letter0 (a := e2 f T a) (tXm_fr h (wF _ _ _ G2)) ((w9 _ _ _ _).trans p2) ((w9 _ _ _ _).trans w2) (by omega) be2.2 (fun M3 c3 F3 r3 p3 w3 => ⟨by omega, ?_⟩) (fun M3 c3 F3 r3 p3 w3 => ⟨by omega, ?_⟩)
      · rw [lm_B hb2.1] at c3 ⊢
        have lb : lB (hd f T (e2 f T a)) < 0 := by
          by_cases z : lB (hd f T (e2 f T a)) < 0
          · exact z
          · rw [if_neg z] at c3; omega
        rw [if_pos lb] at fl1
        have G3 : mrF M M3 := mrF_tr (wF _ _ _ G2) F3
        exact qm_tail1 l0 l1 j0 j8 (a := bl f T (e2 f T a)) ((w9 _ _ _ _).trans p3) ((w9 _ _ _ _).trans w3) (by omega) (by omega) (fun L' a1 a2 a3 => h1 L' _ a1 a2 a3 (wF _ _ _ G3) ((w9 _ _ _ _).trans w3) (((w9 _ _ _ _).trans p3).trans fl1.symm) (by omega))
      · rw [lm_B hb2.1] at c3 ⊢
        have lb : ¬ lB (hd f T (e2 f T a)) < 0 := fun z => c3 (by rw [if_pos z]; decide)
        rw [if_neg lb] at fl1 ⊢
        have G3 : mrF M M3 := mrF_tr (wF _ _ _ G2) F3
        have be3 := e3_b (f := f) aT la lb
        refine qm_tail0 (b := e3 f T a) (tXm_fr h (wF _ _ _ G3)) l0 l1 j0 j8 ((w9 _ _ _ _).trans p3) ((w9 _ _ _ _).trans w3) (by omega) be3.2 (fun L' M4 a1 a2 F4 r4 w4 hx => h2 L' M4 a1 a2 (mrF_tr (wF _ _ _ G3) F4) (fun y hy => ?_) fl1 ⟨?_, ?_, ?_⟩ w4 hx)
        · rw [r4, jw0 (by omega), r3, jw0 (by omega), r2, jw0 (by omega), r1]
        · rw [r4, jw0 (by omega), r3, jw0 (by omega), r2, jw1 ⟨rfl, rfl⟩]
        · rw [r4, jw0 (by omega), r3, jw1 ⟨rfl, rfl⟩]
        · rw [r4, jw1 ⟨rfl, rfl⟩]
  · have fl1 : flt f T a = bl f T a := if_neg nk
    refine sq_ (ast_c (ho _) (i31 _) ?_)
    show f_X7_letter [L 0, 117, 100, -1, -1, -1] _ _
    rw [l0]
    refine qm_letter1 (a := bl f T a) ((w9 _ _ _ _).trans p1) ((w9 _ _ _ _).trans w1) (by omega) (by omega) ⟨by omega, ?_⟩
    refine sq_ (ast_c (ho _) (i32 _) ?_)
    show f_X7_letter [L 0, 115, 119, 98, 99, 102] _ _
    rw [l0]
    refine qm_letter1 (a := bl f T a) ((w9 _ _ _ _).trans ((w9 _ _ _ _).trans p1)) ((w9 _ _ _ _).trans ((w9 _ _ _ _).trans w1)) (by omega) (by omega) ⟨by omega, ?_⟩
    exact qm_tail1 l0 l1 j0 j8 (a := bl f T a) ((w9 _ _ _ _).trans ((w9 _ _ _ _).trans ((w9 _ _ _ _).trans p1))) ((w9 _ _ _ _).trans ((w9 _ _ _ _).trans ((w9 _ _ _ _).trans w1))) (by omega) (by omega) (fun L' a1 a2 a3 => h1 L' _ a1 a2 a3 (wF _ _ _ (wF _ _ _ (wF _ _ _ F1))) ((w9 _ _ _ _).trans ((w9 _ _ _ _).trans ((w9 _ _ _ _).trans w1))) (((w9 _ _ _ _).trans ((w9 _ _ _ _).trans ((w9 _ _ _ _).trans p1))).trans fl1.symm) (by omega))
