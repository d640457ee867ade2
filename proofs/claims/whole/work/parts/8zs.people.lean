/-! pairs: people -/
def addPs (t f k : Nat → Int) : Nat → jMm → jMm
  | 0, P => P
  | m + 1, P => addP (t m) (f m) (k m) (addPs t f k m P)
def addXs (t f k : Nat → Int) : Nat → jMm → jMm
  | 0, P => P
  | m + 1, P => addX (t m) (f m) (k m) (addXs t f k m P)
theorem addPs_lo {t f k : Nat → Int} {P : jMm} {a b : Int} (h1 : a ≠ 117) (h2 : a ≠ 114 ∨ b ≠ 5) : ∀ m : Nat, addPs t f k m P a b = P a b
  | 0 => rfl
  | m + 1 => (addP_lo h1 h2).trans (addPs_lo h1 h2 m)
theorem addPs_n {t f k : Nat → Int} {P : jMm} : ∀ m : Nat, addPs t f k m P 114 5 = P 114 5 + m
  | 0 => by show P 114 5 = P 114 5 + 0; omega
  | m + 1 => by
    show addP (t m) (f m) (k m) (addPs t f k m P) 114 5 = _
    rw [addP_n, addPs_n m]; omega
theorem addXs_lo {t f k : Nat → Int} {M : jMm} {a b : Int} (h1 : a ≠ 7) (h2 : a ≠ 8) (h3 : a ≠ 9) (h4 : a ≠ 1 ∨ b ≠ 4) : ∀ m : Nat, addXs t f k m M a b = M a b
  | 0 => rfl
  | m + 1 => (addX_lo h1 h2 h3 h4).trans (addXs_lo h1 h2 h3 h4 m)
theorem addXs_n {t f k : Nat → Int} {M : jMm} : ∀ m : Nat, addXs t f k m M 1 4 = M 1 4 + m
  | 0 => by show M 1 4 = M 1 4 + 0; omega
  | m + 1 => by
    have e : addX (t m) (f m) (k m) (addXs t f k m M) 1 4 = addXs t f k m M 1 4 + 1 := by unfold addX; rw [jw1 ⟨rfl, rfl⟩]
    show addX (t m) (f m) (k m) (addXs t f k m M) 1 4 = _
    rw [e, addXs_n m]; omega
theorem iPl_adds {t f k : Nat → Int} {P : jMm} (h : iPl P) : ∀ m : Nat, P 114 5 + m ≤ 14 → (∀ i : Nat, i < m → (0 ≤ t i ∧ t i ≤ 99) ∧ (0 ≤ f i ∧ f i ≤ 1) ∧ (0 ≤ k i ∧ k i ≤ 4)) → iPl (addPs t f k m P)
  | 0, _, _ => h
  | m + 1, hn, hr => by
    obtain ⟨a, b, c⟩ := hr m (by omega)
    exact iPl_add (iPl_adds h m (by omega) (fun i hi => hr i (by omega))) (by rw [addPs_n]; omega) a b c
theorem rel_adds {t f k : Nat → Int} {M P : jMm} (h : pRel M P) : ∀ m : Nat, pRel (addXs t f k m M) (addPs t f k m P)
  | 0 => h
  | m + 1 => rel_add (rel_adds h m)
def mF (M M' : jMm) : Prop := ∀ x y, x ≠ 119 → (x ≠ 114 ∨ (y ≠ 8 ∧ y ≠ 9 ∧ y ≠ 10)) → M' x y = M x y
theorem mF_of {M M' : jMm} (h : mrF M M') : mF M M' := fun x y a b => h x y a (by omega)
theorem mF_wr {M M' : jMm} {j v : Int} (h : mF M M') (hj : j = 8 ∨ j = 9 ∨ j = 10) : mF M (jwr M' 114 j v) := fun x y a b => by rw [jw0 (by omega)]; exact h x y a b
theorem rd_r {f : Int → Int} {T : Int} {j : Nat} (T0 : 0 ≤ T) (S : stopAt f T j) (hf : flt f T (pos f T j) < 0) (i : Nat) (hi : i < j + 1) : (0 ≤ rdA f T i ∧ rdA f T i ≤ 99) ∧ (0 ≤ rdB f T i ∧ rdB f T i ≤ 1) ∧ (0 ≤ rdC f T i ∧ rdC f T i ≤ 4) := by
  have b := pos_b (f := f) T0 i (fun q hq => S.1 q (by omega))
  have h : flt f T (pos f T i) < 0 := by
    by_cases e : i = j
    · rw [e]; exact hf
    · exact (S.1 i (by omega)).1
  rcases flt_ok (f := f) b.1 b.2 with ⟨h1, h2, h3, h4⟩ | h1
  · have n := nv_b h2
    have a := lA_b (hd f T (e1 f T (pos f T i)))
    have c := lB_b (hd f T (e2 f T (pos f T i)))
    unfold rdA rdB rdC
    omega
  · omega
/-- what the model's loop leaves -/
def mSt (f : Int → Int) (T : Int) (s : Nat) (M : jMm) : Prop := stopAt f T s ∧ s < 8 ∧ ((M 114 10 = 1 ∧ M 114 9 = flt f T (pos f T s) ∧ 0 ≤ flt f T (pos f T s)) ∨ (M 114 10 = 0 ∧ flt f T (pos f T s) < 0 ∧ (0 ≤ M 114 9 ∧ M 114 9 ≤ T ∧ bl f T (M 114 9) = bl f T (e3 f T (pos f T s))) ∧ ∀ i : Nat, i ≤ s → M 119 (3 * i) = rdA f T i ∧ M 119 (3 * i + 1) = rdB f T i ∧ M 119 (3 * i + 2) = rdC f T i))
theorem qm_comes {n : Nat} {t f k : Nat → Int} {L : jLo} {M : jMm} {N : jLo → jMm → Prop} {R : Int → jMm → Prop} (l0 : L 0 = 114) (l1 : L 1 = n) (l3 : L 3 = 0) (n8 : n ≤ 8) (n0 : 0 ≤ M 114 5) (n14 : M 114 5 + n ≤ 14) (rows : ∀ i : Nat, i < n → M 119 (3 * i) = t i ∧ M 119 (3 * i + 1) = f i ∧ M 119 (3 * i + 2) = k i) (hN : ∀ L' : jLo, L' 0 = 114 → L' 1 = (n : Int) → N L' (addPs t f k n M)) : (tWh (kR (fun x y => x < y) (xV 3) (xBin boMul (xC 3) (xV 1))) (tSeq (tDo f_X7_comes (xsC (xV 0) (xsC (xAl (xGr (xV 0) 11) (xV 3)) (xsC (xAl (xGr (xV 0) 11) (xBin boAdd (xV 3) (xC 1))) (xsC (xAl (xGr (xV 0) 11) (xBin boAdd (xV 3) (xC 2))) (xsN)))))) (tInc 3 3))) L M N R := by
  have l119 : s_len 119 = 24 := mln119
  refine wh_rule (fun q L' M' => L' 0 = 114 ∧ L' 1 = n ∧ ∃ i : Nat, L' 3 = 3 * i ∧ i ≤ n ∧ M' = addPs t f k i M ∧ q = n - i) ?_ (k := n) ⟨l0, l1, 0, by omega, by omega, rfl, by omega⟩
  rintro q L' M' ⟨l0, l1, i, l3, hi, hM, hq⟩ N' hN'
  have r0 : ∀ Q : Int → jMm → Prop, xGr (xV 0) 11 L' M' Q = Q 119 M' := gr_ (k := 114) (fun Q => by simp only [xV, l0]) mrf11
  have v3 : ∀ Q : Int → jMm → Prop, xV 3 L' M' Q = Q (3 * (i : Int)) M' := fun Q => by simp only [xV, l3]
  have e119 : ∀ y, M' 119 y = M 119 y := fun y => by rw [hM]; exact addPs_lo (by decide) (.inl (by decide)) i
  have e5 : M' 114 5 = M 114 5 + i := by rw [hM]; exact addPs_n i
  rw [kr_pc (u := 3 * (i : Int)) (v := 3 * (n : Int)) v3 (bn_mul (fun Q => rfl) (fun Q => by simp only [xV, l1]) ⟨by omega, by omega⟩)]
  refine ⟨fun c => ?_, fun c => ?_⟩
  · have c : 3 * (i : Int) < 3 * (n : Int) := c
    obtain ⟨a1, a2, a3⟩ := rows i (by omega)
    refine sq_ (do4e (x0 := 114) (x1 := t i) (x2 := f i) (x3 := k i) (fun Q => by simp only [xV, l0]) (al_ r0 v3 (by omega) (by rw [e119]; exact a1)) (al_ r0 (bn_add v3 (fun Q => rfl) ⟨by omega, by omega⟩) (by omega) (by rw [e119]; exact a2)) (al_ r0 (bn_add v3 (fun Q => rfl) ⟨by omega, by omega⟩) (by omega) (by rw [e119]; exact a3)) ?_)
    rw [q_comes (by omega) (by omega)]
    refine ⟨⟨by omega, by omega⟩, hN' (n - (i + 1)) _ _ (by omega) ⟨l0, l1, i + 1, ?_, by omega, by rw [hM]; rfl, rfl⟩⟩
    show L' 3 + 3 = 3 * ((i + 1 : Nat) : Int)
    rw [l3]; omega
  · have c : ¬ 3 * (i : Int) < 3 * (n : Int) := c
    have : i = n := by omega
    subst this
    rw [hM]
    exact hN L' l0 l1
theorem qm_people {f : Int → Int} {T : Int} {M : jMm} {Q : Int → jMm → Prop} (h : tXm M f T) (n0 : 0 ≤ M 114 5) (n14 : M 114 5 ≤ 14) (h1 : ∀ (j : Nat) (M' : jMm), stopAt f T j → j < 8 → out f T (pos f T j) ≠ 0 → mF M M' → M' 114 8 = 0 → Q (out f T (pos f T j)) M') (h2 : ∀ (j : Nat) (M' : jMm), stopAt f T j → j < 8 → out f T (pos f T j) = 0 → M 114 5 + (j + 1) > 14 → mF M M' → M' 114 8 = 0 → Q (-3) M') (h3 : ∀ (j : Nat) (M' : jMm), stopAt f T j → j < 8 → out f T (pos f T j) = 0 → flt f T (pos f T j) < 0 → M 114 5 + (j + 1) ≤ 14 → mF M M' → M' 114 8 = 0 → Q (j + 1) (addPs (rdA f T) (rdB f T) (rdC f T) (j + 1) M')) : f_X7_people [114] M Q := by
  unfold f_X7_people
  have hT := h.2.1.1
  refine mt_ (sq_ (pu (k := 114) (v := 0) (fun Q => rfl) (fun Q => rfl) (sq_ (puz (k := 114) (v := 0) (fun Q => rfl) (fun Q => rfl) (.inl rfl) (sq_ (st_c (sq_ (st_c ?_))))))))
  refine sq_cut (fun L M1 => L 0 = 114 ∧ mrF M M1 ∧ ∃ s : Nat, L 1 = (s : Int) + 1 ∧ mSt f T s M1) (fun N1 hN1 => ?_) ?_
  · refine wh_rule (fun q L M1 => L 0 = 114 ∧ mrF M M1 ∧ ((L 2 = 1 ∧ ∃ j : Nat, L 1 = j ∧ j < 8 ∧ (∀ i : Nat, i < j → good1 f T (pos f T i) i) ∧ M1 114 9 = pos f T j ∧ M1 114 10 = 0 ∧ (∀ i : Nat, i < j → M1 119 (3 * i) = rdA f T i ∧ M1 119 (3 * i + 1) = rdB f T i ∧ M1 119 (3 * i + 2) = rdC f T i) ∧ q = 9 - j) ∨ (L 2 = 0 ∧ q = 0 ∧ ∃ s : Nat, L 1 = (s : Int) + 1 ∧ mSt f T s M1))) ?_ (k := 9) ⟨rfl, mrF_tr (mrF_wr (by omega)) (mrF_wr (by omega)), .inl ⟨rfl, 0, rfl, by decide, fun i hi => by omega, by rw [jw0 (by omega), jw1 ⟨rfl, rfl⟩]; rfl, by rw [jw1 ⟨rfl, rfl⟩], fun i hi => by omega, rfl⟩⟩
    rintro q L M1 ⟨l0, F, hd⟩ N' hN'
    rcases hd with ⟨l2, j, l1, j8, g, p9, p10, rows, hq⟩ | ⟨l2, hq, s, l1, st⟩
    · rw [kz_pc (u := 1) (fun Q => by simp only [xV, l2])]
      refine ⟨fun _ => ?_, fun z => absurd (by decide) z⟩
      have pb := pos_b (f := f) hT.1 j g
      refine qm_body (tXm_fr h F) p9 p10 pb.1 pb.2 l0 l1 (by omega) (by omega) (fun L' M2 a1 a2 a3 F2 w9 w10 hf => ?_) (fun L' M2 a1 a2 F2 lo hf r w10 hx => ?_)
      · exact hN' 0 L' M2 (by omega) ⟨a1, mrF_tr F F2, .inr ⟨a3, rfl, j, a2, ⟨g, fun z => by have := z.1; omega⟩, j8, .inl ⟨w9, w10, hf⟩⟩⟩
      · have rows2 : ∀ i : Nat, i ≤ j → M2 119 (3 * i) = rdA f T i ∧ M2 119 (3 * i + 1) = rdB f T i ∧ M2 119 (3 * i + 2) = rdC f T i := fun i hij => by
          by_cases e : i = j
          · subst e; exact r
          · rw [lo _ (by omega), lo _ (by omega), lo _ (by omega)]; exact rows i (by omega)
        rcases hx with ⟨b1, b2, b3, b4⟩ | ⟨b1, b2, b3⟩
        · refine hN' (9 - (j + 1)) L' M2 (by omega) ⟨a1, mrF_tr F F2, .inl ⟨b1, j + 1, by rw [a2]; omega, by omega, fun i hij => ?_, b4, w10, fun i hij => rows2 i (by omega), rfl⟩⟩
          by_cases e : i = j
          · subst e; exact ⟨by omega, b2, b3⟩
          · exact g i (by omega)
        · exact hN' 0 L' M2 (by omega) ⟨a1, mrF_tr F F2, .inr ⟨b1, rfl, j, a2, ⟨g, fun z => b2 z.2⟩, j8, .inr ⟨w10, by omega, b3, rows2⟩⟩⟩
    · rw [kz_pc (u := 0) (fun Q => by simp only [xV, l2])]
      exact ⟨fun z => absurd rfl z, fun _ => hN1 L M1 ⟨l0, F, s, l1, st⟩⟩
  · rintro L M1 ⟨l0, F, s, l1, S, s8, st⟩
    have pb := pos_b (f := f) hT.1 s S.1
    have o0 : ∀ (M3 : jMm) (Q : Int → jMm → Prop), xV 0 L M3 Q = Q 114 M3 := fun M3 Q => by simp only [xV, l0]
    have X1 := tXm_fr h F
    rcases st with ⟨w10, w9, hf⟩ | ⟨w10, hf, ⟨a0, aT, ab⟩, rows⟩
    · have eo : out f T (pos f T s) = -20 - flt f T (pos f T s) := if_pos hf
      have fb : flt f T (pos f T s) ≤ 80 := by
        unfold flt at hf ⊢
        have b0 := bl_b (f := f) pb.2
        have b1 := e1_b (f := f) pb.2
        have b2 := bl_b (f := f) b1.2
        by_cases c : nOK f T (pos f T s)
        · rw [if_pos c] at hf ⊢
          by_cases c1 : lA (hd f T (e1 f T (pos f T s))) < 0
          · rw [if_pos c1]; omega
          · rw [if_neg c1] at hf ⊢
            have b3 := e2_b pb.2 c1
            have b4 := bl_b (f := f) b3.2
            by_cases c2 : lB (hd f T (e2 f T (pos f T s))) < 0
            · rw [if_pos c2]; omega
            · rw [if_neg c2] at hf; omega
        · rw [if_neg c]; omega
      refine sq_ (puz (k := 114) (v := 1) (o0 _) (fun Q => ?_) (.inr rfl) ?_)
      · show ((M1 (L 0) 10 ≠ 0 → Q 1 M1) ∧ (¬ M1 (L 0) 10 ≠ 0 → _)) = Q 1 M1
        rw [l0, w10]
        exact selT (by decide)
      · rw [jwS w10]
        refine sq_ (pu (k := 114) (v := 0) (o0 _) (fun Q => rfl) ?_)
        have w10' : jwr M1 114 8 0 114 10 = 1 := by rw [jw0 (.inr (by decide))]; exact w10
        have w9' : jwr M1 114 8 0 114 9 = flt f T (pos f T s) := by rw [jw0 (.inr (by decide))]; exact w9
        have F' : mF M (jwr M1 114 8 0) := mF_wr (mF_of F) (by omega)
        have w8' : jwr M1 114 8 0 114 8 = 0 := jw1 ⟨rfl, rfl⟩
        generalize jwr M1 114 8 0 = M2 at *
        refine sq_ (if_pc ((1 : Int) ≠ 0) (kz_pc (gf_ (k := 114) (o0 _) w10')) (fun _ => rt_ ?_) (fun z => absurd (by decide) z))
        rw [bs_ (x := -20) (y := flt f T (pos f T s)) (fun Q => rfl) (gf_ (k := 114) (o0 _) w9') ⟨by omega, by omega⟩]
        have k := h1 s M2 S s8 (by rw [eo]; omega) F' w8'
        rw [eo] at k
        exact k
    · have fe := flt_e3 pb.1 pb.2 hf
      have be := bl_b (f := f) fe.2.2.2
      have eo : out f T (pos f T s) = if hd f T (e3 f T (pos f T s)) = 0 then 0 else -20 - bl f T (e3 f T (pos f T s)) := if_neg (by omega)
      have hh : hd f T (M1 114 9) = hd f T (e3 f T (pos f T s)) := by unfold hd; rw [ab]
      refine sq_ ?_
      show (M1 (L 0) 10 ≠ 0 → _) ∧ (¬ M1 (L 0) 10 ≠ 0 → f_X7_here [L 0] M1 (fun v M2 => (v ≠ 0 → (((1 : Int) = 0 ∨ (1 : Int) = 1) ∧ tSeq _ _ L (jwr M2 (L 0) 10 1) (fun _ _ => False) Q)) ∧ (¬ v ≠ 0 → (((0 : Int) = 0 ∨ (0 : Int) = 1) ∧ tSeq _ _ L (jwr M2 (L 0) 10 0) (fun _ _ => False) Q))))
      rw [l0, w10]
      refine ⟨fun z => absurd rfl z, fun _ => ?_⟩
      rw [qm_here X1 rfl a0 aT, hh, ab]
      have F2 : mrF M (jwr M1 114 9 (bl f T (e3 f T (pos f T s)))) := mrF_tr F (mrF_wr (by omega))
      have r2 : ∀ y, jwr M1 114 9 (bl f T (e3 f T (pos f T s))) 119 y = M1 119 y := fun y => jw0 (.inl (by decide))
      have p2 : jwr M1 114 9 (bl f T (e3 f T (pos f T s))) 114 9 = bl f T (e3 f T (pos f T s)) := jw1 ⟨rfl, rfl⟩
      generalize jwr M1 114 9 (bl f T (e3 f T (pos f T s))) = M2 at *
      refine ⟨fun c => ⟨.inr rfl, ?_⟩, fun c => ⟨.inl rfl, ?_⟩⟩
      · rw [if_neg c] at eo
        refine sq_ (pu (k := 114) (v := 0) (o0 _) (fun Q => rfl) ?_)
        have w10' : jwr (jwr M2 114 10 1) 114 8 0 114 10 = 1 := by rw [jw0 (by omega), jw1 ⟨rfl, rfl⟩]
        have w9' : jwr (jwr M2 114 10 1) 114 8 0 114 9 = bl f T (e3 f T (pos f T s)) := by rw [jw0 (by omega), jw0 (by omega)]; exact p2
        have F' : mF M (jwr (jwr M2 114 10 1) 114 8 0) := mF_wr (mF_wr (mF_of F2) (by omega)) (by omega)
        have w8' : jwr (jwr M2 114 10 1) 114 8 0 114 8 = 0 := jw1 ⟨rfl, rfl⟩
        generalize jwr (jwr M2 114 10 1) 114 8 0 = M3 at *
        refine sq_ (if_pc ((1 : Int) ≠ 0) (kz_pc (gf_ (k := 114) (o0 _) w10')) (fun _ => rt_ ?_) (fun z => absurd (by decide) z))
        rw [bs_ (x := -20) (y := bl f T (e3 f T (pos f T s))) (fun Q => rfl) (gf_ (k := 114) (o0 _) w9') ⟨by omega, by omega⟩]
        have k := h1 s M3 S s8 (by rw [eo]; omega) F' w8'
        rw [eo] at k
        exact k
      · have c0 : hd f T (e3 f T (pos f T s)) = 0 := Classical.not_not.mp c
        rw [if_pos c0] at eo
        refine sq_ (pu (k := 114) (v := 0) (o0 _) (fun Q => rfl) ?_)
        have w10' : jwr (jwr M2 114 10 0) 114 8 0 114 10 = 0 := by rw [jw0 (by omega), jw1 ⟨rfl, rfl⟩]
        have F' : mF M (jwr (jwr M2 114 10 0) 114 8 0) := mF_wr (mF_wr (mF_of F2) (by omega)) (by omega)
        have w8' : jwr (jwr M2 114 10 0) 114 8 0 114 8 = 0 := jw1 ⟨rfl, rfl⟩
        have r' : ∀ y, jwr (jwr M2 114 10 0) 114 8 0 119 y = M1 119 y := fun y => by rw [jw0 (by omega), jw0 (by omega)]; exact r2 y
        generalize jwr (jwr M2 114 10 0) 114 8 0 = M3 at *
        have e5 : M3 114 5 = M 114 5 := F' _ _ (by decide) (.inr (by decide))
        have v1 : ∀ Q : Int → jMm → Prop, xV 1 L M3 Q = Q ((s : Int) + 1) M3 := fun Q => by simp only [xV, l1]
        refine sq_ (if_pc ((0 : Int) ≠ 0) (kz_pc (gf_ (k := 114) (o0 _) w10')) (fun z => absurd rfl z) (fun _ => sk_ (sq_ ?_)))
        refine if_pc (M 114 5 + ((s : Int) + 1) > 14) (kr_pc (bn_add (gf_ (k := 114) (o0 _) e5) v1 ⟨by omega, by omega⟩) (fun Q => rfl)) (fun z => rt_ (h2 s M3 S s8 eo (by omega) F' w8')) (fun z => sk_ (sq_ (sq_ (st_c ?_))))
        refine qm_comes (n := s + 1) (t := rdA f T) (f := rdB f T) (k := rdC f T) l0 (by show L 1 = _; rw [l1]; omega) rfl (by omega) (by omega) (by omega) (fun i hi => by rw [r', r', r']; exact rows i (by omega)) (fun L' b0 b1 => rt_ ?_)
        show Q (L' 1) _
        rw [b1, show ((s + 1 : Nat) : Int) = (s : Int) + 1 by omega]
        exact h3 s M3 S s8 eo hf (by omega) F' w8'
theorem q_people {f : Int → Int} {T : Int} {M : jMm} {Q : Int → jMm → Prop} (h : tXp M f T) (n0 : 0 ≤ M 1 4) (n14 : M 1 4 ≤ 14) (h1 : ∀ (j : Nat) (M' : jMm), stopAt f T j → j < 8 → out f T (pos f T j) ≠ 0 → (∀ x y, ((x ≠ 21 ∨ (y ≠ 1 ∧ y ≠ 3 ∧ y ≠ 4)) ∧ (x < 24 ∨ 26 < x)) → M' x y = M x y) → M' 21 1 = 0 → Q (out f T (pos f T j)) M') (h2 : ∀ (j : Nat) (M' : jMm), stopAt f T j → j < 8 → out f T (pos f T j) = 0 → M 1 4 + (j + 1) > 14 → (∀ x y, ((x ≠ 21 ∨ (y ≠ 1 ∧ y ≠ 3 ∧ y ≠ 4)) ∧ (x < 24 ∨ 26 < x)) → M' x y = M x y) → M' 21 1 = 0 → Q (-3) M') (h3 : ∀ (j : Nat) (M' : jMm), stopAt f T j → j < 8 → out f T (pos f T j) = 0 → M 1 4 + (j + 1) ≤ 14 → (∀ x y, ((x ≠ 21 ∨ (y ≠ 1 ∧ y ≠ 3 ∧ y ≠ 4)) ∧ (x < 24 ∨ 26 < x)) → M' x y = M x y) → M' 21 1 = 0 → Q (j + 1) (jwr (jwr (addXs (rdA f T) (rdB f T) (rdC f T) (j + 1) M') 0 8 0) 0 9 0)) : f_X6_people [0] M Q := by
  unfold f_X6_people
  have hT := h.2.1.1
  refine mt_ (sq_ ?_)
  show f_X5_parse [s_rf 0 3] M _
  rw [rf_0_3]
  refine q_parse h (fun j M1 S j8 F r => ?_)
  have pb := pos_b (f := f) hT.1 j S.1
  have x3 : ∀ (M2 : jMm) (v : Int) (Q : Int → jMm → Prop), xGr (xV 0) 3 (jup (jIn [0] [0]) 1 v) M2 Q = Q 21 M2 := fun M2 v => gr_ (k := 0) (fun Q => rfl) rf_0_3
  refine sq_ (pu (k := 21) (v := 0) (x3 _ _) (fun Q => rfl) ?_)
  generalize hM2 : jwr M1 21 1 0 = M2
  have m2 : ∀ x y, (x ≠ 21 ∨ y ≠ 1) → M2 x y = M1 x y := fun x y c => by rw [← hM2, jw0 c]
  have t2 : M2 21 1 = 0 := by rw [← hM2, jw1 ⟨rfl, rfl⟩]
  clear hM2
  have F2 : ∀ x y, ((x ≠ 21 ∨ (y ≠ 1 ∧ y ≠ 3 ∧ y ≠ 4)) ∧ (x < 24 ∨ 26 < x)) → M2 x y = M x y := fun x y c => by rw [m2 _ _ (by omega)]; exact F x y (by omega) (by omega) (by omega) (by omega)
  refine sq_ (if_pc (out f T (pos f T j) < 0) (kz_pc (fun Q => rfl)) (fun c => rt_ (h1 j M2 S j8 (by omega) F2 t2)) (fun c => sk_ (sq_ ?_)))
  have o0 : out f T (pos f T j) = 0 := by
    unfold out at c ⊢
    by_cases c1 : 0 ≤ flt f T (pos f T j)
    · rw [if_pos c1] at c; omega
    · have fe := flt_e3 pb.1 pb.2 (show flt f T (pos f T j) < 0 by omega)
      have be := bl_b (f := f) fe.2.2.2
      rw [if_neg c1] at c ⊢
      by_cases c2 : hd f T (e3 f T (pos f T j)) = 0
      · rw [if_pos c2]
      · rw [if_neg c2] at c; omega
  obtain ⟨f3, -, rows⟩ := r o0
  have f3' : M2 21 3 = (j : Int) + 1 := by rw [m2 _ _ (.inr (by decide))]; exact f3
  have e4 : M2 1 4 = M 1 4 := F2 _ _ (by omega)
  refine if_pc ((j : Int) + 1 > 14 - M 1 4) (kr_pc (gf_ (k := 21) (x3 _ _) f3') (bs_ (fun Q => rfl) (gf_ (k := 1) (gr_ (k := 0) (fun Q => rfl) rf_0_0) e4) ⟨by omega, by omega⟩)) (fun z => rt_ (h2 j M2 S j8 o0 (by omega) F2 t2)) (fun z => sk_ ?_)
  refine sq_cut (fun L M3 => L 0 = 0 ∧ M3 = addXs (rdA f T) (rdB f T) (rdC f T) (j + 1) M2) (fun N1 hN1 => ?_) ?_
  · obtain ⟨q1, q2, q3, q4, q5, q6, q7, q8, q9, q10⟩ := tprf
    refine sq_ (st_c ?_)
    refine up0 (j + 1) (fun i L M3 => L 0 = 0 ∧ M3 = addXs (rdA f T) (rdB f T) (rdC f T) i M2) rfl (by omega) ⟨rfl, rfl⟩ ?_ ?_ ?_
    · rintro i L M3 Q1 ⟨l0, hM⟩ hQ
      rw [gf_ (k := 21) (v := (j : Int) + 1) (gr_ (k := 0) (fun Q => by simp only [xV, l0]) rf_0_3) (by rw [hM, addXs_lo (by decide) (by decide) (by decide) (.inl (by decide))]; exact f3')]
      have : ((j + 1 : Nat) : Int) = (j : Int) + 1 := by omega
      rw [this] at hQ; exact hQ
    · rintro i L M3 N2 hi li ⟨l0, hM⟩ hN
      have y3 : ∀ Q : Int → jMm → Prop, xGr (xGr (xV 0) 3) 2 L M3 Q = Q 23 M3 := gr_ (k := 21) (gr_ (k := 0) (fun Q => by simp only [xV, l0]) rf_0_3) q2
      have vi : ∀ Q : Int → jMm → Prop, xV 2 L M3 Q = Q (i : Int) M3 := fun Q => by simp only [xV, li]
      have lo : ∀ x y, 20 < x → M3 x y = M1 x y ∨ x = 21 := fun x y hx => by
        by_cases c : x = 21
        · exact .inr c
        · left; rw [hM, addXs_lo (by omega) (by omega) (by omega) (.inl (by omega)), m2 _ _ (.inl c)]
      obtain ⟨a1, a2, a3⟩ := rows i (by omega)
      have n4 : M3 1 4 = M 1 4 + i := by rw [hM, addXs_n, e4]
      refine do4e (x0 := 1) (x1 := rdA f T i) (x2 := rdB f T i) (x3 := rdC f T i) (gr_ (k := 0) (fun Q => by simp only [xV, l0]) rf_0_0) (al_ (k := 24) (ar_ (k := 23) (x := 0) y3 (fun Q => rfl) (by omega) q3) vi (by omega) (((lo 24 i (by decide)).resolve_right (by decide)).trans a1)) (al_ (k := 25) (ar_ (k := 23) (x := 1) y3 (fun Q => rfl) (by omega) q4) vi (by omega) (((lo 25 i (by decide)).resolve_right (by decide)).trans a2)) (al_ (k := 26) (ar_ (k := 23) (x := 2) y3 (fun Q => rfl) (by omega) q5) vi (by omega) (((lo 26 i (by decide)).resolve_right (by decide)).trans a3)) ?_
      rw [q_add (by omega) (by omega)]
      exact hN L _ li ⟨l0, by rw [hM]; rfl⟩
    · rintro L M3 - ⟨l0, hM⟩
      exact hN1 L M3 ⟨l0, hM⟩
  · rintro L M3 ⟨l0, hM⟩
    refine sq_ (do1 ?_)
    rw [l0, q_X6_tellAnew]
    refine rt_ ?_
    rw [gf_ (k := 21) (v := (j : Int) + 1) (gr_ (k := 0) (fun Q => by simp only [xV, l0]) rf_0_3) (by rw [jw0 (by omega), jw0 (by omega), hM, addXs_lo (by decide) (by decide) (by decide) (.inl (by decide))]; exact f3'), hM]
    exact h3 j M2 S j8 o0 (by omega) F2 t2
theorem y_people : yPair Inv f_X6_people f_X7_people [] := by
  intro M Q I hq
  obtain ⟨⟨pl, rl⟩, -⟩ := id I
  obtain ⟨t0, t1, t2, t3⟩ := I.2.2.1
  have n0 := pl.1.1.2.2.1
  have n14 := pl.1.1.2.2.2
  have r2 := rl.2.1
  have tx : tX (M 118) (M 114 8) := ⟨⟨t0, t1⟩, fun i i0 i1 => ⟨(t3 i i0 i1).2.1, (t3 i i0 i1).2.2⟩⟩
  have Xp : tXp M (M 118) (M 114 8) := ⟨t2, tx, fun i i0 i1 => (t3 i i0 i1).1⟩
  have bad : ∀ M1 M2 : jMm, (∀ x y, ((x ≠ 21 ∨ (y ≠ 1 ∧ y ≠ 3 ∧ y ≠ 4)) ∧ (x < 24 ∨ 26 < x)) → M1 x y = M x y) → M1 21 1 = 0 → mF M1 M2 → M2 114 8 = 0 → Inv M2 := fun M1 M2 F1 z1 F2 z2 => by
    refine Inv_tp I (fun a b h h1 h2 h3 h4 => ?_) ⟨by omega, by omega, by rw [F2 _ _ (by decide) (.inl (by decide)), z1, z2], fun i i0 i1 => by omega⟩
    rw [F2 a b (by unfold scr at h; omega) (by unfold scr at h; omega), F1 a b (by unfold scr at h; omega)]
  have Xm : ∀ M1 : jMm, (∀ x y, ((x ≠ 21 ∨ (y ≠ 1 ∧ y ≠ 3 ∧ y ≠ 4)) ∧ (x < 24 ∨ 26 < x)) → M1 x y = M x y) → tXm M1 (M 118) (M 114 8) := fun M1 F1 => ⟨F1 _ _ (by omega), tx, fun i _ _ => F1 _ _ (by omega)⟩
  generalize hf : M 118 = f at *
  generalize hT : M 114 8 = T at *
  refine q_people Xp (by omega) (by omega) (fun j M1 S j8 o F1 z1 => ?_) (fun j M1 S j8 o hn F1 z1 => ?_) (fun j M1 S j8 o hn F1 z1 => ?_)
  · have e5 : M1 114 5 = M 114 5 := F1 _ _ (by omega)
    refine qm_people (Xm M1 F1) (by omega) (by omega) (fun j' M2 S' j8' o' F2 z2 => ?_) (fun j' M2 S' j8' o' hn F2 z2 => ?_) (fun j' M2 S' j8' o' hf' hn F2 z2 => ?_)
    · rw [stop_u S' S]; exact hq _ _ (bad M1 M2 F1 z1 F2 z2)
    · rw [stop_u S' S] at o'; exact absurd o' o
    · rw [stop_u S' S] at o'; exact absurd o' o
  · have e5 : M1 114 5 = M 114 5 := F1 _ _ (by omega)
    refine qm_people (Xm M1 F1) (by omega) (by omega) (fun j' M2 S' j8' o' F2 z2 => ?_) (fun j' M2 S' j8' o' hn' F2 z2 => ?_) (fun j' M2 S' j8' o' hf' hn' F2 z2 => ?_)
    · rw [stop_u S' S] at o'; exact absurd o o'
    · exact hq _ _ (bad M1 M2 F1 z1 F2 z2)
    · rw [stop_u S' S] at hn'; omega
  · generalize hM2 : jwr (jwr (addXs (rdA f T) (rdB f T) (rdC f T) (j + 1) M1) 0 8 0) 0 9 0 = M2
    have m2 : ∀ a b, a ≠ 0 → M2 a b = addXs (rdA f T) (rdB f T) (rdC f T) (j + 1) M1 a b := fun a b c => by rw [← hM2, jw0 (by omega), jw0 (by omega)]
    have e08 : M2 0 8 = 0 := by rw [← hM2, jw0 (by omega), jw1 ⟨rfl, rfl⟩]
    have e09 : M2 0 9 = 0 := by rw [← hM2, jw1 ⟨rfl, rfl⟩]
    have e02 : M2 0 2 = M 0 2 := by rw [← hM2, jw0 (by omega), jw0 (by omega), addXs_lo (by decide) (by decide) (by decide) (.inl (by decide)), F1 _ _ (by omega)]
    clear hM2
    have G1 : ∀ a b, 10 < a → M2 a b = M1 a b := fun a b c => by rw [m2 _ _ (by omega), addXs_lo (by omega) (by omega) (by omega) (.inl (by omega))]
    have G : ∀ x y, 10 < x → ((x ≠ 21 ∨ (y ≠ 1 ∧ y ≠ 3 ∧ y ≠ 4)) ∧ (x < 24 ∨ 26 < x)) → M2 x y = M x y := fun x y c d => by rw [G1 x y c, F1 x y d]
    have z2 : M2 21 1 = 0 := by rw [G1 _ _ (by decide)]; exact z1
    have Xm2 : tXm M2 f T := ⟨by rw [G _ _ (by decide) (by omega)]; exact hT, tx, fun i _ _ => by rw [G _ _ (by decide) (by omega), hf]⟩
    have e5 : M2 114 5 = M 114 5 := G _ _ (by decide) (by omega)
    refine qm_people Xm2 (by omega) (by omega) (fun j' M3 S' j8' o' F3 z3 => ?_) (fun j' M3 S' j8' o' hn' F3 z3 => ?_) (fun j' M3 S' j8' o' hf' hn' F3 z3 => ?_)
    · rw [stop_u S' S] at o'; exact absurd o o'
    · rw [stop_u S' S] at hn'; omega
    · have ej := stop_u S' S
      subst ej
      have rg := rd_r tx.1.1 S hf'
      have e114 : ∀ b, (b = 1 ∨ b = 3 ∨ b = 4 ∨ b = 5) → M3 114 b = M 114 b := fun b hb => by rw [F3 _ _ (by decide) (by omega), G _ _ (by decide) (by omega)]
      have es : ∀ b, M3 115 b = M 115 b ∧ M3 116 b = M 116 b ∧ M3 117 b = M 117 b := fun b => ⟨by rw [F3 _ _ (by decide) (.inl (by decide)), G _ _ (by decide) (by omega)], by rw [F3 _ _ (by decide) (.inl (by decide)), G _ _ (by decide) (by omega)], by rw [F3 _ _ (by decide) (.inl (by decide)), G _ _ (by decide) (by omega)]⟩
      have e35 := e114 5 (by decide)
      have pl3 : iPl M3 := iPl_eq pl e114 es
      have rl3 : pRel M1 M3 := pRel_eq rl (fun a b ha _ => F1 a b (by omega)) e114 es
      have pln := iPl_adds (t := rdA f T) (f := rdB f T) (k := rdC f T) pl3 (j' + 1) (by rw [e35]; omega) rg
      have rln := rel_adds (t := rdA f T) (f := rdB f T) (k := rdC f T) rl3 (j' + 1)
      generalize hM4 : addPs (rdA f T) (rdB f T) (rdC f T) (j' + 1) M3 = M4 at *
      have m4 : ∀ a b, a ≠ 117 → (a ≠ 114 ∨ b ≠ 5) → M4 a b = M3 a b := fun a b c d => by rw [← hM4]; exact addPs_lo c d _
      clear hM4
      have lo4 : ∀ a b, a ≤ 10 → M4 a b = M2 a b := fun a b c => by rw [m4 _ _ (by omega) (.inl (by omega)), F3 _ _ (by omega) (.inl (by omega))]
      have rl4 : pRel M4 M4 := pRel_eq rln (fun a b ha h0 => by rw [lo4 _ _ ha, m2 _ _ h0]) (fun _ _ => rfl) (fun _ => ⟨rfl, rfl, rfl⟩)
      -- as if the tape had been emptied ahead
      obtain ⟨Mt, hMt⟩ : ∃ Mt : jMm, Mt = fun a b => if a ≤ 10 ∨ a = 117 ∨ (a = 114 ∧ b = 5) then M a b else M4 a b := ⟨_, rfl⟩
      have tl : ∀ a b, (a ≤ 10 ∨ a = 117 ∨ (a = 114 ∧ b = 5)) → Mt a b = M a b := fun a b c => by rw [hMt]; exact if_pos c
      have th : ∀ a b, ¬ (a ≤ 10 ∨ a = 117 ∨ (a = 114 ∧ b = 5)) → Mt a b = M4 a b := fun a b c => by rw [hMt]; exact if_neg c
      clear hMt
      have It : Inv Mt := by
        refine Inv_tp I (fun a b h h1 h2 h3 h4 => ?_) ⟨?_, ?_, ?_, fun i i0 i1 => ?_⟩
        · by_cases c : a ≤ 10 ∨ a = 117 ∨ (a = 114 ∧ b = 5)
          · exact tl a b c
          · rw [th a b c, m4 a b (by omega) (by omega), F3 a b (by unfold scr at h; omega) (by unfold scr at h; omega), G a b (by omega) (by unfold scr at h; omega)]
        · rw [th _ _ (by omega), m4 _ _ (by decide) (.inr (by decide)), z3]; decide
        · rw [th _ _ (by omega), m4 _ _ (by decide) (.inr (by decide)), z3]; decide
        · rw [th _ _ (by omega), th _ _ (by omega), m4 _ _ (by decide) (.inr (by decide)), m4 _ _ (by decide) (.inr (by decide)), z3, F3 _ _ (by decide) (.inl (by decide)), z2]
        · rw [th _ _ (by omega), m4 _ _ (by decide) (.inr (by decide)), z3] at i1; omega
      refine hq _ _ (Inv_anew It pln rl4 (by rw [lo4 _ _ (by decide)]; exact e08) (by rw [lo4 _ _ (by decide)]; exact e09) (by rw [lo4 _ _ (by decide), e02, tl _ _ (.inl (by decide))]) (fun a b h => (th a b (by omega)).symm))
