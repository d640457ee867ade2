/-! texts: how far one goes; the program's whole reading -/
def good1 (f : Int → Int) (T a k : Int) : Prop := flt f T a < 0 ∧ hd f T (e3 f T a) = 59 ∧ k + 1 < 8
def pos (f : Int → Int) (T : Int) : Nat → Int
  | 0 => 0
  | k + 1 => bl f T (e3 f T (pos f T k)) + 1
def out (f : Int → Int) (T a : Int) : Int := if 0 ≤ flt f T a then -20 - flt f T a else if hd f T (e3 f T a) = 0 then 0 else -20 - bl f T (e3 f T a)
theorem flt_e3 {f : Int → Int} {T a : Int} (a0 : 0 ≤ a) (aT : a ≤ T) (h : flt f T a < 0) : flt f T a = -1 ∧ nOK f T a ∧ 0 < e3 f T a ∧ e3 f T a ≤ T := by
  rcases flt_ok (f := f) a0 aT with ⟨h1, h2, h3, h4⟩ | h1
  · have b := bl_b (f := f) aT
    have b1 := e1_b (f := f) aT
    have b2 := e2_b aT h3
    have b3 := e3_b aT h3 h4
    exact ⟨h1, h2, by omega, b3.2⟩
  · omega
theorem pos_b {f : Int → Int} {T : Int} (T0 : 0 ≤ T) : ∀ j : Nat, (∀ i : Nat, i < j → good1 f T (pos f T i) i) → 0 ≤ pos f T j ∧ pos f T j ≤ T
  | 0, _ => ⟨Int.le_refl _, T0⟩
  | j + 1, h => by
    have b := pos_b T0 j (fun i hi => h i (by omega))
    have g := h j (by omega)
    have e := flt_e3 b.1 b.2 g.1
    have l := hd_lt (f := f) (T := T) (a := e3 f T (pos f T j)) (by rw [g.2.1]; decide)
    have k := bl_b (f := f) e.2.2.2
    show 0 ≤ bl f T (e3 f T (pos f T j)) + 1 ∧ bl f T (e3 f T (pos f T j)) + 1 ≤ T
    omega
def rdA (f : Int → Int) (T : Int) (i : Nat) : Int := nv f T (pos f T i)
def rdB (f : Int → Int) (T : Int) (i : Nat) : Int := lA (hd f T (e1 f T (pos f T i)))
def rdC (f : Int → Int) (T : Int) (i : Nat) : Int := lB (hd f T (e2 f T (pos f T i)))
def stopAt (f : Int → Int) (T : Int) (j : Nat) : Prop := (∀ i : Nat, i < j → good1 f T (pos f T i) i) ∧ ¬ good1 f T (pos f T j) j
theorem stop_u {f : Int → Int} {T : Int} {j k : Nat} (h : stopAt f T j) (h' : stopAt f T k) : j = k := by
  rcases Nat.lt_trichotomy j k with c | c | c
  · exact absurd (h'.1 j c) h.2
  · exact c
  · exact absurd (h.1 k c) h'.2
theorem set1 {f : jMd} {i : Nat} {x v : Int} {L : jLo} {M M' : jMm} {N : jLo → jMm → Prop} {R : Int → jMm → Prop} (l0 : L 0 = x) (h : ∀ Q : Int → jMm → Prop, f [x] M Q = Q v M') (k : N (jup L i v) M') : tSet i (xCall f (xsC (xV 0) xsN)) L M N R := by
  show f [L 0] M _
  rw [l0, h]; exact k
theorem q_parse {f : Int → Int} {T : Int} {M : jMm} {Q : Int → jMm → Prop} (h : tXp M f T) (hq : ∀ (j : Nat) (M' : jMm), stopAt f T j → j < 8 → (∀ x y, (x ≠ 21 ∨ (y ≠ 3 ∧ y ≠ 4)) → x ≠ 24 → x ≠ 25 → x ≠ 26 → M' x y = M x y) → (out f T (pos f T j) = 0 → M' 21 3 = j + 1 ∧ flt f T (pos f T j) < 0 ∧ ∀ i : Nat, i ≤ j → M' 24 i = rdA f T i ∧ M' 25 i = rdB f T i ∧ M' 26 i = rdC f T i) → Q (out f T (pos f T j)) M') : f_X5_parse [21] M Q := by
  unfold f_X5_parse
  have hT := h.2.1.1
  refine mt_ (sq_ (pu (k := 21) (v := 0) (fun Q => rfl) (fun Q => rfl) (sq_ (pu (k := 21) (v := 0) (fun Q => rfl) (fun Q => rfl) (sq_ (sq_ (st_c ?_)))))))
  refine up0 8 (fun j L M1 => L 0 = 21 ∧ (∀ x y, (x ≠ 21 ∨ (y ≠ 3 ∧ y ≠ 4)) → x ≠ 24 → x ≠ 25 → x ≠ 26 → M1 x y = M x y) ∧ (∀ i : Nat, i < j → good1 f T (pos f T i) i) ∧ M1 21 4 = pos f T j ∧ ∀ i : Nat, i < j → M1 24 i = rdA f T i ∧ M1 25 i = rdB f T i ∧ M1 26 i = rdC f T i) rfl (by decide) ⟨rfl, fun x y c _ _ _ => by rw [jw0 (by omega), jw0 (by omega)], fun i hi => by omega, by rw [jw0 (by omega), jw1 ⟨rfl, rfl⟩]; rfl, fun i hi => by omega⟩ (fun _ _ _ _ _ h => h) ?_ ?_
  · rintro j L M1 N1 hj hi ⟨l0, F, g, hp, hr⟩ hN
    have pb := pos_b (f := f) hT.1 j g
    have X1 := tXp_fr h F
    refine sq_ ?_
    show f_X5_parsePerson [L 0, L 1] M1 _
    rw [l0, hi]
    refine q_person X1 hp pb.1 pb.2 (by omega) (by omega) (fun M2 F2 hf => ?_) (fun M2 F2 hf p2 r1 r2 r3 => ?_)
    · have eo : out f T (pos f T j) = -20 - flt f T (pos f T j) := if_pos hf
      refine sq_ (if_pc (-20 - flt f T (pos f T j) < 0) (kz_pc (fun Q => rfl)) (fun _ => rt_ ?_) (fun z => absurd (by omega) z))
      have k := hq j M2 ⟨g, fun z => by have := z.1; omega⟩ hj (fun x y a b c d => by rw [F2 _ _ (by omega)]; exact F x y a b c d) (fun z => by rw [eo] at z; omega)
      rw [eo] at k
      exact k
    · have fe := flt_e3 pb.1 pb.2 (show flt f T (pos f T j) < 0 by omega)
      have eo : out f T (pos f T j) = if hd f T (e3 f T (pos f T j)) = 0 then 0 else -20 - bl f T (e3 f T (pos f T j)) := if_neg (by omega)
      refine sq_ (if_pc ((0 : Int) < 0) (kz_pc (fun Q => rfl)) (fun z => absurd z (by decide)) (fun _ => sk_ (sq_ ?_)))
      refine pu (k := 21) (v := (j : Int) + 1) (fun Q => by show Q (L 0) M2 = _; rw [l0]) (bn_add (x := j) (y := 1) (fun Q => by show Q (L 1) M2 = _; rw [hi]) (fun Q => rfl) ⟨by omega, by omega⟩) ?_
      generalize hM3 : jwr M2 21 3 ((j : Int) + 1) = M3
      have m3 : ∀ x y, (x ≠ 21 ∨ y ≠ 3) → M3 x y = M2 x y := fun x y c => by rw [← hM3, jw0 c]
      have n3 : M3 21 3 = (j : Int) + 1 := by rw [← hM3, jw1 ⟨rfl, rfl⟩]
      clear hM3
      have F3 : ∀ x y, (x ≠ 21 ∨ (y ≠ 3 ∧ y ≠ 4)) → x ≠ 24 → x ≠ 25 → x ≠ 26 → M3 x y = M x y := fun x y a b c d => by rw [m3 _ _ (by omega), F2 _ _ (by omega) (by omega)]; exact F x y a b c d
      have p3 : M3 21 4 = e3 f T (pos f T j) := by rw [m3 _ _ (.inr (by decide))]; exact p2
      have bb := bl_b (f := f) fe.2.2.2
      have rows : ∀ i : Nat, i ≤ j → M3 24 i = rdA f T i ∧ M3 25 i = rdB f T i ∧ M3 26 i = rdC f T i := fun i hij => by
        rw [m3 _ _ (.inl (by decide)), m3 _ _ (.inl (by decide)), m3 _ _ (.inl (by decide))]
        by_cases e : i = j
        · subst e; exact ⟨r1, r2, r3⟩
        · rw [F2 _ _ (.inl (by decide)) (.inr (by omega)), F2 _ _ (.inl (by decide)) (.inr (by omega)), F2 _ _ (.inl (by decide)) (.inr (by omega))]
          exact hr i (by omega)
      refine sq_ (set1 (x := 21) (by show L 0 = 21; exact l0) (fun Q => q_next (tXp_fr h F3) p3 (by omega) fe.2.2.2) ?_)
      have F4 : ∀ x y, (x ≠ 21 ∨ (y ≠ 3 ∧ y ≠ 4)) → x ≠ 24 → x ≠ 25 → x ≠ 26 → jwr M3 21 4 (bl f T (e3 f T (pos f T j))) x y = M x y := fun x y a b c d => by rw [jw0 (by omega)]; exact F3 x y a b c d
      have p4 : jwr M3 21 4 (bl f T (e3 f T (pos f T j))) 21 4 = bl f T (e3 f T (pos f T j)) := jw1 ⟨rfl, rfl⟩
      have n4 : jwr M3 21 4 (bl f T (e3 f T (pos f T j))) 21 3 = (j : Int) + 1 := by rw [jw0 (.inr (by decide))]; exact n3
      have rows4 : ∀ i : Nat, i ≤ j → jwr M3 21 4 (bl f T (e3 f T (pos f T j))) 24 i = rdA f T i ∧ jwr M3 21 4 (bl f T (e3 f T (pos f T j))) 25 i = rdB f T i ∧ jwr M3 21 4 (bl f T (e3 f T (pos f T j))) 26 i = rdC f T i := fun i hij => by
        rw [jw0 (.inl (by decide)), jw0 (.inl (by decide)), jw0 (.inl (by decide))]; exact rows i hij
      generalize jwr M3 21 4 (bl f T (e3 f T (pos f T j))) = M4 at *
      have nx : (if bl f T (e3 f T (pos f T j)) < T then f (bl f T (e3 f T (pos f T j))) else -1) = (if hd f T (e3 f T (pos f T j)) = 0 then -1 else hd f T (e3 f T (pos f T j))) ∧ 0 ≤ hd f T (e3 f T (pos f T j)) := by
        unfold hd
        by_cases c : bl f T (e3 f T (pos f T j)) < T
        · have := h.2.1.2 _ (by omega) c
          rw [if_pos c, if_pos c, if_neg (by omega)]; exact ⟨rfl, by omega⟩
        · rw [if_neg c, if_neg c, if_pos rfl]; exact ⟨rfl, by decide⟩
      rw [nx.1]
      have nx0 := nx.2
      clear nx
      refine sq_ (if_pc ((if hd f T (e3 f T (pos f T j)) = 0 then -1 else hd f T (e3 f T (pos f T j))) < 0) (kz_pc (fun Q => rfl)) (fun z => rt_ ?_) (fun z => sk_ (sq_ ?_)))
      · have z0 : hd f T (e3 f T (pos f T j)) = 0 := by
          by_cases c : hd f T (e3 f T (pos f T j)) = 0
          · exact c
          · rw [if_neg c] at z; omega
        rw [if_pos z0] at eo
        have k := hq j M4 ⟨g, fun z => by have := z.2.1; omega⟩ hj F4 (fun _ => ⟨n4, by omega, rows4⟩)
        rw [eo] at k
        exact k
      · have z0 : ¬ hd f T (e3 f T (pos f T j)) = 0 := fun c => z (by rw [if_pos c]; decide)
        rw [if_neg z0] at eo ⊢
        refine if_pc (hd f T (e3 f T (pos f T j)) ≠ 59 ∨ (j : Int) + 1 = 8) (or_pc (kr_pc (fun Q => rfl) (fun Q => rfl)) (fun _ => kr_pc (gf_ (k := 21) (fun Q => by show Q (L 0) M4 = _; rw [l0]) n4) (fun Q => rfl))) (fun c => rt_ ?_) (fun c => sk_ ?_)
        · rw [bs_ (x := -20) (y := bl f T (e3 f T (pos f T j))) (fun Q => rfl) (gf_ (k := 21) (fun Q => by show Q (L 0) M4 = _; rw [l0]) p4) ⟨by omega, by omega⟩]
          have k := hq j M4 ⟨g, fun z => by have := z.2; omega⟩ hj F4 (fun z => by rw [eo] at z; omega)
          rw [eo] at k
          exact k
        · show ir (M4 (L 0) 4 + 1) ∧ N1 _ (jwr M4 (L 0) 4 (M4 (L 0) 4 + 1))
          rw [l0, p4]
          refine ⟨⟨by omega, by omega⟩, hN _ _ hi ⟨l0, fun x y a b c d => by rw [jw0 (by omega)]; exact F4 x y a b c d, fun i hij => ?_, jw1 ⟨rfl, rfl⟩, fun i hij => ?_⟩⟩
          · by_cases e : i = j
            · subst e
              exact ⟨by omega, by omega, by omega⟩
            · exact g i (by omega)
          · rw [jw0 (.inl (by decide)), jw0 (.inl (by decide)), jw0 (.inl (by decide))]; exact rows4 i (by omega)
  · rintro L M1 - ⟨l0, F, g, -⟩
    have := (g 7 (by decide)).2.2
    exact absurd this (by decide)
