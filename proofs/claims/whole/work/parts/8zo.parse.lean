/-! the program reads one of the people -/
def tX (f : Int → Int) (T : Int) : Prop := (0 ≤ T ∧ T ≤ 80) ∧ ∀ i, 0 ≤ i → i < T → 32 ≤ f i ∧ f i ≤ 126
def tXp (M : jMm) (f : Int → Int) (T : Int) : Prop := M 21 1 = T ∧ tX f T ∧ ∀ i, 0 ≤ i → i < T → M 22 i = f i
theorem tXp_fr {M M' : jMm} {f : Int → Int} {T : Int} (h : tXp M f T) (F : ∀ x y, (x ≠ 21 ∨ (y ≠ 3 ∧ y ≠ 4)) → x ≠ 24 → x ≠ 25 → x ≠ 26 → M' x y = M x y) : tXp M' f T :=
  ⟨(F _ _ (.inr (by decide)) (by decide) (by decide) (by decide)).trans h.1, h.2.1, fun i i0 i1 => (F _ _ (.inl (by decide)) (by decide) (by decide) (by decide)).trans (h.2.2 i i0 i1)⟩
theorem tprf : s_rf 21 0 = 22 ∧ s_rf 21 2 = 23 ∧ s_rf 23 0 = 24 ∧ s_rf 23 1 = 25 ∧ s_rf 23 2 = 26 ∧ s_len 22 = 80 ∧ s_len 23 = 3 ∧ s_len 24 = 8 ∧ s_len 25 = 8 ∧ s_len 26 = 8 := by decide +kernel
theorem hd_b {f : Int → Int} {T a : Int} (X : tX f T) (a0 : 0 ≤ a) (aT : a ≤ T) : 0 ≤ hd f T a ∧ hd f T a ≤ 126 := by
  unfold hd
  have b := bl_b (f := f) aT
  by_cases c : bl f T a < T
  · rw [if_pos c]; have := X.2 _ (by omega) c; omega
  · rw [if_neg c]; omega
theorem at_ {L : jLo} {M : jMm} {f : Int → Int} {T x : Int} (h : tXp M f T) (l0 : L 0 = 21) (x0 : 0 ≤ x) (x1 : x < T) (Q : Int → jMm → Prop) : xAl (xGr (xV 0) 0) (xGf (xV 0) 4) L (jwr M 21 4 x) Q = Q (f x) (jwr M 21 4 x) := by
  have hT := h.2.1.1
  have l := tprf.2.2.2.2.2.1
  refine al_ (k := 22) (x := x) (gr_ (k := 21) (fun Q => by simp only [xV, l0]) tprf.1) (gf_ (k := 21) (fun Q => by simp only [xV, l0]) (jw1 ⟨rfl, rfl⟩)) (by omega) ?_ Q
  rw [jw0 (.inl (by decide))]; exact h.2.2 x x0 x1
theorem q_next {f : Int → Int} {T a : Int} {M : jMm} {Q : Int → jMm → Prop} (h : tXp M f T) (ha : M 21 4 = a) (a0 : 0 ≤ a) (aT : a ≤ T) : f_X5_nextByte [21] M Q = Q (if bl f T a < T then f (bl f T a) else -1) (jwr M 21 4 (bl f T a)) := by
  refine dt_eq dt_f_X5_nextByte (fun Q hq => ?_) Q
  unfold f_X5_nextByte
  have hT := h.2.1.1
  have b := bl_b (f := f) aT
  refine mt_ (sq_ (sk_rule (o := 21) (T := T) (a := a) (c := blk f) rfl h.1 (by decide) ha a0 aT hT.2 (fun x x0 x1 T' F' => ?_) ?_))
  · exact (kr_pc (at_ h rfl x0 x1) (fun Q => rfl) T' F').trans (pc_i (by rw [blk_y]))
  · refine rt_ ?_
    rw [show skw (blk f) (T - a).toNat a = bl f T a from rfl]
    exact tern_r (P := bl f T a < T) (u := f (bl f T a)) (v := -1) (kr_pc (gf_ (k := 21) (fun Q => rfl) (jw1 ⟨rfl, rfl⟩)) (gf_ (k := 21) (fun Q => rfl) ((jw0 (.inr (by decide))).trans h.1))) (fun c => at_ h rfl (by omega) c) (fun _ Q => rfl) hq
theorem q_letter {f : Int → Int} {T a : Int} {M : jMm} {Q : Int → jMm → Prop} (h : tXp M f T) (ha : M 21 4 = a) (a0 : 0 ≤ a) (aT : a ≤ T) : f_X5_nextLetter [21] M Q = Q (hd f T a) (jwr M 21 4 (bl f T a)) := by
  unfold f_X5_nextLetter
  show f_X5_nextByte [21] M (fun v M1 => Q (max 0 v) M1) = _
  rw [q_next h ha a0 aT]
  have e : max 0 (if bl f T a < T then f (bl f T a) else -1) = hd f T a := by
    unfold hd
    have b := bl_b (f := f) aT
    by_cases c : bl f T a < T
    · rw [if_pos c, if_pos c]; have := h.2.1.2 _ (by omega) c; omega
    · rw [if_neg c, if_neg c]; decide
  rw [e]
theorem q_number {f : Int → Int} {T a : Int} {M : jMm} {Q : Int → jMm → Prop} (h : tXp M f T) (ha : M 21 4 = a) (a0 : 0 ≤ a) (aT : a ≤ T) : f_X5_parseNumber [21] M Q = Q (vl (dgt f) (stP f) (T - a).toNat a (-1)) (jwr M 21 4 (skw (dgt f) (T - a).toNat a)) := by
  refine dt_eq dt_f_X5_parseNumber (fun Q hq => ?_) Q
  unfold f_X5_parseNumber
  have hT := h.2.1.1
  refine mt_ (sq_ (st_v (v := -1) (fun Q => rfl) (sq_ ?_)))
  refine nm_rule (o := 21) (T := T) (a := a) (v0 := -1) (i := 1) (c := dgt f) (st := stP f) (P := fun v => -1 ≤ v ∧ v ≤ 100) (by decide) rfl rfl h.1 (by decide) ha a0 aT hT.2 (by decide) (fun L' x l0 x0 x1 T' F' => ?_) (fun L' x v l0 hv hP x0 x1 hc => ?_) (fun L' _ hv => rt_ ?_)
  · exact (kz_pc (bw (at_ h l0 x0 x1) (fun Q => rfl) (fun Q => rfl)) T' F').trans (pc_i (by rw [dgt_y]; exact bt_nz))
  · have d := dgt_y.mp hc
    refine ⟨by unfold stP; omega, fun Q => ?_⟩
    have m1 : ∀ Q : Int → jMm → Prop, xBin boMax (xC 0) (xV 1) L' (jwr M 21 4 x) Q = Q (max 0 v) (jwr M 21 4 x) := fun Q => by
      show Q (max 0 (L' 1)) _ = _
      rw [hv]
    have m2 := bs_ (bn_add (bn_mul m1 (fun Q => rfl : ∀ Q : Int → jMm → Prop, xC 10 L' (jwr M 21 4 x) Q = Q 10 (jwr M 21 4 x)) ⟨by omega, by omega⟩) (at_ h l0 x0 x1) ⟨by omega, by omega⟩) (fun Q => rfl : ∀ Q : Int → jMm → Prop, xC 48 L' (jwr M 21 4 x) Q = Q 48 (jwr M 21 4 x)) ⟨by omega, by omega⟩
    exact m2 (fun y M1 => Q (min 100 y) M1)
  · show Q (L' 1) _
    rw [hv]; exact hq
theorem q_person {f : Int → Int} {T a k : Int} {M : jMm} {Q : Int → jMm → Prop} (h : tXp M f T) (ha : M 21 4 = a) (a0 : 0 ≤ a) (aT : a ≤ T) (k0 : 0 ≤ k) (k8 : k < 8) (h1 : ∀ M', (∀ x y, (x ≠ 21 ∨ y ≠ 4) → M' x y = M x y) → 0 ≤ flt f T a → Q (-20 - flt f T a) M') (h2 : ∀ M', (∀ x y, (x ≠ 21 ∨ y ≠ 4) → ((x ≠ 24 ∧ x ≠ 25 ∧ x ≠ 26) ∨ y ≠ k) → M' x y = M x y) → flt f T a = -1 → M' 21 4 = e3 f T a → M' 24 k = nv f T a → M' 25 k = lA (hd f T (e1 f T a)) → M' 26 k = lB (hd f T (e2 f T a)) → Q 0 M') : f_X5_parsePerson [21, k] M Q := by
  unfold f_X5_parsePerson
  have hT := h.2.1.1
  have bb := bl_b (f := f) aT
  have be := e1_b (f := f) aT
  have fr : ∀ (M1 : jMm) (z : Int), (∀ x y, (x ≠ 21 ∨ y ≠ 4) → M1 x y = M x y) → ∀ x y, (x ≠ 21 ∨ y ≠ 4) → jwr M1 21 4 z x y = M x y := fun M1 z F x y c => by rw [jw0 c]; exact F x y c
  have tx : ∀ M1 : jMm, (∀ x y, (x ≠ 21 ∨ y ≠ 4) → M1 x y = M x y) → tXp M1 f T := fun M1 F => tXp_fr h (fun x y c _ _ _ => F x y (by omega))
  refine mt_ (sq_ (do1 ?_))
  show f_X5_nextByte [21] M _
  rw [q_next h ha a0 aT]
  have F1 := fr M (bl f T a) (fun _ _ _ => rfl)
  have X1 := tx _ F1
  have p1 : jwr M 21 4 (bl f T a) 21 4 = bl f T a := jw1 ⟨rfl, rfl⟩
  generalize jwr M 21 4 (bl f T a) = M1 at *
  refine sq_ (st_v (v := bl f T a) (gf_ (k := 21) (fun Q => rfl) p1) (sq_ ?_))
  show f_X5_parseNumber [21] M1 _
  rw [q_number X1 p1 (by omega) bb.2]
  have num : (bt 0 (vl (dgt f) (stP f) (T - bl f T a).toNat (bl f T a) (-1)) 99 = 0 ↔ ¬ nOK f T a) ∧ (nOK f T a → vl (dgt f) (stP f) (T - bl f T a).toNat (bl f T a) (-1) = nv f T a) := by
    by_cases c : 48 ≤ hd f T a ∧ hd f T a ≤ 57
    · have k := hd_lt (f := f) (T := T) (a := a) (by omega)
      have r := num_rel (f := f) (r := (T - bl f T a).toNat) (a := bl f T a) (dgt_y.mpr (by rw [← k.2]; exact c)) (by omega)
      rw [r.1]
      have e : vl (dgt f) (stM f) (T - bl f T a).toNat (bl f T a) 0 = nv f T a := rfl
      rw [e] at r ⊢
      refine ⟨⟨fun z n => ?_, fun n => Classical.byContradiction fun z => ?_⟩, fun n => ?_⟩
      · have := n.2
        exact absurd z (bt_nz.mpr (by omega))
      · have := bt_nz.mp z
        exact n ⟨c, by omega⟩
      · have := n.2
        omega
    · have nd : ¬ dgt f (bl f T a) = true ∨ bl f T a = T := by
        by_cases z : bl f T a < T
        · left
          intro z2
          apply c
          unfold hd
          rw [if_pos z]; exact dgt_y.mp z2
        · right; omega
      have v1 : vl (dgt f) (stP f) (T - bl f T a).toNat (bl f T a) (-1) = -1 := by
        rcases nd with z | z
        · exact vl_n z
        · rw [z, show (T - T).toNat = 0 by omega]; rfl
      rw [v1]
      exact ⟨⟨fun _ n => c n.1, fun _ => by decide⟩, fun n => absurd n.1 c⟩
  generalize vl (dgt f) (stP f) (T - bl f T a).toNat (bl f T a) (-1) = pv at *
  have F2 := fr M1 (e1 f T a) F1
  have X2 := tx _ F2
  have p2 : jwr M1 21 4 (e1 f T a) 21 4 = e1 f T a := jw1 ⟨rfl, rfl⟩
  have e1d : skw (dgt f) (T - bl f T a).toNat (bl f T a) = e1 f T a := rfl
  rw [e1d]
  generalize jwr M1 21 4 (e1 f T a) = M2 at *
  refine sq_ (if_pc (bt 0 pv 99 = 0) (nz_pc (bw (fun Q => rfl) (fun Q => rfl) (fun Q => rfl))) (fun c => rt_ ?_) (fun c => sk_ (sq_ (set_ix (x := 21) rfl ?_))))
  · have nk := num.1.mp c
    have e : flt f T a = bl f T a := if_neg nk
    rw [bs_ (x := -20) (y := bl f T a) (fun Q => rfl) (fun Q => rfl) ⟨by omega, by omega⟩]
    have := h1 M2 F2 (by omega)
    rw [e] at this
    exact this
  · have ok : nOK f T a := Classical.byContradiction fun z => c (num.1.mpr z)
    have ev := num.2 ok
    subst ev
    have b2 := bl_b (f := f) be.2
    have hb := hd_b (a := e1 f T a) X2.2.1 (by omega) be.2
    have fl1 : flt f T a = if lA (hd f T (e1 f T a)) < 0 then bl f T (e1 f T a) else if lB (hd f T (e2 f T a)) < 0 then bl f T (e2 f T a) else -1 := if_pos ok
    rw [q_letter X2 p2 (by omega) be.2, (u2 hb.1 hb.2).2]
    refine q_ud hb.1 hb.2 ?_
    have F3 := fr M2 (bl f T (e1 f T a)) F2
    have X3 := tx _ F3
    have p3 : jwr M2 21 4 (bl f T (e1 f T a)) 21 4 = bl f T (e1 f T a) := jw1 ⟨rfl, rfl⟩
    generalize jwr M2 21 4 (bl f T (e1 f T a)) = M3 at *
    refine sq_ (if_pc (lA (hd f T (e1 f T a)) < 0) (kz_pc (fun Q => rfl)) (fun c1 => rt_ ?_) (fun c1 => sk_ (sq_ ?_)))
    · rw [if_pos c1] at fl1
      rw [bs_ (x := -20) (y := bl f T (e1 f T a)) (fun Q => rfl) (gf_ (k := 21) (fun Q => rfl) p3) ⟨by omega, by omega⟩]
      have := h1 M3 F3 (by omega)
      rw [fl1] at this
      exact this
    · rw [if_neg c1] at fl1
      have be2 := e2_b (f := f) aT c1
      show ir (M3 21 4 + 1) ∧ _
      rw [p3]
      refine ⟨⟨by omega, by omega⟩, sq_ (set_ix (x := 21) rfl ?_)⟩
      have F4 := fr M3 (e2 f T a) F3
      have X4 := tx _ F4
      have p4 : jwr M3 21 4 (e2 f T a) 21 4 = e2 f T a := jw1 ⟨rfl, rfl⟩
      have e2d : bl f T (e1 f T a) + 1 = e2 f T a := rfl
      show f_X5_nextLetter [21] (jwr M3 21 4 (M3 21 4 + 1)) _
      rw [p3, e2d]
      generalize jwr M3 21 4 (e2 f T a) = M4 at *
      have b4 := bl_b (f := f) be2.2
      have hb2 := hd_b (a := e2 f T a) X4.2.1 (by omega) be2.2
      rw [q_letter X4 p4 (by omega) be2.2, (u2 hb2.1 hb2.2).2]
      refine q_swb hb2.1 hb2.2 ?_
      have F5 := fr M4 (bl f T (e2 f T a)) F4
      have p5 : jwr M4 21 4 (bl f T (e2 f T a)) 21 4 = bl f T (e2 f T a) := jw1 ⟨rfl, rfl⟩
      generalize jwr M4 21 4 (bl f T (e2 f T a)) = M5 at *
      refine sq_ (if_pc (lB (hd f T (e2 f T a)) < 0) (kz_pc (fun Q => rfl)) (fun c2 => rt_ ?_) (fun c2 => sk_ (sq_ ?_)))
      · rw [if_pos c2] at fl1
        rw [bs_ (x := -20) (y := bl f T (e2 f T a)) (fun Q => rfl) (gf_ (k := 21) (fun Q => rfl) p5) ⟨by omega, by omega⟩]
        have := h1 M5 F5 (by omega)
        rw [fl1] at this
        exact this
      · rw [if_neg c2] at fl1
        have be3 := e3_b (f := f) aT c1 c2
        show ir (M5 21 4 + 1) ∧ _
        rw [p5]
        refine ⟨⟨by omega, by omega⟩, ?_⟩
        have F6 := fr M5 (e3 f T a) F5
        have p6 : jwr M5 21 4 (e3 f T a) 21 4 = e3 f T a := jw1 ⟨rfl, rfl⟩
        have e3d : bl f T (e2 f T a) + 1 = e3 f T a := rfl
        show tSeq _ _ _ (jwr M5 21 4 (M5 21 4 + 1)) _ _
        rw [p5, e3d]
        generalize jwr M5 21 4 (e3 f T a) = M6 at *
        obtain ⟨t1, t2, t3, t4, t5, t6, t7, t8, t9, t10⟩ := tprf
        refine sq_ (ast_ (k := 24) (x := k) (v := nv f T a) (ar_ (k := 23) (x := 0) (gr_ (k := 21) (fun Q => rfl) t2) (fun Q => rfl) (by omega) t3) (fun Q => rfl) (fun Q => rfl) (by omega) ?_)
        refine sq_ (ast_ (k := 25) (x := k) (v := lA (hd f T (e1 f T a))) (ar_ (k := 23) (x := 1) (gr_ (k := 21) (fun Q => rfl) t2) (fun Q => rfl) (by omega) t4) (fun Q => rfl) (fun Q => rfl) (by omega) ?_)
        refine sq_ (ast_ (k := 26) (x := k) (v := lB (hd f T (e2 f T a))) (ar_ (k := 23) (x := 2) (gr_ (k := 21) (fun Q => rfl) t2) (fun Q => rfl) (by omega) t5) (fun Q => rfl) (fun Q => rfl) (by omega) (rt_ ?_))
        refine h2 _ (fun x y c c' => by rw [jw0 (by omega), jw0 (by omega), jw0 (by omega)]; exact F6 x y c) fl1 (by rw [jw0 (by omega), jw0 (by omega), jw0 (by omega)]; exact p6) ?_ ?_ ?_
        · rw [jw0 (by omega), jw0 (by omega), jw1 ⟨rfl, rfl⟩]
        · rw [jw0 (by omega), jw1 ⟨rfl, rfl⟩]
        · rw [jw1 ⟨rfl, rfl⟩]
