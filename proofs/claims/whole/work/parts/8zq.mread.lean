/-! the model reads -/
def tXm (M : jMm) (f : Int → Int) (T : Int) : Prop := M 114 8 = T ∧ tX f T ∧ ∀ i, 0 ≤ i → i < T → M 118 i = f i
def mrF (M M' : jMm) : Prop := ∀ x y, x ≠ 119 → (x ≠ 114 ∨ (y ≠ 9 ∧ y ≠ 10)) → M' x y = M x y
theorem mrF_tr {M M' M'' : jMm} (h : mrF M M') (h' : mrF M' M'') : mrF M M'' := fun x y a b => (h' x y a b).trans (h x y a b)
theorem mrF_wr {M : jMm} {k j v : Int} (h : k = 119 ∨ (k = 114 ∧ (j = 9 ∨ j = 10))) : mrF M (jwr M k j v) := fun x y a b => by rw [jw0 (by omega)]
theorem tXm_fr {M M' : jMm} {f : Int → Int} {T : Int} (h : tXm M f T) (F : mrF M M') : tXm M' f T := ⟨(F _ _ (by decide) (.inr (by decide))).trans h.1, h.2.1, fun i i0 i1 => (F _ _ (by decide) (.inl (by decide))).trans (h.2.2 i i0 i1)⟩
theorem atm_ {L : jLo} {M : jMm} {f : Int → Int} {T x : Int} (h : tXm M f T) (l0 : L 0 = 114) (x0 : 0 ≤ x) (x1 : x < T) (Q : Int → jMm → Prop) : xAl (xGr (xV 0) 7) (xGf (xV 0) 9) L (jwr M 114 9 x) Q = Q (f x) (jwr M 114 9 x) := by
  have hT := h.2.1.1
  have l : s_len 118 = 80 := mln118
  refine al_ (k := 118) (x := x) (gr_ (k := 114) (fun Q => by simp only [xV, l0]) mrf7) (gf_ (k := 114) (fun Q => by simp only [xV, l0]) (jw1 ⟨rfl, rfl⟩)) (by omega) ?_ Q
  rw [jw0 (.inl (by decide))]; exact h.2.2 x x0 x1
theorem qm_here {f : Int → Int} {T a : Int} {M : jMm} {Q : Int → jMm → Prop} (h : tXm M f T) (ha : M 114 9 = a) (a0 : 0 ≤ a) (aT : a ≤ T) : f_X7_here [114] M Q = Q (hd f T a) (jwr M 114 9 (bl f T a)) := by
  refine dt_eq dt_f_X7_here (fun Q hq => ?_) Q
  unfold f_X7_here
  have hT := h.2.1.1
  have b := bl_b (f := f) aT
  refine mt_ (sq_ (sk_rule (o := 114) (T := T) (a := a) (c := blk f) rfl h.1 (by decide) ha a0 aT hT.2 (fun x x0 x1 T' F' => ?_) ?_))
  · exact (kr_pc (atm_ h rfl x0 x1) (fun Q => rfl) T' F').trans (pc_i (by rw [blk_y]))
  · refine rt_ ?_
    rw [show skw (blk f) (T - a).toNat a = bl f T a from rfl]
    exact tern_r (P := bl f T a < T) (u := f (bl f T a)) (v := 0) (kr_pc (gf_ (k := 114) (fun Q => rfl) (jw1 ⟨rfl, rfl⟩)) (gf_ (k := 114) (fun Q => rfl) ((jw0 (.inr (by decide))).trans h.1))) (fun c => atm_ h rfl (by omega) c) (fun _ Q => rfl) hq
theorem puz {o e : jEx} {j k v : Int} {L : jLo} {M : jMm} {N : jLo → jMm → Prop} {R : Int → jMm → Prop} (ho : ∀ Q : Int → jMm → Prop, o L M Q = Q k M) (he : ∀ Q : Int → jMm → Prop, e L M Q = Q v M) (hv : v = 0 ∨ v = 1) (h : N L (jwr M k j v)) : tPutZ o j e L M N R := by
  show o L M (fun k M => e L M fun v M => (v = 0 ∨ v = 1) ∧ N L (jwr M k j v))
  rw [ho, he]; exact ⟨hv, h⟩
theorem ast_c {o i e : jEx} {k x : Int} {L : jLo} {M : jMm} {N : jLo → jMm → Prop} {R : Int → jMm → Prop} (ho : ∀ Q : Int → jMm → Prop, o L M Q = Q k M) (hi : ∀ Q : Int → jMm → Prop, i L M Q = Q x M) (h : e L M (fun v M1 => (0 ≤ x ∧ x < s_len k) ∧ N L (jwr M1 k x v))) : tAst o i e L M N R := by
  show o L M (fun k M => i L M fun x M => e L M fun v M => (0 ≤ x ∧ x < s_len k) ∧ N L (jwr M k x v))
  rw [ho, hi]; exact h
theorem qm_number {f : Int → Int} {T a : Int} {M : jMm} {Q : Int → jMm → Prop} (h : tXm M f T) (ha : M 114 9 = a) (hw : M 114 10 = 0) (a0 : 0 ≤ a) (aT : a ≤ T) (h1 : ∀ M', nOK f T a → mrF M M' → (∀ y, M' 119 y = M 119 y) → M' 114 9 = e1 f T a → M' 114 10 = 0 → Q (nv f T a) M') (h2 : ∀ v M', ¬ nOK f T a → mrF M M' → (∀ y, M' 119 y = M 119 y) → M' 114 9 = bl f T a → M' 114 10 = 1 → Q v M') : f_X7_number [114, 99] M Q := by
  unfold f_X7_number
  have hT := h.2.1.1
  have bb := bl_b (f := f) aT
  have be := e1_b (f := f) aT
  refine mt_ (sq_ ⟨fun z => absurd hw z, fun _ => ?_⟩)
  show f_X7_here [114] M _
  rw [qm_here h ha a0 aT]
  show f_X7_in [hd f T a, 48, 57] _ _
  rw [q_X7_in]
  have F1 : mrF M (jwr M 114 9 (bl f T a)) := mrF_wr (by omega)
  have r1 : ∀ y, jwr M 114 9 (bl f T a) 119 y = M 119 y := fun y => jw0 (.inl (by decide))
  have p1 : jwr M 114 9 (bl f T a) 114 9 = bl f T a := jw1 ⟨rfl, rfl⟩
  have w1 : jwr M 114 9 (bl f T a) 114 10 = 0 := by rw [jw0 (.inr (by decide))]; exact hw
  generalize jwr M 114 9 (bl f T a) = M1 at *
  have X1 := tXm_fr h F1
  refine ⟨fun z => ?_, fun z => ?_⟩
  · have dg := bt_nz.mp z
    have k := hd_lt (f := f) (T := T) (a := a) (by omega)
    refine sk_ (sq_ (st_v (v := bl f T a) (gf_ (k := 114) (fun Q => rfl) p1) (sq_ (st_c (sq_ ?_)))))
    refine nm_rule (o := 114) (T := T) (a := bl f T a) (v0 := 0) (i := 3) (c := dgt f) (st := stM f) (P := fun v => 0 ≤ v ∧ v ≤ 9999) (by decide) rfl rfl X1.1 (by decide) p1 (by omega) bb.2 hT.2 (by decide) (fun L' x l0 x0 x1 T' F' => ?_) (fun L' x v l0 hv hP x0 x1 hc => ?_) (fun L' hL hv => ?_)
    · exact (kz_pc (bm (atm_ X1 l0 x0 x1) (fun Q => rfl) (fun Q => rfl)) T' F').trans (pc_i (by rw [dgt_y]; exact bt_nz))
    · have d := dgt_y.mp hc
      refine ⟨by unfold stM; split <;> omega, fun Q => ?_⟩
      exact tern_ (P := v > 999) (u := v) (v := 10 * v + f x - 48) (kr_pc (fun Q => by simp only [xV, hv]) (fun Q => rfl)) (fun _ Q => by simp only [xV, hv]) (fun c => bs_ (bn_add (bn_mul (fun Q => rfl) (fun Q => by simp only [xV, hv]) ⟨by omega, by omega⟩) (atm_ X1 l0 x0 x1) ⟨by omega, by omega⟩) (fun Q => rfl) ⟨by omega, by omega⟩) Q
    · have l0 : L' 0 = 114 := hL 0 (by decide)
      have l1 : L' 1 = 99 := hL 1 (by decide)
      have l2 : L' 2 = bl f T a := hL 2 (by decide)
      have l3 : L' 3 = nv f T a := hv
      have e1d : skw (dgt f) (T - bl f T a).toNat (bl f T a) = e1 f T a := rfl
      rw [e1d]
      have F2 : mrF M (jwr M1 114 9 (e1 f T a)) := mrF_tr F1 (mrF_wr (by omega))
      have r2 : ∀ y, jwr M1 114 9 (e1 f T a) 119 y = M 119 y := fun y => by rw [jw0 (.inl (by decide))]; exact r1 y
      have p2 : jwr M1 114 9 (e1 f T a) 114 9 = e1 f T a := jw1 ⟨rfl, rfl⟩
      generalize jwr M1 114 9 (e1 f T a) = M2 at *
      have o0 : ∀ (M3 : jMm) (Q : Int → jMm → Prop), xV 0 L' M3 Q = Q 114 M3 := fun M3 Q => by simp only [xV, l0]
      refine sq_ (puz (k := 114) (v := if nv f T a > 99 then 1 else 0) (o0 _) (tern_ (P := nv f T a > 99) (u := 1) (v := 0) (kr_pc (fun Q => by simp only [xV, l3]) (fun Q => by simp only [xV, l1])) (fun _ Q => rfl) (fun _ Q => rfl)) (by split <;> simp) ?_)
      have F3 : mrF M (jwr M2 114 10 (if nv f T a > 99 then 1 else 0)) := mrF_tr F2 (mrF_wr (by omega))
      have r3 : ∀ y, jwr M2 114 10 (if nv f T a > 99 then 1 else 0) 119 y = M 119 y := fun y => by rw [jw0 (.inl (by decide))]; exact r2 y
      have p3 : jwr M2 114 10 (if nv f T a > 99 then 1 else 0) 114 9 = e1 f T a := by rw [jw0 (.inr (by decide))]; exact p2
      have w3 : jwr M2 114 10 (if nv f T a > 99 then 1 else 0) 114 10 = if nv f T a > 99 then 1 else 0 := jw1 ⟨rfl, rfl⟩
      generalize jwr M2 114 10 (if nv f T a > 99 then 1 else 0) = M3 at *
      refine sq_ (pu (k := 114) (v := if (if nv f T a > 99 then (1 : Int) else 0) ≠ 0 then bl f T a else e1 f T a) (o0 _) (tern_ (P := (if nv f T a > 99 then (1 : Int) else 0) ≠ 0) (kz_pc (gf_ (k := 114) (o0 _) w3)) (fun _ Q => by simp only [xV, l2]) (fun _ => gf_ (k := 114) (o0 _) p3)) (rt_ ?_))
      show Q (L' 3) _
      rw [l3]
      by_cases c : nv f T a > 99
      · rw [if_pos c] at w3
        rw [if_pos c, if_pos (by decide)]
        exact h2 _ _ (fun n => by have := n.2; omega) (mrF_tr F3 (mrF_wr (by omega))) (fun y => by rw [jw0 (.inl (by decide))]; exact r3 y) (jw1 ⟨rfl, rfl⟩) (by rw [jw0 (.inr (by decide))]; exact w3)
      · rw [if_neg c] at w3
        rw [if_neg c, if_neg (by decide)]
        exact h1 _ ⟨dg, by omega⟩ (mrF_tr F3 (mrF_wr (by omega))) (fun y => by rw [jw0 (.inl (by decide))]; exact r3 y) (jw1 ⟨rfl, rfl⟩) (by rw [jw0 (.inr (by decide))]; exact w3)
  · have nd : ¬ nOK f T a := fun n => z (bt_nz.mpr n.1)
    refine sq_ (puz (k := 114) (v := 1) (fun Q => rfl) (fun Q => rfl) (.inr rfl) (rt_ ?_))
    exact h2 _ _ nd (mrF_tr F1 (mrF_wr (by omega))) (fun y => by rw [jw0 (.inl (by decide))]; exact r1 y) (by rw [jw0 (.inr (by decide))]; exact p1) (jw1 ⟨rfl, rfl⟩)
def lm (h p q r s t : Int) : Int := if h = 0 then -4 else if h = p then 0 else if h = q then 1 else if h = r then 2 else if h = s then 3 else if h = t then 4 else -4
theorem lm_b (h p q r s t : Int) : -4 ≤ lm h p q r s t ∧ lm h p q r s t ≤ 4 := by unfold lm; (repeat' split) <;> omega
theorem lm_A {h : Int} (h0 : 0 ≤ h) : lm h 117 100 (-1) (-1) (-1) = if lA h < 0 then -4 else lA h := by
  unfold lm lA
  (repeat' split) <;> omega
theorem lm_B {h : Int} (h0 : 0 ≤ h) : lm h 115 119 98 99 102 = if lB h < 0 then -4 else lB h := by
  unfold lm lB
  (repeat' split) <;> omega
theorem val7 {hh p q r s t : Int} {L : jLo} {M : jMm} (l6 : L 6 = hh) (l1 : L 1 = p) (l2 : L 2 = q) (l3 : L 3 = r) (l4 : L 4 = s) (l5 : L 5 = t) (Q : Int → jMm → Prop) : (xTern (kZ (fun x y => x = y) (xV 6)) (xC (-4)) (xTern (kR (fun x y => x = y) (xV 6) (xV 1)) (xC 0) (xTern (kR (fun x y => x = y) (xV 6) (xV 2)) (xC 1) (xTern (kR (fun x y => x = y) (xV 6) (xV 3)) (xC 2) (xTern (kR (fun x y => x = y) (xV 6) (xV 4)) (xC 3) (xTern (kR (fun x y => x = y) (xV 6) (xV 5)) (xC 4) (xC (-4)))))))) L M Q = Q (lm hh p q r s t) M := by
  have v6 : ∀ Q : Int → jMm → Prop, xV 6 L M Q = Q hh M := fun Q => by simp only [xV, l6]
  unfold lm
  exact tern_ (P := hh = 0) (kz_pc v6) (fun _ Q => rfl) (fun _ => tern_ (P := hh = p) (kr_pc v6 (fun Q => by simp only [xV, l1])) (fun _ Q => rfl) (fun _ => tern_ (P := hh = q) (kr_pc v6 (fun Q => by simp only [xV, l2])) (fun _ Q => rfl) (fun _ => tern_ (P := hh = r) (kr_pc v6 (fun Q => by simp only [xV, l3])) (fun _ Q => rfl) (fun _ => tern_ (P := hh = s) (kr_pc v6 (fun Q => by simp only [xV, l4])) (fun _ Q => rfl) (fun _ => tern_ (P := hh = t) (kr_pc v6 (fun Q => by simp only [xV, l5])) (fun _ Q => rfl) (fun _ Q => rfl)))))) Q
theorem qm_letter1 {a p q r s t : Int} {M : jMm} {Q : Int → jMm → Prop} (ha : M 114 9 = a) (hw : M 114 10 = 1) (a0 : 0 ≤ a) (aT : a ≤ 80) (hq : Q (-4) M) : f_X7_letter [114, p, q, r, s, t] M Q := by
  unfold f_X7_letter
  refine mt_ (sq_ (st_v (v := 0) (fun Q => ?_) (sq_ (st_v (v := lm 0 p q r s t) (val7 rfl rfl rfl rfl rfl rfl) (sq_ (puz (k := 114) (v := 1) (fun Q => rfl) (tern_ (P := True) (u := 1) (v := 0) (fun T F => ?_) (fun _ Q => rfl) (fun _ Q => rfl)) (.inr rfl) ?_))))))
  · show ((M 114 10 ≠ 0 → Q 0 M) ∧ (¬ M 114 10 ≠ 0 → _)) = Q 0 M
    rw [hw]
    exact selT (by decide)
  · exact (or_pc (P := True) (P' := True) (fun T F => by
      rw [kz_pc (u := 1) (gf_ (k := 114) (fun Q => rfl) hw)]
      exact pc_i ⟨fun _ => trivial, fun _ => by decide⟩) (fun z => absurd trivial z) T F).trans (pc_i ⟨fun _ => trivial, fun _ => .inl trivial⟩)
  · rw [jwS hw]
    refine sq_ ?_
    show (xTern (kZ (fun x y => x ≠ y) (xGf (xV 0) 10)) (xC 0) (xC 1)) _ M _
    rw [tern_ (P := (1 : Int) ≠ 0) (u := 0) (v := 1) (kz_pc (gf_ (k := 114) (fun Q => rfl) hw)) (fun _ Q => rfl) (fun _ Q => rfl), if_pos (by decide)]
    show ir (M 114 9 + 0) ∧ _
    rw [show M 114 9 + 0 = a by omega]
    refine ⟨⟨by omega, by omega⟩, rt_ ?_⟩
    show Q (lm 0 p q r s t) (jwr M 114 9 (M 114 9 + 0))
    rw [show M 114 9 + 0 = a by omega, jwS ha]
    exact hq
theorem qm_letter0 {f : Int → Int} {T a p q r s t : Int} {M : jMm} {Q : Int → jMm → Prop} (h : tXm M f T) (ha : M 114 9 = a) (hw : M 114 10 = 0) (a0 : 0 ≤ a) (aT : a ≤ T) (h1 : ∀ M', lm (hd f T a) p q r s t < 0 → mrF M M' → (∀ y, M' 119 y = M 119 y) → M' 114 9 = bl f T a → M' 114 10 = 1 → Q (lm (hd f T a) p q r s t) M') (h2 : ∀ M', ¬ lm (hd f T a) p q r s t < 0 → mrF M M' → (∀ y, M' 119 y = M 119 y) → M' 114 9 = bl f T a + 1 → M' 114 10 = 0 → Q (lm (hd f T a) p q r s t) M') : f_X7_letter [114, p, q, r, s, t] M Q := by
  unfold f_X7_letter
  have hT := h.2.1.1
  have bb := bl_b (f := f) aT
  refine mt_ (sq_ ?_)
  show (M 114 10 ≠ 0 → _) ∧ (¬ M 114 10 ≠ 0 → f_X7_here [114] M _)
  refine ⟨fun z => absurd hw z, fun _ => ?_⟩
  rw [qm_here h ha a0 aT]
  have F1 : mrF M (jwr M 114 9 (bl f T a)) := mrF_wr (by omega)
  have r1 : ∀ y, jwr M 114 9 (bl f T a) 119 y = M 119 y := fun y => jw0 (.inl (by decide))
  have p1 : jwr M 114 9 (bl f T a) 114 9 = bl f T a := jw1 ⟨rfl, rfl⟩
  have w1 : jwr M 114 9 (bl f T a) 114 10 = 0 := by rw [jw0 (.inr (by decide))]; exact hw
  generalize jwr M 114 9 (bl f T a) = M1 at *
  generalize hd f T a = hh at *
  refine sq_ (st_v (v := lm hh p q r s t) (val7 rfl rfl rfl rfl rfl rfl) ?_)
  have lb := lm_b hh p q r s t
  generalize lm hh p q r s t = k at *
  refine sq_ (puz (k := 114) (v := if (M1 114 10 ≠ 0 ∨ k < 0) then 1 else 0) (fun Q => rfl) (tern_ (P := M1 114 10 ≠ 0 ∨ k < 0) (u := 1) (v := 0) (or_pc (P := M1 114 10 ≠ 0) (P' := k < 0) (kz_pc (gf_ (k := 114) (fun Q => rfl) rfl)) (fun _ => kz_pc (fun Q => rfl))) (fun _ Q => rfl) (fun _ Q => rfl)) (by split <;> simp) ?_)
  by_cases c : k < 0
  · rw [if_pos (.inr c)]
    generalize hM2 : jwr M1 114 10 1 = M2
    have F2 : mrF M M2 := by rw [← hM2]; exact mrF_tr F1 (mrF_wr (by omega))
    have r2 : ∀ y, M2 119 y = M 119 y := fun y => by rw [← hM2, jw0 (.inl (by decide))]; exact r1 y
    have p2 : M2 114 9 = bl f T a := by rw [← hM2, jw0 (.inr (by decide))]; exact p1
    have w2 : M2 114 10 = 1 := by rw [← hM2, jw1 ⟨rfl, rfl⟩]
    clear hM2
    refine sq_ ?_
    show (xTern (kZ (fun x y => x ≠ y) (xGf (xV 0) 10)) (xC 0) (xC 1)) _ M2 _
    rw [tern_ (P := (1 : Int) ≠ 0) (u := 0) (v := 1) (kz_pc (gf_ (k := 114) (fun Q => rfl) w2)) (fun _ Q => rfl) (fun _ Q => rfl), if_pos (by decide)]
    show ir (M2 114 9 + 0) ∧ _
    refine ⟨⟨by omega, by omega⟩, rt_ ?_⟩
    show Q k (jwr M2 114 9 (M2 114 9 + 0))
    rw [show M2 114 9 + 0 = bl f T a by omega, jwS p2]
    exact h1 M2 c F2 r2 p2 w2
  · rw [if_neg (by omega)]
    rw [jwS w1]
    refine sq_ ?_
    show (xTern (kZ (fun x y => x ≠ y) (xGf (xV 0) 10)) (xC 0) (xC 1)) _ M1 _
    rw [tern_ (P := (0 : Int) ≠ 0) (u := 0) (v := 1) (kz_pc (gf_ (k := 114) (fun Q => rfl) w1)) (fun _ Q => rfl) (fun _ Q => rfl), if_neg (by decide)]
    show ir (M1 114 9 + 1) ∧ _
    refine ⟨⟨by omega, by omega⟩, rt_ ?_⟩
    show Q k (jwr M1 114 9 (M1 114 9 + 1))
    rw [p1]
    exact h2 _ c (mrF_tr F1 (mrF_wr (by omega))) (fun y => by rw [jw0 (.inl (by decide))]; exact r1 y) (jw1 ⟨rfl, rfl⟩) (by rw [jw0 (.inr (by decide))]; exact w1)
