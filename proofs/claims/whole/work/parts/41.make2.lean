/-! the making: cells written and made, the order of deeds, calls -/
theorem yI_set {z : jZ} {A : yA} {H H' : Heap} {k C : Nat} {vs vs' : List Int} (hI : yI z A H) (hA : A[k]? = some (C, vs)) (hs : H'.size = H.size) (ho : ∀ q : Nat, q ≠ z.2.2.1.size + k → H'[q]? = H[q]?) (hc : yAt z k (C, vs') H') (hr : ∀ v ∈ vs', ir v) : yI z (A.set k (C, vs')) H' := by
  obtain ⟨a, b, c, d⟩ := hI
  have hlt : k < A.length := (List.getElem?_eq_some_iff.mp hA).1
  refine ⟨by rw [hs, a, List.length_set], fun q hq => ?_, fun j q hj => ?_, fun j q hj => ?_⟩
  · rw [ho q (by omega)]; exact b q hq
  · rw [List.getElem?_set] at hj
    by_cases e : k = j
    · subst e
      rw [if_pos rfl, if_pos hlt] at hj
      rw [← Option.some.inj hj]; exact hc
    · rw [if_neg e] at hj
      obtain ⟨cell, q1, q2⟩ := c j q hj
      exact ⟨cell, by rw [ho _ (by omega)]; exact q1, q2⟩
  · rw [List.getElem?_set] at hj
    by_cases e : k = j
    · subst e
      rw [if_pos rfl, if_pos hlt] at hj
      rw [← Option.some.inj hj]; exact ⟨(d k _ hA).1, hr⟩
    · rw [if_neg e] at hj
      exact d j q hj
theorem yI_push {z : jZ} {A : yA} {H H' : Heap} {C : Nat} {vs : List Int} (hI : yI z A H) (hs : H'.size = H.size + 1) (ho : ∀ q : Nat, q < H.size → H'[q]? = H[q]?) (hC : C < 13) (hc : yAt z A.length (C, vs) H') (hr : ∀ v ∈ vs, ir v) : yI z (A ++ [(C, vs)]) H' := by
  obtain ⟨a, b, c, d⟩ := hI
  refine ⟨by rw [hs, a, List.length_append]; rfl, fun q hq => ?_, fun j q hj => ?_, fun j q hj => ?_⟩
  · rw [ho q (by omega)]; exact b q hq
  · rcases Nat.lt_or_ge j A.length with h | h
    · rw [List.getElem?_append_left h] at hj
      obtain ⟨cell, q1, q2⟩ := c j q hj
      exact ⟨cell, by rw [ho _ (by omega)]; exact q1, q2⟩
    · rw [List.getElem?_append_right h] at hj
      have h1 : j - A.length < 1 := (List.getElem?_eq_some_iff.mp hj).1
      have h2 : j = A.length := by omega
      subst h2
      rw [Nat.sub_self] at hj
      rw [← Option.some.inj hj]; exact hc
  · rcases Nat.lt_or_ge j A.length with h | h
    · rw [List.getElem?_append_left h] at hj
      exact d j q hj
    · rw [List.getElem?_append_right h] at hj
      have h1 : j - A.length < 1 := (List.getElem?_eq_some_iff.mp hj).1
      have h2 : j = A.length := by omega
      subst h2
      rw [Nat.sub_self] at hj
      rw [← Option.some.inj hj]; exact ⟨hC, hr⟩
theorem ir_idx {z : jZ} {T : Nat} {v : Int} (h : jtk T v) (hT : T ≤ 20) : ir v := by
  rcases Nat.lt_or_ge T 20 with h2 | h2
  · obtain ⟨h0, h1, -⟩ := (jtkr h2).mp h
    have h1 : v < 144 := h1
    exact ⟨by omega, by omega⟩
  · have : T = 20 := by omega
    subst this; exact h
theorem c_ref : ∀ c, c < 8 → ∀ j, j < c_N c → s_fty c j < 20 → ∃ t, parseFieldDescriptor (c_T c j).2.2.1 = some t ∧ ((∃ n, t = .object n) ∨ ∃ u, t = .array u) := by
  have h : ∀ c, c < 8 → ∀ j, j < c_N c → s_fty c j < 20 → (match parseFieldDescriptor (c_T c j).2.2.1 with | some (.object _) => true | some (.array _) => true | _ => false) = true := by decide +kernel
  intro c hc j hj hf
  have h1 := h c hc j hj hf
  cases hp : parseFieldDescriptor (c_T c j).2.2.1 with
  | none => rw [hp] at h1; cases h1
  | some t =>
    rw [hp] at h1
    refine ⟨t, rfl, ?_⟩
    cases t <;> first | exact Or.inl ⟨_, rfl⟩ | exact Or.inr ⟨_, rfl⟩ | cases h1
/-- putfield, of any field -/
theorem yG_put {K : jKm} {z : jZ} {X : jAct} {pc C j i T : Nat} {fin : Bool} {k v : Int} {s : yS} {vs : List Int} {ls : Array Slot} {st : List Value} (hO : yO K z X) (hd : decode (kmC K) pc = .ok (.putfield i, 3)) (hF : jFd C j T fin) (hfin : fin = true → (kmY K).name = "<init>" ∧ (c_T C j).1 = (kmY K).cls) (hw : Cond.fieldLink (kmY K).cls i (c_T C j).1 (c_T C j).2.1 (c_T C j).2.2.1 ∈ tG) (hk : jtk C k) (hv : jtk (if T < 20 then T else 20) v) (hb2 : T = 22 → v = 0 ∨ v = 1) (hT : T ≤ 22) (hA : yCl s C k = some vs)
    (kk : yG z X (pc + 3) ls st (ySt s C k (vs.set j v))) : yG z X pc ls (jcv z (if T < 20 then T else 20) v :: .ref (z.2.1 k) :: st) s := by
  obtain ⟨hC, hN, hf, hfi⟩ := hF
  obtain ⟨k0, hA⟩ := yCl_some hA
  obtain ⟨p, l, e, R, s0, m, args, below, meth, c, ce, sl, Qf⟩ := X
  obtain ⟨hz, hKs, hx, hb, -, hown, hts, -, -, -, hnm⟩ := yO_facts hO
  intro H locs hI hL g1 g2
  obtain ⟨cell, q1, q2, q3, -⟩ := hI.2.2.1 _ _ hA
  obtain ⟨q4, q5, q6⟩ := q3 hC
  have hap := va_apart (own := "") hts (tG_lay C hC) (fun j => (parseFieldDescriptor (c_T C j).2.2.1).getD .int) (fun j hj => by obtain ⟨t, ht⟩ := c_parse C hC j hj; rw [ht]; rfl) (c_apart C hC) hKs.1.1 (c_at hC)
  obtain ⟨hS, hfc, kC, hkC, hkind⟩ := hKs.1.1.1 C _ (c_at hC)
  obtain ⟨cf, kf, fi, f, hi, hsl⟩ := hS j hN
  have hlay := hts _ (tG_lay C hC _ (u_in_lay hN))
  have hst := (u_facts hfc hkC (u_lays hts (tG_lay C hC) hN) hi).1
  have hirv : ir v := ir_idx (z := z) hv (by split <;> omega)
  have hval : jcv z (if T < 20 then T else 20) v = ySv z C j v := by
    by_cases h : T < 20
    · rw [if_pos h] at hv ⊢
      rw [jcvr h, ySv_r (by unfold yRf; rw [if_pos hC, hf]; exact decide_eq_true h) ((jtkr h).mp hv).1]
    · rw [if_neg h, jcv20, ySv_i (by unfold yRf; rw [if_pos hC, hf]; exact decide_eq_false h)]
  have hdd : ∃ ty, parseFieldDescriptor (c_T C j).2.2.1 = some ty ∧ narrow ty (ySv z C j v) = ySv z C j v ∧ fits ty (ySv z C j v) = true := by
    by_cases h : T < 20
    · obtain ⟨t, ht, hk⟩ := c_ref C hC j hN (by omega)
      rw [← hval, if_pos h, jcvr h]
      refine ⟨t, ht, ?_⟩
      rcases hk with ⟨n, rfl⟩ | ⟨u, rfl⟩ <;> exact ⟨rfl, rfl⟩
    · refine ⟨_, c_desc C hC j hN (by omega), ?_⟩
      rw [← hval, if_neg h, jcv20, hf]
      by_cases h22 : T = 22
      · rw [if_pos h22]
        rcases hb2 h22 with e | e <;> subst e <;> exact ⟨by decide, by decide⟩
      · rw [if_neg h22]
        exact ⟨rfl, rfl⟩
  obtain ⟨ty, hpd, hn1, hn2⟩ := hdd
  rw [y_ad (T := C) hz (by omega) hk, hval]
  have fin2 : ∀ H' : Heap, H'[z.2.2.1.size + k.toNat]? = some (cell.setSlot f.slot (ySv z C j v)) → H'.size = H.size → (∀ q, q ≠ z.2.2.1.size + k.toNat → H'[q]? = H[q]?) → W p l e R s0 m args below meth c H' (locs ++ [⟨z.2.2.1.size + k.toNat, f.slot⟩]) (R.cells - s.2.1) (R.slots - s.2.2) Qf { F0 m pc ls (ySv z C j v :: .ref (z.2.2.1.size + k.toNat) :: st) with pc := pc + 3, stack := st } := by
    intro H' e1 e2 e3
    refine kk H' _ (yI_set hI hA e2 e3 ⟨_, e1, q2, fun _ => ⟨q4, by rw [List.length_set]; exact q5, fun j' hj' => ?_⟩, fun h => by have : C < 8 := hC; have : 8 ≤ C := h; omega⟩ (fun w hw => ?_)) (fun q hq => ?_) g1 g2
    · have h := t_set q6 hap hN (ySv z C j v) j' hj'
      rw [hsl, h]
      congr 1
      unfold updV
      by_cases e : j' = j
      · subst e
        have hl : j' < vs.length := by have : vs.length = c_N C := q5; omega
        rw [if_pos rfl, List.getD_eq_getElem?_getD, List.getElem?_set_self hl]
        rfl
      · rw [if_neg e]
        show ySv z C j' (vs.getD j' 0) = ySv z C j' ((vs.set j v).getD j' 0)
        rw [List.getD_eq_getElem?_getD, List.getD_eq_getElem?_getD, List.getElem?_set_ne (Ne.symm e)]
    · rcases List.mem_or_eq_of_mem_set hw with h | h
      · exact (hI.2.2.2 _ _ hA).2 w h
      · rw [h]; exact hirv
    · rcases List.mem_append.mp hq with h | h
      · exact hL q h
      · rw [List.mem_singleton.mp h]; exact Nat.le_add_right _ _
  unfold u_lay at hlay
  cases hfn : fin with
  | false =>
    rw [hfn] at hfi
    rw [if_neg (by rw [hfi]; decide)] at hlay
    exact W.putK hx hb (f := f) ⟨hown, hts _ hw, ⟨_, _, _, hi⟩, hst⟩ (by rw [q4]; exact u_store hfc hkC hkind hlay hi hpd hn1 hn2) q1 q2 (by rw [hsl]; exact k2_hasslot (q6 j hN)) rfl rfl hd fin2
  | true =>
    obtain ⟨f1, f2⟩ := hfin hfn
    have f3 : meth.name = "<init>" := (hnm f1).trans f1
    rw [hfn] at hfi
    rw [if_pos hfi] at hlay
    have hcf : m.cls = cf := by
      obtain ⟨_, _, c', _, _, _, -, -, hf', -, -, -, hown2, -⟩ := Cond.laysFinal_spec hlay
      have e1 : c' = cf := by have := hi.symm.trans hf'; simp at this; exact this.1.symm
      rw [show (c_T C j).1 = (kmY K).cls from f2] at hown2
      rw [← e1]; exact Option.some.inj (hown.symm.trans hown2)
    exact W.putFinK hx hb hown (hts _ hw) hi hst hcf f3 (by rw [q4]; exact u_fits hfc hkC hkind (Or.inr hlay) hi hpd hn1 hn2) q1 q2 (by rw [hsl]; exact k2_hasslot (q6 j hN)) rfl rfl hd fin2
theorem yD_put {K : jKm} {G : jCt} {pc p1 p2 t C j i d1 T : Nat} {fin : Bool} {o e : yEx} (ho : yE K G 0 pc p1 C o) (he : yE K G d1 p1 p2 (if T < 20 then T else 20) e) (hd : decode (kmC K) p2 = .ok (.putfield i, 3)) (hp : t = p2 + 3) (hF : jFd C j T fin) (hfin : fin = true → (kmY K).name = "<init>" ∧ (c_T C j).1 = (kmY K).cls) (hw : Cond.fieldLink (kmY K).cls i (c_T C j).1 (c_T C j).2.1 (c_T C j).2.2.1 ∈ tG) (hd1 : d1 = 1) (hT : T ≤ 22) : yD K G G pc t (uPut C j o e) := by
  subst hp; subst hd1
  have hF0 := hF
  obtain ⟨hC, hN, hf, -⟩ := hF
  intro z X hO L s b L' s' ls hV hq hN' hR
  obtain ⟨⟨k, s1⟩, hq1, hq⟩ := Option.bind_eq_some_iff.mp hq
  obtain ⟨⟨v, s2⟩, hq2, hq⟩ := Option.bind_eq_some_iff.mp hq
  obtain ⟨vs, hq3, hq⟩ := Option.bind_eq_some_iff.mp hq
  dsimp only at hq hq1 hq2 hq3
  by_cases hB : s_fty C j = 22 → v = 0 ∨ v = 1
  · rw [if_pos hB] at hq
    obtain ⟨e0, hq5⟩ := Prod.mk.inj (Option.some.inj hq)
    subst e0
    obtain ⟨rfl, rfl⟩ := Prod.mk.inj hq5
    refine ho z X hO L s k s1 ls [] hV (Nat.le_refl 0) hq1 (fun hk1 => ?_)
    refine he z X hO L s1 v s2 ls [jcv z C k] hV (by rw [cats_cons, jcv_kcat]; show kcat C + 0 ≤ 1; unfold kcat; rw [if_neg (by omega)]; exact Nat.le_refl 1) hq2 (fun hv => ?_)
    rw [jcvr (T := C) (x := k) (by omega)]
    exact yG_put hO hd hF0 hfin hw hk1 hv (fun h => hB (by rw [hf]; exact h)) hT hq3 (hN' rfl ls hV)
  · rw [if_neg hB] at hq; cases hq
theorem yD_ast {K : jKm} {G : jCt} {pc p1 p2 p3 t d1 d2 : Nat} {o i e : yEx} (ho : yE K G 0 pc p1 8 o) (hi : yE K G d1 p1 p2 20 i) (he : yE K G d2 p2 p3 20 e) (hd : decode (kmC K) p3 = .ok (.iastore, 1)) (hp : t = p3 + 1) (hd1 : d1 = 1) (hd2 : d2 = 2) : yD K G G pc t (uAst 8 o i e) := by
  subst hp; subst hd1; subst hd2
  intro z X hO L s b L' s' ls hV hq hN' hR
  obtain ⟨⟨k, s1⟩, hq1, hq⟩ := Option.bind_eq_some_iff.mp hq
  obtain ⟨⟨x, s2⟩, hq2, hq⟩ := Option.bind_eq_some_iff.mp hq
  obtain ⟨⟨v, s3⟩, hq3, hq⟩ := Option.bind_eq_some_iff.mp hq
  obtain ⟨vs, hq4, hq⟩ := Option.bind_eq_some_iff.mp hq
  dsimp only at hq hq1 hq2 hq3 hq4
  by_cases hB : 0 ≤ x ∧ x.toNat < vs.length
  · rw [if_pos hB] at hq
    obtain ⟨e0, hq5⟩ := Prod.mk.inj (Option.some.inj hq)
    subst e0
    obtain ⟨rfl, rfl⟩ := Prod.mk.inj hq5
    refine ho z X hO L s k s1 ls [] hV (Nat.le_refl 0) hq1 (fun hk1 => ?_)
    refine hi z X hO L s1 x s2 ls [jcv z 8 k] hV (Nat.le_refl 1) hq2 (fun hx1 => ?_)
    refine he z X hO L s2 v s3 ls [jcv z 20 x, jcv z 8 k] hV (Nat.le_refl 2) hq3 (fun hv => ?_)
    rw [jcvr (T := 8) (x := k) (by omega)]
    have hx1 := jtk20.mp hx1
    have hv := jtk20.mp hv
    obtain ⟨k0, hA⟩ := yCl_some hq4
    have hG := hN' rfl ls hV
    obtain ⟨p, l, e, R, s0, m, args, below, meth, c, ce, sl, Qf⟩ := X
    obtain ⟨hz, hKs, hx, hb, -, hown, hts, -⟩ := yO_facts hO
    intro H locs hI hL g1 g2
    obtain ⟨cell, q1, q2, -, q4⟩ := hI.2.2.1 _ _ hA
    have q4 : cell = arrV (z.2.2.2 8) vs.length (fun j => ySv z 8 j (vs.getD j 0)) := q4 (Nat.le_refl 8)
    rw [y_ad (T := 8) hz (by omega) hk1]
    have hin : ¬ (Int32.ofInt x < 0 ∨ vs.length ≤ (Int32.ofInt x).toNatClampNeg) := by
      rw [clamp32 hB.1 hx1]
      rintro (q | q)
      · exact neg32 hB.1 hx1 q
      · omega
    refine W.iast hx hb q1 (by rw [q4]; exact hKs.1.2.1 8 (by decide) (by decide) _ _) (by rw [q2]; exact fun h => by cases h) (by rw [q4, arrV_size]; exact hin) rfl rfl hd (fun H' e1 e2 e3 => ?_)
    refine hG H' _ (yI_set hI hA e2 e3 ⟨_, e1, q2, fun h => by omega, fun _ => ?_⟩ (fun w hw => ?_)) (fun q hq => ?_) g1 g2
    · rw [q4, arrV_store, List.length_set]
      congr 1
      funext j
      unfold updV
      rw [clamp32 hB.1 hx1]
      by_cases e : j = x.toNat
      · rw [if_pos e, e, List.getD_eq_getElem?_getD, List.getElem?_set_self hB.2, ySv_i (show yRf 8 _ = false from rfl)]
        rfl
      · rw [if_neg e]
        show ySv z 8 j (vs.getD j 0) = ySv z 8 j ((vs.set x.toNat v).getD j 0)
        rw [List.getD_eq_getElem?_getD, List.getD_eq_getElem?_getD, List.getElem?_set_ne (Ne.symm e)]
    · rcases List.mem_or_eq_of_mem_set hw with h | h
      · exact (hI.2.2.2 _ _ hA).2 w h
      · rw [h]; exact hv
    · rcases List.mem_append.mp hq with h | h
      · exact hL q h
      · rw [List.mem_singleton.mp h]; exact Nat.le_add_right _ _
  · rw [if_neg hB] at hq; cases hq
theorem el_ref : ∀ A, A < 13 → s_aty A < 8 → 8 ≤ A ∧ jaty A = .object (c_R (s_aty A)) ∧ yRf A 0 = true := by decide +kernel
theorem yD_aast {K : jKm} {G : jCt} {pc p1 p2 p3 t d1 d2 A C : Nat} {o i e : yEx} (ho : yE K G 0 pc p1 A o) (hi : yE K G d1 p1 p2 20 i) (he : yE K G d2 p2 p3 C e) (hd : decode (kmC K) p3 = .ok (.aastore, 1)) (hp : t = p3 + 1) (hA13 : A < 13) (hAC : s_aty A = C) (hC : C < 8) (hd1 : d1 = 1) (hd2 : d2 = 2) (hex : ∀ L s v s', e L s = some (v, s') → ∃ q, s'.1[v.toNat]? = some (C, q)) : yD K G G pc t (uAst A o i e) := by
  subst hp; subst hd1; subst hd2; subst hAC
  obtain ⟨hA8, hAt, hAr⟩ := el_ref A hA13 hC
  intro z X hO L s b L' s' ls hV hq hN' hR
  obtain ⟨⟨k, s1⟩, hq1, hq⟩ := Option.bind_eq_some_iff.mp hq
  obtain ⟨⟨x, s2⟩, hq2, hq⟩ := Option.bind_eq_some_iff.mp hq
  obtain ⟨⟨v, s3⟩, hq3, hq⟩ := Option.bind_eq_some_iff.mp hq
  obtain ⟨vs, hq4, hq⟩ := Option.bind_eq_some_iff.mp hq
  dsimp only at hq hq1 hq2 hq3 hq4
  by_cases hB : 0 ≤ x ∧ x.toNat < vs.length
  · rw [if_pos hB] at hq
    obtain ⟨e0, hq5⟩ := Prod.mk.inj (Option.some.inj hq)
    subst e0
    obtain ⟨rfl, rfl⟩ := Prod.mk.inj hq5
    obtain ⟨qv, hqv⟩ := hex L s2 v s3 hq3
    have kA : ∀ w, (jcv z A w).category = 1 := fun w => jcv_cat1 z w (by omega)
    refine ho z X hO L s k s1 ls [] hV (Nat.le_refl 0) hq1 (fun hk1 => ?_)
    refine hi z X hO L s1 x s2 ls [jcv z A k] hV (by rw [cats_cons, kA]; exact Nat.le_refl 1) hq2 (fun hx1 => ?_)
    refine he z X hO L s2 v s3 ls [jcv z 20 x, jcv z A k] hV (by rw [cats_cons, cats_cons, kA]; exact Nat.le_refl 2) hq3 (fun hv => ?_)
    rw [jcvr (T := A) (x := k) (by omega), jcvr (T := s_aty A) (x := v) (by omega)]
    have hx1 := jtk20.mp hx1
    obtain ⟨k0, hA⟩ := yCl_some hq4
    have hv0 : 0 ≤ v := ((jtkr (by omega)).mp hv).1
    have hG := hN' rfl ls hV
    obtain ⟨p, l, e, R, s0, m, args, below, meth, c, ce, sl, Qf⟩ := X
    obtain ⟨hz, hKs, hx, hb, -, hown, hts, -⟩ := yO_facts hO
    intro H locs hI hL g1 g2
    obtain ⟨cell, q1, q2, -, q4⟩ := hI.2.2.1 _ _ hA
    have q4 : cell = arrV (z.2.2.2 A) vs.length (fun j => ySv z A j (vs.getD j 0)) := q4 hA8
    obtain ⟨cv, r1, r2, r3, -⟩ := hI.2.2.1 _ _ hqv
    obtain ⟨r4, -, -⟩ := r3 hC
    have hcls := (hKs.1.1.1 (s_aty A) _ (c_at hC)).2
    obtain ⟨-, kA2, hkA, comp, hkind⟩ := hKs.1.2.1 A hA8 hA13 vs.length (fun j => ySv z A j (vs.getD j 0))
    rw [hAt] at hkind
    have hcomp : comp = z.1.1 (s_aty A) := by
      have hover : va_AO (c_R (s_aty A)) s0 := by
        have h3 : ∀ A, A < 13 → s_aty A < 8 → c_R (s_aty A) = RX3 ∨ c_R (s_aty A) = RX1 ∨ c_R (s_aty A) = RX4 := by decide +kernel
        rcases h3 A hA13 hC with e | e | e <;> rw [e]
        · exact hKs.2.2.1
        · exact hKs.2.2.2.1
        · exact hKs.2.2.2.2.1
      obtain ⟨comp2, c2, k2, h1, h2, h3, h4, h5⟩ := Cond.arrayOver_spec (va_AO.use (A := args) hover)
      have hn := hKs.2.1 A hA8 hA13
      rw [hAt] at hn
      have e2 : c2 = z.2.2.2 A := Option.some.inj (h5.symm.trans hn)
      subst e2
      have e3 : k2 = kA2 := Option.some.inj (h3.symm.trans hkA)
      subst e3
      rw [h4] at hkind
      have e4 : comp2 = comp := by cases hkind; rfl
      rw [← e4]
      exact Option.some.inj (h1.symm.trans hcls.1)
    subst hcomp
    obtain ⟨kC, hkC, -⟩ := hcls.2
    rw [y_ad (T := A) hz (by omega) hk1, y_ad (T := s_aty A) hz (by omega) hv]
    refine W.aast hx hb q1 (fun q h => by rw [q2] at h; cases h) (fun h => by rw [q2] at h; cases h) (by rw [q4]; exact hkA) hkind rfl hkC ⟨neg32 hB.1 hx1, by rw [q4, arrV_size, clamp32 hB.1 hx1]; exact hB.2⟩ r1 (fun q h => by rw [r2] at h; cases h) (by rw [r4]; exact hkC) (by rw [r4]; exact va_assign hcls) rfl rfl hd (fun H' e1 e2 e3 => ?_)
    refine hG H' _ (yI_set hI hA e2 e3 ⟨_, e1, q2, fun h => by omega, fun _ => ?_⟩ (fun w hw => ?_)) (fun q hq => ?_) g1 g2
    · rw [q4, arrV_store, List.length_set]
      congr 1
      funext j
      unfold updV
      rw [clamp32 hB.1 hx1]
      have hrj : yRf A j = true := by rw [← hAr]; unfold yRf; rw [if_neg (by omega), if_neg (by omega)]
      by_cases e : j = x.toNat
      · rw [if_pos e, e, List.getD_eq_getElem?_getD, List.getElem?_set_self hB.2, ← e]
        show _ = ySv z A j v
        rw [ySv_r hrj hv0, y_ad (T := s_aty A) hz (by omega) hv]
      · rw [if_neg e]
        show ySv z A j (vs.getD j 0) = ySv z A j ((vs.set x.toNat v).getD j 0)
        rw [List.getD_eq_getElem?_getD, List.getD_eq_getElem?_getD, List.getElem?_set_ne (Ne.symm e)]
    · rcases List.mem_or_eq_of_mem_set hw with h | h
      · exact (hI.2.2.2 _ _ hA).2 w h
      · rw [h]; exact ir_idx (z := z) hv (by omega)
    · rcases List.mem_append.mp hq with h | h
      · exact hL q h
      · rw [List.mem_singleton.mp h]; exact Nat.le_add_right _ _
  · rw [if_neg hB] at hq; cases hq
-- cells made
theorem yNw_some {s s' : yS} {C : Nat} {vs : List Int} {v : Int} (h : yNw s C vs = some (v, s')) : s.1.length < 144 ∧ s_kind (s.1.length : Int) = C ∧ 1 ≤ s.2.1 ∧ vs.length ≤ s.2.2 ∧ v = (s.1.length : Int) ∧ s' = (s.1 ++ [(C, vs)], s.2.1 - 1, s.2.2 - vs.length) := by
  unfold yNw at h
  by_cases hB : s.1.length < 144 ∧ s_kind (s.1.length : Int) = C ∧ 1 ≤ s.2.1 ∧ vs.length ≤ s.2.2
  · rw [if_pos hB] at h
    obtain ⟨e1, e2⟩ := Prod.mk.inj (Option.some.inj h)
    exact ⟨hB.1, hB.2.1, hB.2.2.1, hB.2.2.2, e1.symm, e2.symm⟩
  · rw [if_neg hB] at h; cases h
theorem yNw_jtk {s s' : yS} {C : Nat} {vs : List Int} {v : Int} (h : yNw s C vs = some (v, s')) (hC : C < 20) : jtk C v := by
  obtain ⟨h1, h2, -, -, rfl, -⟩ := yNw_some h
  exact (jtkr hC).mpr ⟨by omega, by show (s.1.length : Int) < 144; omega, h2⟩
theorem y_len {z : jZ} {s : yS} {H : Heap} (hI : yI z s.1 H) : H.size = z.2.2.1.size + s.1.length := hI.1
theorem sub1 {R b : Nat} (h1 : 1 ≤ b) (h2 : b ≤ R) : R - b + 1 = R - (b - 1) := by omega
theorem subn {R b n : Nat} (h1 : n ≤ b) (h2 : b ≤ R) : R - b + n = R - (b - n) := by omega
theorem yE_na {K : jKm} {G : jCt} {d pc p1 p : Nat} {n : yEx} (hn : yE K G d pc p1 20 n) (hd : decode (kmC K) p1 = .ok (.newarray .int, 2)) (hp : p = p1 + 2) (hw : Cond.arrayClass .int ∈ tG) : yE K G d pc p 8 (yNa n) := by
  subst hp
  intro z X hO L s v s' ls st hV hc hq hk
  obtain ⟨⟨x, s1⟩, hq1, hq⟩ := Option.bind_eq_some_iff.mp hq
  dsimp only at hq
  by_cases hB : 0 ≤ x ∧ x < 10000
  · rw [if_pos hB] at hq
    have htk := yNw_jtk hq (by decide)
    obtain ⟨c1, c2, c3, c4, c5, c6⟩ := yNw_some hq
    rw [List.length_replicate] at c4
    refine hn z X hO L s x s1 ls st hV hc hq1 (fun hx1 => ?_)
    have hx1 := jtk20.mp hx1
    have hG := hk htk
    have had := fun hz => y_ad (z := z) (T := 8) hz (by decide) htk
    obtain ⟨p, l, e, R, s0, m, args, below, meth, c, ce, sl, Qf⟩ := X
    obtain ⟨hz, hKs, hx, hb, -, hown, hts, -⟩ := yO_facts hO
    intro H locs hI hL g1 g2
    have clx := clamp32 hB.1 hx1
    refine W.newa hx hb (atype := .int) (hts _ hw) rfl hd rfl (neg32 hB.1 hx1) (by rw [clx]; show x.toNat * 4 ≤ 536870912; omega) (by omega) (by rw [clx]; omega) (fun cA kA comp f1 f2 f3 => ?_)
    have hcA : cA = z.2.2.2 8 := Option.some.inj (f1.symm.trans (hKs.2.1 8 (by decide) (by decide)))
    subst hcA
    rw [clx, sub1 c3 g1, subn c4 g2]
    subst c6
    have hG2 := hG (H.push { cls := z.2.2.2 8, slots := Array.replicate x.toNat (defaultValue .int), vm := .none }) locs (yI_push (C := 8) (vs := List.replicate x.toNat 0) hI (by simp) (fun q hq => by rw [Array.getElem?_push, if_neg (Nat.ne_of_lt hq)]) (by decide) ⟨{ cls := z.2.2.2 8, slots := Array.replicate x.toNat (defaultValue .int), vm := .none }, by rw [← y_len hI]; simp, rfl, fun h => by omega, fun _ => ?_⟩ (fun w hw => by rw [(List.mem_replicate.mp hw).2]; exact ⟨by decide, by decide⟩)) hL (by show s1.2.1 - 1 ≤ R.cells; omega) (by show s1.2.2 - _ ≤ R.slots; omega)
    · rw [jcvr (by decide), had hz, c5, Int.toNat_natCast, ← y_len hI] at hG2
      rw [List.length_replicate] at hG2
      exact hG2
    · rw [arrV_new, List.length_replicate]
      congr 1
      funext j
      rw [ySv_i (show yRf 8 _ = false from rfl)]
      show Value.int 0 = .int (Int32.ofInt ((List.replicate x.toNat 0).getD j 0))
      have : (List.replicate x.toNat (0 : Int)).getD j 0 = 0 := by
        rw [List.getD_eq_getElem?_getD, List.getElem?_replicate]; split <;> rfl
      rw [this]; rfl
  · rw [if_neg hB] at hq; cases hq
theorem yE_ana {K : jKm} {G : jCt} {d pc p1 p A ix : Nat} {n : yEx} (hn : yE K G d pc p1 20 n) (hd : decode (kmC K) p1 = .ok (.anewarray ix, 3)) (hp : p = p1 + 3) (hA : A < 13) (hC : s_aty A < 8) (hw : Cond.classLink (kmY K).cls ix (c_R (s_aty A)) ∈ tG) : yE K G d pc p A (yAna A n) := by
  subst hp
  obtain ⟨hA8, hAt, hAr⟩ := el_ref A hA hC
  intro z X hO L s v s' ls st hV hc hq hk
  obtain ⟨⟨x, s1⟩, hq1, hq⟩ := Option.bind_eq_some_iff.mp hq
  dsimp only at hq
  by_cases hB : 0 ≤ x ∧ x < 10000
  · rw [if_pos hB] at hq
    have htk := yNw_jtk hq (by omega)
    obtain ⟨c1, c2, c3, c4, c5, c6⟩ := yNw_some hq
    rw [List.length_replicate] at c4
    refine hn z X hO L s x s1 ls st hV hc hq1 (fun hx1 => ?_)
    have hx1 := jtk20.mp hx1
    have hG := hk htk
    have had := fun hz => y_ad (z := z) (T := A) hz (by omega) htk
    obtain ⟨p, l, e, R, s0, m, args, below, meth, c, ce, sl, Qf⟩ := X
    obtain ⟨hz, hKs, hx, hb, -, hown, hts, -⟩ := yO_facts hO
    have hover : va_AO (c_R (s_aty A)) s0 := by
      have h3 : ∀ A, A < 13 → s_aty A < 8 → c_R (s_aty A) = RX3 ∨ c_R (s_aty A) = RX1 ∨ c_R (s_aty A) = RX4 := by decide +kernel
      rcases h3 A hA hC with e | e | e <;> rw [e]
      · exact hKs.2.2.1
      · exact hKs.2.2.2.1
      · exact hKs.2.2.2.2.1
    intro H locs hI hL g1 g2
    have clx := clamp32 hB.1 hx1
    refine W.anew hx hb hown (hts _ hw) (va_AO.use hover) rfl hd rfl (neg32 hB.1 hx1) (by rw [clx]; omega) (by omega) (by rw [clx]; omega) (fun cA kA comp f1 f2 f3 f4 => ?_)
    have hcA : cA = z.2.2.2 A := Option.some.inj (f1.symm.trans (by have := hKs.2.1 A hA8 hA; rw [hAt] at this; exact this))
    subst hcA
    rw [clx, sub1 c3 g1, subn c4 g2]
    subst c6
    have hG2 := hG (H.push { cls := z.2.2.2 A, slots := Array.replicate x.toNat .null, vm := .none }) locs (yI_push (C := A) (vs := List.replicate x.toNat (-1)) hI (by simp) (fun q hq => by rw [Array.getElem?_push, if_neg (Nat.ne_of_lt hq)]) hA ⟨{ cls := z.2.2.2 A, slots := Array.replicate x.toNat .null, vm := .none }, by rw [← y_len hI]; simp, rfl, fun h => by have : A < 8 := h; omega, fun _ => ?_⟩ (fun w hw => by rw [(List.mem_replicate.mp hw).2]; exact ⟨by decide, by decide⟩)) hL (by show s1.2.1 - 1 ≤ R.cells; omega) (by show s1.2.2 - _ ≤ R.slots; omega)
    · rw [jcvr (by omega), had hz, c5, Int.toNat_natCast, ← y_len hI] at hG2
      rw [List.length_replicate] at hG2
      exact hG2
    · show _ = arrV (z.2.2.2 A) (List.replicate x.toNat (-1 : Int)).length _
      rw [arrV_new, List.length_replicate]
      unfold arrV
      congr 1
      refine Array.ext (by simp) (fun j h1 h2 => ?_)
      have hj : j < x.toNat := by simpa using h1
      have hg : (List.replicate x.toNat (-1 : Int)).getD j 0 = -1 := by
        rw [List.getD_eq_getElem?_getD, List.getElem?_replicate, if_pos hj]; rfl
      have hrj : yRf A j = true := by rw [← hAr]; unfold yRf; rw [if_neg (by omega), if_neg (by omega)]
      simp only [Array.getElem_ofFn]
      rw [hg]
      unfold ySv
      rw [hrj]
      rfl
  · rw [if_neg hB] at hq; cases hq
