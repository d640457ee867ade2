/-! the making: what is looked at once more; a static row copied; rows of rows -/
def yChk (C : Nat) (e : yEx) : yEx := fun L s => (e L s).bind fun r => (yCl r.2 C r.1).bind fun _ => some r
def ysChk (C : Nat) (es : yXs) : yXs := fun L s => (es L s).bind fun r => match r.1 with | k :: _ => (yCl r.2 C k).bind fun _ => some r | [] => none
theorem yE_chk {K : jKm} {G : jCt} {d pc p T C : Nat} {e : yEx} (h : yE K G d pc p T e) : yE K G d pc p T (yChk C e) := by
  intro z X hO L s v s' ls st hV hc hq hk
  obtain ⟨r, hq1, hq⟩ := Option.bind_eq_some_iff.mp hq
  obtain ⟨vs, hq2, hq⟩ := Option.bind_eq_some_iff.mp hq
  have hq := Option.some.inj hq
  subst hq
  exact h z X hO L s v s' ls st hV hc hq1 hk
theorem yChk_ex {C : Nat} {e : yEx} : ∀ L s v s', yChk C e L s = some (v, s') → ∃ q, s'.1[v.toNat]? = some (C, q) := by
  intro L s v s' hq
  obtain ⟨r, hq1, hq⟩ := Option.bind_eq_some_iff.mp hq
  obtain ⟨vs, hq2, hq⟩ := Option.bind_eq_some_iff.mp hq
  have hq := Option.some.inj hq
  subst hq
  exact ⟨vs, (yCl_some hq2).2⟩
theorem yEs_chk {K : jKm} {G : jCt} {d pc p C : Nat} {Ts : List Nat} {es : yXs} (h : yEs K G d pc p Ts es) : yEs K G d pc p Ts (ysChk C es) := by
  intro z X hO L s vs s' ls st hV hc hq hk
  obtain ⟨⟨ws, s1⟩, hq1, hq⟩ := Option.bind_eq_some_iff.mp hq
  cases ws with
  | nil => cases hq
  | cons k ws =>
    obtain ⟨us, hq2, hq⟩ := Option.bind_eq_some_iff.mp hq
    have hq := Option.some.inj hq
    obtain ⟨rfl, rfl⟩ := Prod.mk.inj hq
    exact h z X hO L s _ s1 ls st hV hc hq1 hk
theorem ysChk_ex {C : Nat} {es : yXs} : ∀ L s vs s', ysChk C es L s = some (vs, s') → ∃ k ws q, vs = k :: ws ∧ (jtk C k → s'.1[k.toNat]? = some (C, q)) ∨ False := by
  intro L s vs s' hq
  obtain ⟨⟨ws, s1⟩, hq1, hq⟩ := Option.bind_eq_some_iff.mp hq
  cases ws with
  | nil => cases hq
  | cons k ws =>
    obtain ⟨us, hq2, hq⟩ := Option.bind_eq_some_iff.mp hq
    have hq := Option.some.inj hq
    obtain ⟨rfl, rfl⟩ := Prod.mk.inj hq
    exact ⟨k, ws, us, Or.inl ⟨rfl, fun _ => (yCl_some hq2).2⟩⟩
/-- System.arraycopy of a whole static row: getstatic; 0; o; 0; length; invokestatic -/
theorem yD_copy {K : jKm} {G : jCt} {pc p1 p2 p3 p4 p5 t n ixs ix : Nat} {o len : yEx} (hd0 : decode (kmC K) pc = .ok (.getstatic ixs, 3)) (hp1 : p1 = pc + 3) (hd1 : decode (kmC K) p1 = .ok (.iconst 0, 1)) (hp2 : p2 = p1 + 1) (ho : yE K G 2 p2 p3 8 o) (hd3 : decode (kmC K) p3 = .ok (.iconst 0, 1)) (hp4 : p4 = p3 + 1) (hl : yE K G 4 p4 p5 20 len) (hd : decode (kmC K) p5 = .ok (.invokestatic ix, 3)) (hp : t = p5 + 3) (hn : n < 9) (hws : Cond.fieldLink (kmY K).cls ixs RX6 (s_sname n) "[I" ∈ tG ∨ Cond.fieldLinkNest (kmY K).cls ixs RX6 (s_sname n) "[I" RX6 ∈ nestW) (hw : Cond.methodLink (kmY K).cls ix arraycopyName ∈ tG ∧ Cond.native arraycopyName ∈ tG ∧ Cond.static arraycopyName ∈ tG ∧ Cond.initialized "java/lang/System" ∈ tG) (hr : 1 ≤ kmF K ∧ nativeFrameWords "java/lang/System" "arraycopy" 5 + 11 ≤ kmW K) : yD K G G pc t (uCopy n o len) := by
  subst hp; subst hp1; subst hp2; subst hp4
  intro z X hO L s ot L' s' ls hV hq hN hR
  obtain ⟨⟨h, s1⟩, hq1, hq⟩ := Option.bind_eq_some_iff.mp hq
  obtain ⟨⟨w, s2⟩, hq2, hq⟩ := Option.bind_eq_some_iff.mp hq
  obtain ⟨vs, hq3, hq⟩ := Option.bind_eq_some_iff.mp hq
  dsimp only at hq hq1 hq2 hq3
  by_cases hB : w = s_slen n ∧ (vs.length : Int) = s_slen n
  · rw [if_pos hB] at hq
    obtain ⟨e0, hq5⟩ := Prod.mk.inj (Option.some.inj hq)
    obtain ⟨e3, e4⟩ := Prod.mk.inj hq5
    subst e0; subst e3; subst e4
    obtain ⟨h0, hA⟩ := yCl_some hq3
    have h9 : ∀ n, n < 9 → (0 ≤ s_slen n ∧ s_slen n < 100) := by decide +kernel
    have h9 := h9 n hn
    have G0 := hN rfl ls hV
    obtain ⟨p, l, e, Rm, s0, m, args, below, meth, c, ce, sl, Qf⟩ := X
    obtain ⟨hz, hKs, hx, hbb, hml, hown, hts, hfr, hwo, -⟩ := yO_facts hO
    obtain ⟨a, cs, hZ, a1, a2, a3, a4, a5⟩ := hKs.1.2.2.2.1 n hn
    have stepB : yG z (p, l, e, Rm, s0, m, args, below, meth, c, ce, sl, Qf) (pc + 3) ls [.ref a] s := by
      refine ystep hO (pc' := pc + 3 + 1) (ls' := ls) (st' := [.int 0, .ref a]) (fun p l e R s m args below meth c ce sl Qf H locs _ hx hb k => lv_iconst (v := 0) hx hb hd1 rfl k) ?_
      refine ho z _ hO L s h s1 ls [.int 0, .ref a] hV (Nat.le_refl 2) hq1 (fun hh1 => ?_)
      rw [jcvr (T := 8) (x := h) (by decide)]
      refine ystep hO (pc' := p3 + 1) (ls' := ls) (st' := [.int 0, .ref (z.2.1 h), .int 0, .ref a]) (fun p l e R s m args below meth c ce sl Qf H locs _ hx hb k => lv_iconst (v := 0) hx hb hd3 rfl k) ?_
      refine hl z _ hO L s1 w s2 ls [.int 0, .ref (z.2.1 h), .int 0, .ref a] hV (Nat.le_refl 4) hq2 (fun hw1 => ?_)
      have hw1 := jtk20.mp hw1
      rw [jcv20]
      intro H locs hI hL g1 g2
      obtain ⟨cd, r1, r2, -, r4⟩ := hI.2.2.1 _ _ hA
      have r4 : cd = arrV (z.2.2.2 8) vs.length (fun j => ySv z 8 j (vs.getD j 0)) := r4 (Nat.le_refl 8)
      have had := y_ad (z := z) (T := 8) hz (by decide) hh1
      have hcell : H[a]? = some cs := by rw [hI.2.1 a (Array.getElem?_eq_some_iff.mp a1).1]; exact a1
      obtain ⟨a2a, ka, hka, ca, hkka⟩ := a2
      obtain ⟨-, kb, hkb, cb, hkkb⟩ := hKs.1.2.1 8 (by decide) (by decide) vs.length (fun j => ySv z 8 j (vs.getD j 0))
      have w0 : 0 ≤ w := by omega
      have clw := clamp32 w0 hw1
      intro T hT X
      have hgd : ∀ i, i < w.toNat → cs.slots.getD ((0 : Int32).toNatClampNeg + i) .null = .int (Int32.ofInt (s_sv n i)) := by
        intro i hi
        rw [show (0 : Int32).toNatClampNeg = 0 from rfl, Nat.zero_add, Array.getD_eq_getD_getElem?, a5 i (by omega)]
        rfl
      obtain ⟨vm', X', step⟩ := X.arraycopy hx hown (hts _ hw.1) (hts _ hw.2.1) (hts _ hw.2.2.1) (hts _ hw.2.2.2) (src := a) (dst := z.2.1 h) (cs := cs) (cd := cd) (srcPos := 0) (destPos := 0) (n := Int32.ofInt w) (ks := ka) (kd := kb) (sComp := ca) (dComp := cb) (sType := .int) (dType := .int) (by rw [hT]; exact hcell) (by rw [hT, had]; exact r1)
        a2a (fun _ h => by rw [r2] at h; cases h) a3 (fun h => by rw [r2] at h; cases h) hka (by rw [r4]; exact hkb) hkka hkkb rfl (by decide) (by decide) (neg32 w0 hw1)
        (by rw [ir_to hw1]; show ¬ (0 + w > (cs.slots.size : Int)); omega)
        (by rw [ir_to hw1, r4, arrV_size]; show ¬ (0 + w > (vs.length : Int)); omega)
        (fun vm₁ _ i hi => by
          rw [clw] at hi
          rw [hgd i hi]
          exact ⟨rfl, trivial⟩)
        (g := F0 m p5 ls [.int (Int32.ofInt w), .int 0, .ref (z.2.1 h), .int 0, .ref a]) rfl (by rw [hml]; exact hV.1) (rest := []) rfl (by rw [hbb]; exact hd) (Nat.le_trans hr.1 hfr) (by show 2 * 0 + 0 + (nativeFrameWords "java/lang/System" "arraycopy" 5 + 11) ≤ Rm.locals; have := hr.2; omega)
      have hrow : (List.range vs.length).map (fun (j : Nat) => s_sv n (j : Int)) = (List.range w.toNat).map (fun (j : Nat) => s_sv n (j : Int)) := by
        rw [show vs.length = w.toNat by omega]
      have e1 : copied cs cd 0 0 (Int32.ofInt w) = arrV (z.2.2.2 8) vs.length (fun j => ySv z 8 j (((List.range vs.length).map (fun (j : Nat) => s_sv n (j : Int))).getD j 0)) := by
        rw [r4]
        show (arrV _ _ _).storeRun (0 : Int32).toNatClampNeg (cs.stretch (0 : Int32).toNatClampNeg (Int32.ofInt w).toNatClampNeg) = _
        rw [clw, show (0 : Int32).toNatClampNeg = 0 from rfl]
        have hst : cs.stretch 0 w.toNat = (List.range w.toNat).map (fun i => .int (Int32.ofInt (s_sv n i))) := by
          unfold Cell.stretch
          apply List.map_congr_left
          intro i hi
          have := hgd i (List.mem_range.mp hi)
          rw [show (0 : Int32).toNatClampNeg = 0 from rfl] at this
          exact this
        rw [hst, Cell.storeRun, va_pairs]
        congr 1
        funext j
        rw [ySv_i (show yRf 8 _ = false from rfl)]
        simp only [List.length_map, List.length_range, Nat.zero_add, Nat.zero_le, true_and, Nat.sub_zero]
        by_cases hj : j < w.toNat
        · rw [if_pos hj, List.getD_eq_getElem?_getD, List.getElem?_map, List.getElem?_range hj, List.getD_eq_getElem?_getD, List.getElem?_map, List.getElem?_range (by omega)]
          rfl
        · rw [if_neg hj, List.getD_eq_getElem?_getD, List.getD_eq_getElem?_getD, List.getElem?_eq_none (by omega), List.getElem?_eq_none (by rw [List.length_map, List.length_range]; omega), ySv_i (show yRf 8 _ = false from rfl)]
      rw [e1] at X' step
      have hlt : z.2.1 h < H.size := by rw [had]; exact (Array.getElem?_eq_some_iff.mp r1).1
      have hset : (H.setIfInBounds (z.2.1 h) (arrV (z.2.2.2 8) vs.length (fun j => ySv z 8 j (((List.range vs.length).map (fun (j : Nat) => s_sv n (j : Int))).getD j 0))))[z.2.1 h]? = some (arrV (z.2.2.2 8) vs.length (fun j => ySv z 8 j (((List.range vs.length).map (fun (j : Nat) => s_sv n (j : Int))).getD j 0))) := by simp [Array.getElem?_setIfInBounds, hlt]
      have hIn : yI z (s2.1.set h.toNat (8, (List.range vs.length).map (fun (j : Nat) => s_sv n (j : Int)))) (H.setIfInBounds (z.2.1 h) (arrV (z.2.2.2 8) vs.length (fun j => ySv z 8 j (((List.range vs.length).map (fun (j : Nat) => s_sv n (j : Int))).getD j 0)))) := by
        refine yI_set hI hA (by simp) (fun q hq => by rw [had]; simp [Array.getElem?_setIfInBounds, Ne.symm hq]) ⟨_, by rw [← had]; exact hset, rfl, fun g => by have : 8 < 8 := g; omega, fun _ => ?_⟩ (fun v hv => ?_)
        · rw [List.length_map, List.length_range]
        · obtain ⟨j, hj, rfl⟩ := List.mem_map.mp hv
          have h7 : ∀ n, n < 9 → ∀ j : Nat, j < (s_slen n).toNat → (-100 ≤ s_sv n j ∧ s_sv n j ≤ 100) := by decide +kernel
          have h8 := h7 n hn j (by have := List.mem_range.mp hj; omega)
          exact ⟨by omega, by omega⟩
      obtain ⟨t, b1, b2⟩ := G0 _ (locs ++ (cs.stretch (0 : Int32).toNatClampNeg (Int32.ofInt w).toNatClampNeg).zipIdx.map fun q => ⟨z.2.1 h, (0 : Int32).toNatClampNeg + q.2⟩) hIn (by
        intro q hq
        rcases List.mem_append.mp hq with g | g
        · exact hL q g
        · obtain ⟨r, -, hr⟩ := List.mem_map.mp g
          rw [← hr]; show z.2.2.1.size ≤ z.2.1 h; rw [had]; exact Nat.le_add_right _ _) g1 g2 _ (by rw [← hT]; rfl) X'
      exact ⟨t, step t b1, b2⟩
    obtain ⟨cf, kf, fi, f, sa, scell, b1, b2, b3, b4, b5, b6, b7, b8⟩ := hZ
    intro H locs hI hL g1 g2
    have hsc : H[sa]? = some scell := by rw [hI.2.1 sa (Array.getElem?_eq_some_iff.mp b5).1]; exact b5
    rcases hws with hws | hws
    · exact W.gets hx hbb hown (hts _ hws) b1 b2 b3 b4 hsc (fun e => by rw [e] at b6; cases b6) b7 rfl hd0 (stepB H locs hI hL g1 g2)
    · exact va_WgetsN hx hbb hown (va_Nw.use rfl (hKs.1.2.2.1 _ hws)) b1 b2 b3 b4 hsc (fun e => by rw [e] at b6; cases b6) b7 rfl hd0 (stepB H locs hI hL g1 g2)
  · rw [if_neg hB] at hq; cases hq
