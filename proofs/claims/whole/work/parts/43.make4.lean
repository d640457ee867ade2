/-! the making: calls, new objects -/
theorem yEs_nil {K : jKm} {G : jCt} {d pc : Nat} : yEs K G d pc pc [] ysN := by
  intro z X hO L s vs s' ls st hV hc hq hk
  obtain ⟨rfl, rfl⟩ := Prod.mk.inj (Option.some.inj hq)
  exact hk trivial
theorem yEs_cons {K : jKm} {G : jCt} {d d2 pc p1 p T : Nat} {Ts : List Nat} {e : yEx} {es : yXs} (he : yE K G d pc p1 T e) (hes : yEs K G d2 p1 p Ts es) (hd : d2 = d + kcat T) : yEs K G d pc p (T :: Ts) (ysC e es) := by
  subst hd
  intro z X hO L s vs s' ls st hV hc hq hk
  obtain ⟨⟨v, s1⟩, hq1, hq⟩ := Option.bind_eq_some_iff.mp hq
  obtain ⟨⟨ws, s2⟩, hq2, hq⟩ := Option.bind_eq_some_iff.mp hq
  obtain ⟨rfl, rfl⟩ := Prod.mk.inj (Option.some.inj hq)
  refine he z X hO L s v s1 ls st hV hc hq1 (fun hv => ?_)
  refine hes z X hO L s1 ws s2 ls _ hV (cats_push hc) hq2 (fun hvs => ?_)
  have h := hk ⟨hv, hvs⟩
  rw [show jcvs z (T :: Ts) (v :: ws) = jcv z T v :: jcvs z Ts ws from rfl, List.reverse_cons, List.append_assoc] at h
  exact h
theorem yPc_blind (z : jZ) (K : jKm) (xs : List Int) (A : yA) : FrameBlind (yPc z K xs A) := by
  intro a U g mk h
  obtain ⟨h1, h2, h3⟩ := h
  exact ⟨h1, h2, yKs_same (s := U) (U := U.calling g mk a) rfl h3⟩
theorem yG_run {Kc : jKm} {z : jZ} {p l e R s m args below meth c Qf} {H : Heap} {locs : List Loc} {pc ce sl mc ms : Nat} {ls : Array Slot} {st0 rest : List Value} {v : Int} {A' : yA} {a : Array Value}
    (hr : va_Run p l e R s m args below meth c H locs ce sl mc ms (F0 m pc ls st0) rest (yQc z Kc v A' a) (fun q => z.2.2.1.size ≤ q)) (hL : ∀ q ∈ locs, z.2.2.1.size ≤ q.base)
    (kk : jtk (kmR Kc) v → ∀ (H' : Heap) (locs' : List Loc), yI z A' H' → (∀ q ∈ locs', z.2.2.1.size ≤ q.base) → W p l e R s m args below meth c H' locs' (ce + mc) (sl + ms) Qf (F0 m (pc + 3) ls ((jRo z (kmR Kc) v).toList ++ rest))) : W p l e R s m args below meth c H locs ce sl Qf (F0 m pc ls st0) := by
  intro T hT X
  obtain ⟨w, st₀, t, T', L, h0, X', hL', e1, e2, ⟨hv, htk, hI'⟩, st⟩ := hr T hT X
  cases hv
  obtain ⟨t2, a1, b1⟩ := kk htk T'.heap (locs ++ L) (by rw [e1]; exact hI') (fun q hq => by
      rcases List.mem_append.mp hq with h | h
      · exact hL q h
      · exact hL' q h) T' rfl X'
  exact ⟨t2, st t2 a1, b1⟩
theorem yG_callS {K Kc : jKm} {z : jZ} {X : jAct} {pc ix : Nat} {ls : Array Slot} {vs : List Int} {s s' : yS} {st : List Value} {f : yMd} {v : Int} {mc ms : Nat} (hO : yO K z X) (hsz : ls.size = kmN K) (hM : yM Kc mc ms f) (hd : decode (kmC K) pc = .ok (.invokestatic ix, 3)) (hcc : jCl (kmY Kc) (kmC Kc) (kmN Kc) (kmT Kc) (kmA Kc).length) (hv : Cond.static (kmY Kc) ∈ tG) (hw : Cond.methodLink (kmY K).cls ix (kmY Kc) ∈ tG ∨ ∃ h, Cond.methodLinkNest (kmY K).cls ix (kmY Kc) h ∈ nestW) (hrm : jRoomOk K Kc) (h8 : cats st ≤ 8) (hvs : jtks (kmA Kc) vs) (hq : f vs (s.1, mc, ms) = some (v, s')) (hb1 : mc ≤ s.2.1) (hb2 : ms ≤ s.2.2)
    (kk : jtk (kmR Kc) v → yG z X (pc + 3) ls ((jRo z (kmR Kc) v).toList ++ st) (s'.1, s.2.1 - mc, s.2.2 - ms)) : yG z X pc ls ((jcvs z (kmA Kc) vs).reverse ++ st) s := by
  obtain ⟨p, l, e, R, s0, m, args, below, meth, c, ce, sl, Qf⟩ := X
  obtain ⟨hz, hKs, hx, hb, hml, hown, hts, hfr, hwo, -⟩ := yO_facts hO
  intro H locs hI hL g1 g2
  have hMet := hM z l vs s.1 v s' hz hvs hq
  have h1 := Nat.le_trans hrm.1 hfr
  have h2 := Nat.le_trans hrm.2 hwo
  have h3 : ∀ sig, parseMethodDescriptor (kmY Kc).desc = some sig → (kmA Kc).length = sig.parameters.length := fun sig h => by
    have h2 := hcc.2.2.2
    rw [h] at h2
    exact (Option.some.inj h2).symm
  have hp : PreS s0 H (yPc z Kc vs s.1) (jcvs z (kmA Kc) vs) := ⟨yPc_blind z Kc _ _, fun U hU hW => ⟨rfl, by rw [hU]; exact hI, yKs_warm hW hKs⟩⟩
  have kk2 : jtk (kmR Kc) v → ∀ (H' : Heap) (locs' : List Loc), yI z s'.1 H' → (∀ q ∈ locs', z.2.2.1.size ≤ q.base) → W p l e R s0 m args below meth c H' locs' (R.cells - s.2.1 + mc) (R.slots - s.2.2 + ms) Qf (F0 m (pc + 3) ls ((jRo z (kmR Kc) v).toList ++ st)) := fun ht H' locs' a b => by
    rw [subn hb1 g1, subn hb2 g2]
    exact kk ht H' locs' a b (by show s.2.1 - mc ≤ R.cells; omega) (by show s.2.2 - ms ≤ R.slots; omega)
  rcases hw with hw | ⟨h, hw⟩
  · exact yG_run (Kc := Kc) (va_runS (own := (kmY K).cls) (bytes := kmC Kc) (maxL := kmN Kc) (ret := kmT Kc) (n := (kmA Kc).length) (Ts := tG) (As := jcvs z (kmA Kc) vs) ⟨hx, hb, hml, hown, hts⟩ hMet ⟨⟨rfl, rfl, h1, h2, jWs_warm hts hcc.2.1, List.mem_cons_self, hts _ hcc.2.1, hts _ hcc.1, hcc.2.2.1, h3, hts _ hw⟩, hts _ hv⟩ hp rfl (jcvs_len z _ vs hvs) hsz rfl (by show 2 * 0 + cats st ≤ 8; omega) hd ⟨by omega, by omega⟩) hL kk2
  · exact yG_run (Kc := Kc) (va_runSN (own := (kmY K).cls) (host := h) (bytes := kmC Kc) (maxL := kmN Kc) (ret := kmT Kc) (n := (kmA Kc).length) (Ts := tG) (As := jcvs z (kmA Kc) vs) ⟨hx, hb, hml, hown, hts⟩ hMet ⟨⟨⟨rfl, rfl, h1, h2, jWs_warm hts hcc.2.1, List.mem_cons_self⟩, hts _ hcc.2.1, hts _ hcc.1, hcc.2.2.1, h3, va_Nw.use rfl (hKs.1.2.2.1 _ hw)⟩, hts _ hv, trivial⟩ hp rfl (jcvs_len z _ vs hvs) hsz rfl (by show 2 * 0 + cats st ≤ 8; omega) hd ⟨by omega, by omega⟩) hL kk2
/-- a called method that makes nothing -/
def yF (f : yMd) : yMd := fun vs s => (f vs (s.1, 0, 0)).bind fun r => some (r.1, (r.2.1, s.2))
theorem yF_some {f : yMd} {vs : List Int} {s s' : yS} {v : Int} (h : yF f vs s = some (v, s')) : ∃ s2, f vs (s.1, 0, 0) = some (v, s2) ∧ s' = (s2.1, s.2) := by
  obtain ⟨⟨w, s2⟩, h1, h2⟩ := Option.bind_eq_some_iff.mp h
  obtain ⟨rfl, rfl⟩ := Prod.mk.inj (Option.some.inj h2)
  exact ⟨s2, h1, rfl⟩
theorem yE_callS {K Kc : jKm} {G : jCt} {d pc p1 p ix : Nat} {Ts : List Nat} {es : yXs} {f : yMd} (hes : yEs K G d pc p1 Ts es) (hM : yM Kc 0 0 f) (hd : decode (kmC K) p1 = .ok (.invokestatic ix, 3)) (hp : p = p1 + 3) (hA : kmA Kc = Ts) (hcc : jCl (kmY Kc) (kmC Kc) (kmN Kc) (kmT Kc) (kmA Kc).length) (hv : Cond.static (kmY Kc) ∈ tG) (hw : Cond.methodLink (kmY K).cls ix (kmY Kc) ∈ tG ∨ ∃ h, Cond.methodLinkNest (kmY K).cls ix (kmY Kc) h ∈ nestW) (hrm : jRoomOk K Kc) (h8 : d ≤ 8) (hT : kmR Kc = 20 ∨ kmR Kc = 22) : yE K G d pc p 20 (yCall (yF f) es) := by
  subst hp; subst hA
  intro z X hO L s v s' ls st hV hc hq hk
  obtain ⟨⟨vs, s1⟩, hq1, hq⟩ := Option.bind_eq_some_iff.mp hq
  obtain ⟨s2, hq2, rfl⟩ := yF_some hq
  refine hes z X hO L s vs s1 ls st hV hc hq1 (fun hvs => ?_)
  refine yG_callS hO hV.1 hM hd hcc hv hw hrm (Nat.le_trans hc h8) hvs hq2 (Nat.zero_le _) (Nat.zero_le _) (fun ht => ?_)
  rcases hT with e | e
  · rw [e] at ht
    unfold jRo
    rw [e]
    exact hk ht
  · rw [e] at ht
    unfold jRo
    rw [e]
    exact hk (by rcases jtk22.mp ht with q | q <;> subst q <;> exact ⟨by decide, by decide⟩)
theorem yD_doS {K Kc : jKm} {G : jCt} {pc p1 t ix : Nat} {Ts : List Nat} {es : yXs} {f : yMd} (hes : yEs K G 0 pc p1 Ts es) (hM : yM Kc 0 0 f) (hd : decode (kmC K) p1 = .ok (.invokestatic ix, 3)) (hp : t = p1 + 3) (hA : kmA Kc = Ts) (hcc : jCl (kmY Kc) (kmC Kc) (kmN Kc) (kmT Kc) (kmA Kc).length) (hv : Cond.static (kmY Kc) ∈ tG) (hw : Cond.methodLink (kmY K).cls ix (kmY Kc) ∈ tG ∨ ∃ h, Cond.methodLinkNest (kmY K).cls ix (kmY Kc) h ∈ nestW) (hrm : jRoomOk K Kc) (hR23 : kmR Kc = 23) : yD K G G pc t (uDo (yF f) es) := by
  subst hp; subst hA
  intro z X hO L s o L' s' ls hV hq hN hR
  obtain ⟨⟨vs, s1⟩, hq1, hq⟩ := Option.bind_eq_some_iff.mp hq
  obtain ⟨⟨w, s3⟩, hq3, hq⟩ := Option.bind_eq_some_iff.mp hq
  obtain ⟨s2, hq2, rfl⟩ := yF_some hq3
  have hq5 : (none, L, (s2.1, s1.2)) = (o, L', s') := Option.some.inj hq
  obtain ⟨e1, e2⟩ := Prod.mk.inj hq5
  obtain ⟨e3, e4⟩ := Prod.mk.inj e2
  subst e1; subst e3; subst e4
  refine hes z X hO L s vs s1 ls [] hV (Nat.le_refl 0) hq1 (fun hvs => ?_)
  refine yG_callS hO hV.1 hM hd hcc hv hw hrm (Nat.zero_le 8) hvs hq2 (Nat.zero_le _) (Nat.zero_le _) (fun ht => ?_)
  unfold jRo
  rw [if_pos hR23]
  exact hN rfl ls hV
theorem yD_doV {K Kc : jKm} {G : jCt} {pc p1 t ix C : Nat} {Ts : List Nat} {es : yXs} {f : yMd} (hes : yEs K G 0 pc p1 (C :: Ts) es) (hM : yM Kc 0 0 f) (hd : decode (kmC K) p1 = .ok (.invokevirtual ix, 3)) (hp : t = p1 + 3) (hA : kmA Kc = C :: Ts) (hC : C < 8) (hcl : c_R C = (kmY Kc).cls) (hcc : jCl (kmY Kc) (kmC Kc) (kmN Kc) (kmT Kc) Ts.length) (hv : Cond.instanceMethod (kmY Kc) ∈ tG ∧ Cond.selects (kmY Kc).cls (kmY Kc) (kmY Kc) ∈ tG) (hw : Cond.methodLink (kmY K).cls ix (kmY Kc) ∈ tG) (hrm : jRoomOk K Kc) (hR23 : kmR Kc = 23) (hex : ∀ L s vs s', es L s = some (vs, s') → ∃ k ws q, vs = k :: ws ∧ (jtk C k → s'.1[k.toNat]? = some (C, q)) ∨ False) : yD K G G pc t (uDo (yF f) es) := by
  subst hp
  intro z X hO L s o L' s' ls hV hq hN hR
  obtain ⟨⟨vs, s1⟩, hq1, hq⟩ := Option.bind_eq_some_iff.mp hq
  obtain ⟨⟨w, s3⟩, hq3, hq⟩ := Option.bind_eq_some_iff.mp hq
  obtain ⟨s2, hq2, rfl⟩ := yF_some hq3
  have hq5 : (none, L, (s2.1, s1.2)) = (o, L', s') := Option.some.inj hq
  obtain ⟨e1, e2⟩ := Prod.mk.inj hq5
  obtain ⟨e3, e4⟩ := Prod.mk.inj e2
  subst e1; subst e3; subst e4
  refine hes z X hO L s vs s1 ls [] hV (Nat.le_refl 0) hq1 (fun hvs => ?_)
  obtain ⟨k, ws, qv, ⟨rfl, hqv⟩ | hf⟩ := hex L s vs s1 hq1
  · have hqv := hqv hvs.1
    rw [show jcvs z (C :: Ts) (k :: ws) = jcv z C k :: jcvs z Ts ws from rfl, List.reverse_cons, List.append_assoc, jcvr (T := C) (x := k) (by omega)]
    have hG := hN rfl ls hV
    have had := fun hz => y_ad (z := z) (T := C) hz (by omega) hvs.1
    obtain ⟨p, l, e, R, s0, m, args, below, meth, c, ce, sl, Qf⟩ := X
    obtain ⟨hz, hKs, hx, hb, hml, hown, hts, hfr, hwo, -⟩ := yO_facts hO
    intro H locs hI hL g1 g2
    obtain ⟨cell, q1, q2, q3, -⟩ := hI.2.2.1 _ _ hqv
    obtain ⟨q4, -⟩ := q3 hC
    obtain ⟨-, hfc, -⟩ := hKs.1.1.1 C _ (c_at hC)
    have hMet := hM z l (k :: ws) s1.1 w s2 hz (by rw [hA]; exact hvs) hq2
    refine yG_run (Kc := Kc) (va_runV (own := (kmY K).cls) (C := (kmY Kc).cls) (bytes := kmC Kc) (maxL := kmN Kc) (ret := kmT Kc) (n := Ts.length) (Ts := tG) (As := jcvs z Ts ws) (b := z.2.1 k) ⟨hx, hb, hml, hown, hts⟩ hMet ⟨⟨rfl, rfl, ?_, ?_, jWs_warm hts hcc.2.1, List.mem_cons_self, hts _ hcc.2.1, hts _ hcc.1, hcc.2.2.1, fun sig h => ?_, hts _ hw⟩, hts _ hv.1, hts _ hv.2⟩ ⟨yPc_blind z Kc _ _, ⟨cell, by rw [had hz]; exact q1, by rw [q2]; rfl, ?_⟩, fun U hU hW => ⟨?_, by rw [hU]; exact hI, yKs_warm hW hKs⟩⟩ rfl (jcvs_len z Ts ws hvs.2) hV.1 rfl (Nat.zero_le 8) hd ⟨by omega, by omega⟩) hL (fun ht H' locs' a b => ?_)
    · exact Nat.le_trans hrm.1 hfr
    · exact Nat.le_trans hrm.2 hwo
    · have h2 := hcc.2.2.2
      rw [h] at h2
      exact (Option.some.inj h2).symm
    · rw [q4, ← hcl]; exact hfc
    · rw [hA]
      show (Value.ref (z.2.1 k) :: jcvs z Ts ws).toArray = (jcv z C k :: jcvs z Ts ws).toArray
      rw [jcvr (by omega)]
    · unfold jRo
      rw [if_pos hR23]
      exact hG H' locs' a b g1 g2
  · exact absurd hf id
-- new objects
def yBl (C : Nat) : List Int := (List.range (c_N C)).map (fun j => if s_fty C j < 20 then -1 else 0)
theorem bl_def : ∀ C, C < 8 → ∀ j, j < c_N C → defaultValue ((parseFieldDescriptor (c_T C j).2.2.1).getD .int) = (if s_fty C j < 20 then .null else .int 0) := by decide +kernel
theorem yE_new {K Kc : jKm} {G : jCt} {d d2 pc p1 p2 p ix ix2 C mc ms : Nat} {Ts : List Nat} {es : yXs} {f : yMd} {vs0 : List Int} (hdn : decode (kmC K) pc = .ok (.new ix, 3)) (hdd : decode (kmC K) (pc + 3) = .ok (.dup, 1)) (hp1 : p1 = pc + 4) (hes : yEs K G d2 p1 p2 Ts es) (hd : decode (kmC K) p2 = .ok (.invokespecial ix2, 3)) (hp : p = p2 + 3) (hM : yM Kc mc ms f) (hA : kmA Kc = C :: Ts) (hC : C < 8) (hv0 : vs0 = yBl C) (hnm : (kmY Kc).name = "<init>") (hcc : jCl (kmY Kc) (kmC Kc) (kmN Kc) none Ts.length) (hT : kmT Kc = none) (hR23 : kmR Kc = 23) (hv : Cond.instanceMethod (kmY Kc) ∈ tG) (hw : Cond.methodLink (kmY K).cls ix2 (kmY Kc) ∈ tG) (hcl : Cond.classLink (kmY K).cls ix (c_R C) ∈ tG ∧ Cond.instantiable (c_R C) (c_N C) ∈ tG ∧ Cond.initialized (c_R C) ∈ tG) (hrm : jRoomOk K Kc) (h8 : d + 1 ≤ 8) (hd2 : d2 = d + 2) : yE K G d pc p C (yNew C mc ms f vs0 es) := by
  subst hp; subst hp1; subst hd2; subst hv0
  intro z X hO L s v s' ls st hV hc hq hk
  obtain ⟨⟨r, s1⟩, hq1, hq⟩ := Option.bind_eq_some_iff.mp hq
  obtain ⟨⟨ws, s2⟩, hq2, hq⟩ := Option.bind_eq_some_iff.mp hq
  dsimp only at hq hq1 hq2
  by_cases hB : mc ≤ s2.2.1 ∧ ms ≤ s2.2.2
  · rw [if_pos hB] at hq
    obtain ⟨⟨w, s3⟩, hq3, hq⟩ := Option.bind_eq_some_iff.mp hq
    obtain ⟨rfl, rfl⟩ := Prod.mk.inj (Option.some.inj hq)
    have htk := yNw_jtk hq1 (by omega)
    obtain ⟨c1, c2, c3, c4, c5, c6⟩ := yNw_some hq1
    have hG := hk htk
    rw [jcvr (T := C) (x := r) (by omega)] at hG
    have hlen : (yBl C).length = c_N C := by unfold yBl; rw [List.length_map, List.length_range]
    -- behind new and dup
    have step2 : yG z X (pc + 4) ls (.ref (z.2.1 r) :: .ref (z.2.1 r) :: st) s1 := by
      refine hes z X hO L s1 ws s2 ls _ hV (by rw [cats_cons, cats_cons]; show 1 + (1 + cats st) ≤ d + 2; omega) hq2 (fun hvs => ?_)
      obtain ⟨p, l, e, R, s0, m, args, below, meth, c, ce, sl, Qf⟩ := X
      obtain ⟨hz, hKs, hx, hb, hml, hown, hts, hfr, hwo, -⟩ := yO_facts hO
      intro H locs hI hL g1 g2
      have hMet := hM z l (r :: ws) s2.1 w s3 hz (by rw [hA]; exact ⟨htk, hvs⟩) hq3
      refine yG_run (Kc := Kc) (va_runI (own := (kmY K).cls) (bytes := kmC Kc) (maxL := kmN Kc) (n := Ts.length) (Ts := tG) (As := jcvs z Ts ws) (b := z.2.1 r) (rest := .ref (z.2.1 r) :: st) ⟨hx, hb, hml, hown, hts⟩ hMet ⟨⟨rfl, rfl, ?_, ?_, jWs_warm hts (by rw [hT]; exact hcc.2.1), ?_, hts _ hcc.2.1, hts _ hcc.1, hcc.2.2.1, fun sig h => ?_, hts _ hw⟩, hnm, hts _ hv⟩ ⟨yPc_blind z Kc _ _, fun U hU hW => ⟨?_, by rw [hU]; exact hI, yKs_warm hW hKs⟩⟩ rfl (jcvs_len z Ts ws hvs) hV.1 rfl (by show 2 * 0 + cats (.ref (z.2.1 r) :: st) ≤ 8; rw [cats_cons]; show 2 * 0 + (1 + cats st) ≤ 8; omega) hd ⟨by omega, by omega⟩) hL (fun ht H' locs' a b => ?_)
      · exact Nat.le_trans hrm.1 hfr
      · exact Nat.le_trans hrm.2 hwo
      · unfold jWs; rw [hT]; exact List.mem_cons_self
      · have h2 := hcc.2.2.2
        rw [h] at h2
        exact (Option.some.inj h2).symm
      · rw [hA]
        show (Value.ref (z.2.1 r) :: jcvs z Ts ws).toArray = (jcv z C r :: jcvs z Ts ws).toArray
        rw [jcvr (by omega)]
      · unfold jRo
        rw [if_pos hR23, subn hB.1 g1, subn hB.2 g2]
        exact hG H' locs' a b (by show s2.2.1 - mc ≤ R.cells; omega) (by show s2.2.2 - ms ≤ R.slots; omega)
    have step1 : yG z X (pc + 3) ls (.ref (z.2.1 r) :: st) s1 := ystep hO (fun p l e R s m args below meth c ce sl Qf H locs _ hx hb k => lv_dup hx hb hdd rfl k) step2
    have had := fun hz => y_ad (z := z) (T := C) hz (by omega) htk
    obtain ⟨p, l, e, R, s0, m, args, below, meth, c, ce, sl, Qf⟩ := X
    obtain ⟨hz, hKs, hx, hb, hml, hown, hts, hfr, hwo, -⟩ := yO_facts hO
    intro H locs hI hL g1 g2
    have hKn := hKs.1.1.1 C _ (c_at hC)
    rw [hlen] at c4
    refine W.newcK hx hb hown (hts _ hcl.1) (hts _ hcl.2.1) (hts _ hcl.2.2) rfl hdn (by omega) (by omega) hKn.2.1 (y_len hI) (fun H1 kC hkC e1 z1 o1 => ?_)
    rw [sub1 c3 g1, subn c4 g2]
    have hob := u_born (fun j => (parseFieldDescriptor (c_T C j).2.2.1).getD .int) hts (tG_lay C hC) hKn hkC e1 (fun j hj => by obtain ⟨t, ht⟩ := c_parse C hC j hj; rw [ht]; rfl)
    obtain ⟨cell, b1, b2, b3, b4⟩ := hob
    have hI1 : yI z (s.1 ++ [(C, yBl C)]) H1 := yI_push hI (by rw [z1, y_len hI]) (fun q hq => o1 q (by rw [← y_len hI]; exact hq)) (by omega) ⟨cell, b1, b3, fun _ => ⟨b2, hlen, fun j hj => ?_⟩, fun h => by have : 8 ≤ C := h; omega⟩ (fun w hw => by
      unfold yBl at hw
      obtain ⟨j, -, rfl⟩ := List.mem_map.mp hw
      split <;> exact ⟨by decide, by decide⟩)
    · have hG1 := step1 H1 locs (by rw [c6]; exact hI1) hL (by rw [c6]; show s.2.1 - 1 ≤ R.cells; omega) (by rw [c6]; show s.2.2 - _ ≤ R.slots; omega)
      rw [c6] at hG1
      dsimp only at hG1
      rw [had hz, c5, Int.toNat_natCast, hlen] at hG1
      exact hG1
    · have h4 := b4 j hj
      rw [h4]
      congr 1
      have hg : (yBl C).getD j 0 = if s_fty C j < 20 then -1 else 0 := by
        unfold yBl
        rw [List.getD_eq_getElem?_getD, List.getElem?_map, List.getElem?_range hj]
        rfl
      show defaultValue _ = ySv z C j ((yBl C).getD j 0)
      rw [hg, bl_def C hC j hj]
      by_cases h : s_fty C j < 20
      · rw [if_pos h, if_pos h]
        unfold ySv yRf
        rw [if_pos hC, decide_eq_true h]
        rfl
      · rw [if_neg h, if_neg h, ySv_i (by unfold yRf; rw [if_pos hC]; exact decide_eq_false h)]
        rfl
  · rw [if_neg hB] at hq; cases hq
