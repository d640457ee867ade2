/-! the making: the order of deeds, calls, contracts -/
theorem yD_seq {K : jKm} {G G1 G2 : jCt} {pc p t : Nat} {a b : yDo} (ha : yD K G G1 pc p a) (hb : yD K G1 G2 p t b) : yD K G G2 pc t (uSeq a b) := by
  intro z X hO L s o L' s' ls hV hq hN hR
  obtain ⟨⟨o1, L1, s1⟩, hq1, hq2⟩ := Option.bind_eq_some_iff.mp hq
  cases o1 with
  | none => exact ha z X hO L s none L1 s1 ls hV hq1 (fun _ ls' hV' => hb z X hO L1 s1 o L' s' ls' hV' hq2 hN hR) (fun v pr ls' h => by cases h)
  | some v =>
    have hq3 : (some v, L1, s1) = (o, L', s') := Option.some.inj hq2
    cases hq3
    exact ha z X hO L s (some v) _ _ ls hV hq1 (fun h => by cases h) hR
theorem yD_goto {K : jKm} {G G' : jCt} {pc p t : Nat} {b : yDo} {off : Int} (h : yD K G G' pc p b) (hd : decode (kmC K) p = .ok (.goto off, 3)) (ht : (p : Int) + off = (t : Int)) : yD K G G' pc t b := by
  intro z X hO L s o L' s' ls hV hq hN hR
  exact h z X hO L s o L' s' ls hV hq (fun h0 ls' hV' => ystep hO (fun p l e R s m args below meth c ce sl Qf H locs _ hx hb kk => lv_goto hx hb hd ht kk) (hN h0 ls' hV')) hR
theorem yD_post {K : jKm} {G G1 G' : jCt} {pc t : Nat} {b : yDo} (h : yD K G G1 pc t b) (hs : ctSub G' G1 = true) : yD K G G' pc t b := by
  intro z X hO L s o L' s' ls hV hq hN hR
  exact h z X hO L s o L' s' ls hV hq (fun h0 ls' hV' => hN h0 ls' (jV_sub hV' (ctSub_ok hs))) hR
theorem yD_while {K : jKm} {G : jCt} {pc pb t n : Nat} {c : yCn} {b : yDo} (hc : yN K G 0 pc pb t c) (hb : yD K G G pb pc b) : yD K G G pc t (uWh c b n) := by
  induction n with
  | zero =>
    intro z X hO L s o L' s' ls hV hq hN hR
    cases hq
  | succ n ih =>
    intro z X hO L s o L' s' ls hV hq hN hR
    obtain ⟨⟨x, s1⟩, hq1, hq2⟩ := Option.bind_eq_some_iff.mp hq
    dsimp only at hq2
    refine hc z X hO L s x s1 ls [] hV (Nat.le_refl 0) hq1 ?_
    cases x with
    | false =>
      have hq3 : (none, L, s1) = (o, L', s') := Option.some.inj hq2
      cases hq3
      exact hN rfl ls hV
    | true =>
      obtain ⟨⟨o2, L2, s2⟩, hq3, hq4⟩ := Option.bind_eq_some_iff.mp (show ((b L s1).bind fun q => match q.1 with | some v => some (some v, q.2) | none => uWh c b n q.2.1 q.2.2) = some (o, L', s') from hq2)
      cases o2 with
      | none => exact hb z X hO L s1 none L2 s2 ls hV hq3 (fun _ ls' hV' => ih z X hO L2 s2 o L' s' ls' hV' hq4 hN hR) (fun v pr ls' h => by cases h)
      | some v =>
        have hq5 : (some v, L2, s2) = (o, L', s') := Option.some.inj hq4
        cases hq5
        exact hb z X hO L s1 (some v) _ _ ls hV hq3 (fun h => by cases h) hR
theorem yD_istore_n {K : jKm} {G G2 : jCt} {pc p1 t i : Nat} {k : Fin 4} {e : yEx} (he : yE K G 0 pc p1 20 e) (hd : decode (kmC K) p1 = .ok (.istore_n k, 1)) (hik : (k : Nat) = i) (hp : t = p1 + 1) (hi : i < kmN K) (hG : G2 = (i, 20) :: G.filter (fun q => q.1 != i)) (hno : G.all (fun q => q.2 != 21 || q.1 + 1 != i) = true) : yD K G G2 pc t (uSet i e) := by
  subst hp
  intro z X hO L s o L' s' ls hV hq hN hR
  obtain ⟨⟨v, s1⟩, hq1, hq2⟩ := Option.bind_eq_some_iff.mp hq
  have hq3 : (none, jup L i v, s1) = (o, L', s') := Option.some.inj hq2
  cases hq3
  refine he z X hO L s v _ ls [] hV (Nat.le_refl 0) hq1 (fun hv => ?_)
  obtain ⟨ls', hs, hh⟩ := lv_store1 (l := []) ⟨hV.1, hV.2.1, fun _ h => by cases h⟩ hi (jcv_cat1 z (T := 20) v (by decide))
  have h := hN rfl ls' (jV_set (T := 20) hV (by decide) hv hi hs hG hno)
  rw [jcv20] at hs ⊢
  refine ystep hO (fun p l e R s m args below meth c ce sl Qf H locs _ hx hb kk => ?_) h
  intro T1 hT1 X1
  obtain ⟨t, a, b⟩ := kk T1 hT1 X1
  refine ⟨t, ?_, b⟩
  subst hik
  jvm_step X1.here [X1.here.top, ↓top_set X1.here.top, hx, hb, hd, hs]
  exact a
theorem irB_ok {x : Int} (h : irB x = true) : ir x := by
  unfold irB at h
  simp only [Bool.and_eq_true, decide_eq_true_eq] at h; exact h
theorem yD_iinc {K : jKm} {G : jCt} {pc t i : Nat} {n : Int} (hd : decode (kmC K) pc = .ok (.iinc i n, 3)) (hp : t = pc + 3) (hi : i < kmN K) (hm : (i, 20) ∈ G) (hno : G.all (fun q => q.1 != i || q.2 == 20) = true) (hno2 : G.all (fun q => q.2 != 21 || q.1 + 1 != i) = true) : yD K G G pc t (uInc i n) := by
  subst hp
  intro z X hO L s o L' s' ls hV hq hN hR
  unfold uInc at hq
  by_cases hB : irB (L i + n) = true
  · rw [if_pos hB] at hq
    have hq3 : (none, jup L i (L i + n), s) = (o, L', s') := Option.some.inj hq
    cases hq3
    have hir := irB_ok hB
    have hg := (hV.2.2 _ hm).1
    obtain ⟨ls', hs, hh⟩ := lv_store1 (l := []) ⟨hV.1, hV.2.1, fun _ h => by cases h⟩ hi (jcv_cat1 z (T := 20) (L i + n) (by decide))
    have hV2 := jV_set (T := 20) hV (by decide) hir hi hs rfl hno2
    have hV3 : jV K z G (jup L i (L i + n)) ls' := by
      refine ⟨hV2.1, hV2.2.1, fun q hqG => ?_⟩
      by_cases e : q.1 = i
      · have h4 := List.all_eq_true.mp hno q hqG
        have h5 : q.2 = 20 := by simpa [e] using h4
        have : q = (i, 20) := Prod.ext e h5
        rw [this]; exact hV2.2.2 _ List.mem_cons_self
      · exact hV2.2.2 q (List.mem_cons_of_mem _ (List.mem_filter.mpr ⟨hqG, by simpa using e⟩))
    have h := hN rfl ls' hV3
    refine ystep hO (fun p l e R s m args below meth c ce sl Qf H locs _ hx hb kk => ?_) h
    intro T1 hT1 X1
    obtain ⟨t, a, b⟩ := kk T1 hT1 X1
    refine ⟨t, ?_, b⟩
    dsimp only at hg
    rw [jcv20] at hg hs
    rw [Int32.ofInt_add] at hs
    jvm_step X1.here [X1.here.top, ↓top_set X1.here.top, hx, hb, hd, hg, hs]
    exact a
  · rw [if_neg hB] at hq; cases hq
theorem yD_ret {K : jKm} {G G' : jCt} {pc p1 t : Nat} {e : yEx} (he : yE K G 0 pc p1 (kmR K) e) (hd : decode (kmC K) p1 = .ok (jRi (kmR K), 1)) (h23 : kmR K ≠ 23) : yD K G G' pc t (uRet e) := by
  intro z X hO L s o L' s' ls hV hq hN hR
  obtain ⟨⟨v, s1⟩, hq1, hq2⟩ := Option.bind_eq_some_iff.mp hq
  have hq3 : (some v, L, s1) = (o, L', s') := Option.some.inj hq2
  cases hq3
  refine he z X hO L s v _ ls [] hV (Nat.le_refl 0) hq1 (fun hv => ?_)
  have h := hR v p1 ls rfl hd hv
  unfold jRs at h
  rw [if_neg h23] at h
  exact h
theorem yD_retZ {K : jKm} {G G' : jCt} {pc p1 t : Nat} {e : yEx} (he : yE K G 0 pc p1 20 e) (hd : decode (kmC K) p1 = .ok (jRi (kmR K), 1)) (h22 : kmR K = 22) : yD K G G' pc t (uRetZ e) := by
  intro z X hO L s o L' s' ls hV hq hN hR
  obtain ⟨⟨v, s1⟩, hq1, hq2⟩ := Option.bind_eq_some_iff.mp hq
  dsimp only at hq2
  by_cases hB : v = 0 ∨ v = 1
  · rw [if_pos hB] at hq2
    have hq3 : (some v, L, s1) = (o, L', s') := Option.some.inj hq2
    cases hq3
    refine he z X hO L s v _ ls [] hV (Nat.le_refl 0) hq1 (fun hv => ?_)
    have h := hR v p1 ls rfl hd (by rw [h22]; exact hB)
    unfold jRs at h
    rw [h22] at h
    exact h
  · rw [if_neg hB] at hq2; cases hq2
theorem yD_ret0 {K : jKm} {G G' : jCt} {pc t : Nat} (hd : decode (kmC K) pc = .ok (jRi (kmR K), 1)) (h23 : kmR K = 23) : yD K G G' pc t uRet0 := by
  intro z X hO L s o L' s' ls hV hq hN hR
  have hq3 : (some 0, L, s) = (o, L', s') := Option.some.inj hq
  cases hq3
  have h := hR 0 pc ls rfl hd (by rw [h23]; rfl)
  unfold jRs at h
  rw [if_pos h23] at h
  exact h
/-- aload_0; invokespecial Object.<init> -/
theorem yD_obj {K : jKm} {G : jCt} {pc p1 t ix T : Nat} (hd0 : decode (kmC K) pc = .ok (.aload_n 0, 1)) (hm : (0, T) ∈ G) (hT : T < 20) (hp1 : p1 = pc + 1) (hd : decode (kmC K) p1 = .ok (.invokespecial ix, 3)) (hp : t = p1 + 3) (hw : Cond.methodLink (kmY K).cls ix Lib.objectInit ∈ tG ∧ Cond.instanceMethod Lib.objectInit ∈ tG ∧ Cond.code Lib.objectInit ⟨#[0xb1]⟩ 1 none ∈ tG) (hr : 1 ≤ kmF K ∧ 12 ≤ kmW K) : yD K G G pc t uSkip := by
  subst hp; subst hp1
  intro z X hO L s o L' s' ls hV hq hN hR
  have hq3 : (none, L, s) = (o, L', s') := Option.some.inj hq
  cases hq3
  have h2 := (hV.2.2 _ hm).1
  dsimp only at h2
  rw [jcvr hT] at h2
  refine ystep hO (pc' := pc + 1) (ls' := ls) (st' := [.ref (z.2.1 (L 0))]) (fun p l e R s m args below meth c ce sl Qf H locs _ hx hb k => lv_aload_n hx hb hd0 rfl h2 k) ?_
  have hG := hN rfl ls hV
  obtain ⟨p, l, e, R, s0, m, args, below, meth, c, ce, sl, Qf⟩ := X
  obtain ⟨hz, hKs, hx, hb, hml, hown, hts, hfr, hwo, -⟩ := yO_facts hO
  intro H locs hI hL g1 g2
  exact W.objInit hx hb hown (hts _ hw.1) (hts _ hw.2.1) (hts _ hw.2.2) rfl (hV.1.trans hml.symm) rfl hd (Nat.le_trans hr.1 hfr) (by show 2 * 0 + 0 + 12 ≤ R.locals; have := hr.2; omega) (hG H locs hI hL g1 g2)
-- contracts
def yRm (K : jKm) (mc ms : Nat) : Room := { frames := kmF K, cells := mc, slots := ms, locals := kmW K }
def yQc (z : jZ) (K : jKm) (v : Int) (A' : yA) : Array Value → State → Outcome → State → Prop := fun _ _ o t => o = .returned (jRo z (kmR K) v) ∧ jtk (kmR K) v ∧ yI z A' t.heap
def yPc (z : jZ) (K : jKm) (xs : List Int) (A : yA) : Array Value → State → Prop := va_Pc (jcvs z (kmA K) xs) (fun U => yI z A U.heap ∧ yKs z U)
def yM (K : jKm) (mc ms : Nat) (f : yMd) : Prop := ∀ (z : jZ) (l : Launch) (xs : List Int) (A : yA) (v : Int) (s' : yS), yWz z → jtks (kmA K) xs → f xs (A, mc, ms) = some (v, s') → Met l (kmY K) (jWs K) (yRm K mc ms) (yPc z K xs A) (yQc z K v s'.1) mc ms (fun q => z.2.2.1.size ≤ q)
theorem yKs_warm {z : jZ} {s U : State} (hW : s.WarmedH U.vm) (h : yKs z s) : yKs z U := by
  obtain ⟨h1, h2, h3, h4, h5, h6⟩ := h
  refine ⟨jK_warm hW h1, fun c a b => ?_, va_AO.moved hW.alike h3, va_AO.moved hW.alike h4, va_AO.moved hW.alike h5, yAOi_moved hW.alike h6⟩
  rw [hW.alike.findClass]; exact h2 c a b
theorem yKs_same {z : jZ} {s U : State} (hW : s.vm = U.vm) (h : yKs z s) : yKs z U := by
  obtain ⟨h1, h2, h3, h4, h5, h6⟩ := h
  have hA : s.vm.Alike U.vm := by rw [← hW]; exact Vm.Alike.refl _
  refine ⟨jK_same hW h1, fun c a b => ?_, va_AO.moved hA h3, va_AO.moved hA h4, va_AO.moved hA h5, yAOi_moved hA h6⟩
  rw [← hW]; exact h2 c a b
theorem yM_of {K : jKm} {mc ms : Nat} {G : jCt} {tend : Nat} {b : yDo} (hS : yD K ((kmP K).zip (kmA K)) G 0 tend b) (hy : plainName (kmY K).cls = true) (hp : kmP K = jpos 0 (kmA K)) (hn : ((kmA K).map kcat).sum ≤ kmN K) (hft : (kmR K = 20 ∧ kmT K = some .int) ∨ (kmR K = 22 ∧ kmT K = some .boolean) ∨ (kmR K = 23 ∧ kmT K = none)) (hX : ∀ z s, kmX K z s) : yM K mc ms (yMeth (kmP K) b) := by
  intro z l xs A v s' hz hx0 hf
  obtain ⟨⟨o, L', s2⟩, hf1, hf2⟩ := Option.bind_eq_some_iff.mp hf
  dsimp only at hf2
  cases o with
  | none => cases hf2
  | some v2 =>
  obtain ⟨rfl, rfl⟩ := Prod.mk.inj (Option.some.inj hf2)
  refine Met.ofW (cc := kmC K) (maxL := kmN K) (ret := kmT K) hy rfl ?_
  intro p e s m args below meth c s₁ B hml hv
  obtain ⟨rfl, hI, hKs⟩ := hv
  have hx := B.exec
  have hb := B.bytes
  have hr := B.returns
  have hts := atoms_spec (ws := jWs K) B.pre
  have hown : s.vm.findClass (kmY K).cls = some m.cls := findClass_of_methodNamed B.named
  have hlocks := B.notSynchronized
  have hnm : meth.name = (kmY K).name := (name_of_methodNamed B.named B.method).1
  have hlen := Nat.le_trans (lgsl_len z (kmA K) xs) hn
  have hl := lv_entry (jcvs z (kmA K) xs) (n := kmN K) hlen
  rw [lg_entry_eq]
  generalize (lg_sl (jcvs z (kmA K) xs) ++ List.replicate (kmN K - (lg_sl (jcvs z (kmA K) xs)).length) Slot.unset).toArray = ls at hl ⊢
  have hO : yO K z (p, l, e, (headSpec (jWs K) (yRm K mc ms)).room, s, m, (jcvs z (kmA K) xs).toArray, below, meth, c, 0, 0, MQ below (yQc z K v2 s2.1) (jcvs z (kmA K) xs).toArray s mc ms (fun q => z.2.2.1.size ≤ q)) :=
    ⟨hz, hKs, hx, hb, hml, hown, fun w hw => hts w (List.mem_cons_of_mem _ hw), Nat.le_refl _, Nat.le_refl _, hX z s, fun _ => hnm⟩
  have hV : jV K z ((kmP K).zip (kmA K)) (jIn (kmP K) xs) ls := by
    refine ⟨hl.1, hl.2.1, fun q hq => ?_⟩
    rw [hp] at hq ⊢
    obtain ⟨h1, h2, -⟩ := jIn_has z (kmA K) xs 0 hx0 q hq
    exact ⟨hl.2.2 _ h1, h2⟩
  have hfin := hS z _ hO _ _ (some v2) L' s2 ls hV hf1 (fun h => by cases h) (fun v3 pr ls' h0 hd htk => by
    cases h0
    intro H locs hI' hL g1 g2
    have post : ∀ t : State, t.heap = H → yQc z K v2 s2.1 (jcvs z (kmA K) xs).toArray s (.returned (jRo z (kmR K) v2)) t := fun t ht => ⟨rfl, htk, by rw [ht]; exact hI'⟩
    refine W.widen (k := mc) (n := ms) (Nat.sub_le _ _) (Nat.sub_le _ _) ?_
    rcases hft with ⟨h1, h2⟩ | ⟨h1, h2⟩ | ⟨h1, h2⟩
    · rw [h2] at hr
      unfold jRs
      rw [h1] at hd post ⊢
      exact W.iret hx hb hr (fun t ht _ => post t ht) hL hd
    · rw [h2] at hr
      unfold jRs
      rw [h1] at hd post htk ⊢
      refine W.zret hx hb hr ?_ (fun t ht _ => post t ht) hL hd
      rcases jtk22.mp htk with e | e <;> subst e <;> decide
    · rw [h2] at hr
      unfold jRs
      rw [h1] at hd post ⊢
      exact W.vret hx hb hr (fun t ht _ => post t ht) hL hd)
  have h := hfin s.heap [] hI (fun q h => by cases h) (Nat.le_refl _) (Nat.le_refl _)
  have e1 : (headSpec (jWs K) (yRm K mc ms)).room.cells - mc = 0 := Nat.sub_self _
  have e2 : (headSpec (jWs K) (yRm K mc ms)).room.slots - ms = 0 := Nat.sub_self _
  dsimp only at h
  rw [e1, e2] at h
  exact h
