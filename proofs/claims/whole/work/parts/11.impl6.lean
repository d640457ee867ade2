/-! methods: contracts out of code that keeps a word; calls -/
theorem nest_kind {w : Cond} (h : w ∈ nestW) : (∃ a i x h, w = .methodLinkNest a i x h) ∨ ∃ a i b n d h, w = .fieldLinkNest a i b n d h := by
  have h2 := (List.mem_filter.mp h).2
  cases w <;> first | exact Or.inl ⟨_, _, _, _, rfl⟩ | exact Or.inr ⟨_, _, _, _, _, _, rfl⟩ | exact absurd h2 (by simp [nestOk])
theorem jStat_warm {z : jZ} {s U : State} {n : Nat} (hW : s.WarmedH U.vm) (h : jStat z s n) : jStat z U n := by
  obtain ⟨a, cell, h1, h2, h3, h4⟩ := h
  exact ⟨a, cell, va_Z.moved hW.alike h1, h2, State.isArrayOf_alike hW.alike h3, h4⟩
theorem jK_warm {z : jZ} {s U : State} (hW : s.WarmedH U.vm) (h : jK z s) : jK z U := by
  obtain ⟨h1, h2, h3, h4, h5, h6, h7, h8⟩ := h
  refine ⟨va_K.moved hW.alike h1, fun c a b => arrOfT_moved hW.alike (h2 c a b), fun w hw => ?_, fun n hn => jStat_warm hW (h4 n hn), vk_S.moved hW.alike h5, vk_R.warm hW h6, vk_R.warm hW h7, va_Z.moved hW.alike h8⟩
  rcases nest_kind hw with ⟨a, i, x, g, rfl⟩ | ⟨a, i, b, n, d, g, rfl⟩
  · exact va_Nw.warmM hW (h3 _ hw)
  · exact va_Nw.warmF hW (h3 _ hw)
theorem jK_same {z : jZ} {s U : State} (hW : s.vm = U.vm) (h : jK z s) : jK z U := by
  obtain ⟨h1, h2, h3, h4, h5, h6, h7, h8⟩ := h
  have hA : s.vm.Alike U.vm := by rw [← hW]; exact Vm.Alike.refl _
  refine ⟨va_K.moved hA h1, fun c a b => arrOfT_moved hA (h2 c a b), fun w hw => ?_, fun n hn => ?_, vk_S.moved hA h5, vk_R.same hW.symm h6, vk_R.same hW.symm h7, va_Z.moved hA h8⟩
  · rcases nest_kind hw with ⟨a, i, x, g, rfl⟩ | ⟨a, i, b, n, d, g, rfl⟩
    · exact va_Nw.same rfl hW (h3 _ hw)
    · exact va_Nw.same rfl hW (h3 _ hw)
  · obtain ⟨a, cell, h1, h2, h3, h4⟩ := h4 n hn
    exact ⟨a, cell, va_Z.moved hA h1, h2, State.isArrayOf_alike hA h3, h4⟩
-- a static row read at a place
theorem jE_st {K : jKm} {G : jCt} {d pc p1 p2 p n ix d2 : Nat} {i : jEx} (hd1 : decode (kmC K) pc = .ok (.getstatic ix, 3)) (hp1 : p1 = pc + 3) (hi : jE K G d2 p1 p2 20 i) (hd : decode (kmC K) p2 = .ok (.iaload, 1)) (hp : p = p2 + 1) (hn : n < 9) (hw : Cond.fieldLink (kmY K).cls ix RX6 (s_sname n) "[I" ∈ tG ∨ Cond.fieldLinkNest (kmY K).cls ix RX6 (s_sname n) "[I" RX6 ∈ nestW) (hd2 : d2 = d + 1) : jE K G d pc p 20 (xSt n i) := by
  subst hp; subst hd2; subst hp1
  intro z X hO L M Q ls st hV hc hq hk
  obtain ⟨p, l, e, R, s, m, args, below, meth, c, ce, sl, Qf⟩ := X
  obtain ⟨hz, hKs, hx, hb, -, hown, hts, -⟩ := jO_facts hO
  obtain ⟨a, cell, hZ, a1, a2, a3, a4, a5⟩ := hKs.2.2.2.1 n hn
  have hG := hi z _ hO L M _ ls (.ref a :: st) hV (by rw [cats_cons]; show 1 + cats st ≤ d + 1; omega) hq (fun x M1 hx1 hq1 => by
    intro H locs hI hL
    have hr := jtk20.mp hx1
    have hcell : H[a]? = some cell := by rw [hI.2.1 a (Array.getElem?_eq_some_iff.mp a1).1]; exact a1
    refine W.iald (cc := kmC K) hx hb hcell a2 a3 (v := .int (Int32.ofInt (s_sv n x))) (j := Int32.ofInt x) ?_ ?_ rfl rfl hd ?_
    · have := in32 (n := s_len 0) hq1.1.1
      rw [clamp32 hq1.1.1 hr]
      rintro (q | q)
      · exact neg32 hq1.1.1 hr q
      · have := hq1.1; omega
    · rw [clamp32 hq1.1.1 hr, a5 x.toNat (by have := hq1.1; omega), Int.toNat_of_nonneg hq1.1.1]
    · refine hk _ M1 ?_ hq1.2 H locs hI hL
      have h9 : ∀ n, n < 9 → ∀ j : Nat, (j : Int) < s_slen n → (-100 ≤ s_sv n j ∧ s_sv n j ≤ 100) := by
        intro n hn j hj
        have h7 : ∀ n, n < 9 → ∀ j : Nat, j < (s_slen n).toNat → (-100 ≤ s_sv n j ∧ s_sv n j ≤ 100) := by decide +kernel
        exact h7 n hn j (by omega)
      have h8 := h9 n hn x.toNat (by have := hq1.1; omega)
      rw [Int.toNat_of_nonneg hq1.1.1] at h8
      exact ⟨by omega, by omega⟩)
  intro H locs hI hL
  have hG2 := hG H locs hI hL
  obtain ⟨cf, kf, fi, f, sa, scell, h1, h2, h3, h4, h5, h6, h7, h8⟩ := hZ
  have hsc : H[sa]? = some scell := by rw [hI.2.1 sa (Array.getElem?_eq_some_iff.mp h5).1]; exact h5
  rcases hw with hw | hw
  · exact W.gets hx hb hown (hts _ hw) h1 h2 h3 h4 hsc (fun e => by rw [e] at h6; cases h6) h7 rfl hd1 hG2
  · exact va_WgetsN hx hb hown (va_Nw.use rfl (hKs.2.2.1 _ hw)) h1 h2 h3 h4 hsc (fun e => by rw [e] at h6; cases h6) h7 rfl hd1 hG2
-- contracts
def jWs (K : jKm) : List Cond := .code (kmY K) (kmC K) (kmN K) (kmT K) :: tG
def jRm (K : jKm) : Room := { frames := kmF K, cells := 0, slots := 0, locals := kmW K }
def jRo (z : jZ) (T : Nat) (v : Int) : Option Value := if T = 23 then none else some (jcv z T v)
def jQc (z : jZ) (K : jKm) (Q : Int → jMm → Prop) : Array Value → State → Outcome → State → Prop := fun _ _ o t => ∃ v M', o = .returned (jRo z (kmR K) v) ∧ jtk (kmR K) v ∧ Q v M' ∧ jI z M' t.heap
def jPc (z : jZ) (K : jKm) (xs : List Int) (M : jMm) : Array Value → State → Prop := va_Pc (jcvs z (kmA K) xs) (fun U => jI z M U.heap ∧ jK z U)
def jM (K : jKm) (f : jMd) : Prop := ∀ (z : jZ) (l : Launch) (xs : List Int) (M : jMm) (Q : Int → jMm → Prop), jWz z → jtks (kmA K) xs → f xs M Q → Met l (kmY K) (jWs K) (jRm K) (jPc z K xs M) (jQc z K Q) 0 0 (fun q => z.2.2.1.size ≤ q)
def jpos : Nat → List Nat → List Nat
  | _, [] => []
  | i, T :: Ts => i :: jpos (i + kcat T) Ts
theorem jIn_has (z : jZ) : ∀ (Ts : List Nat) (xs : List Int) (i : Nat), jtks Ts xs → ∀ q ∈ (jpos i Ts).zip Ts, (q.1, jcv z q.2 (jIn (jpos i Ts) xs q.1)) ∈ lv_args i (jcvs z Ts xs) ∧ jtk q.2 (jIn (jpos i Ts) xs q.1) ∧ i ≤ q.1
  | [], _, i, _, q, hq => by cases hq
  | T :: Ts, [], i, h, q, hq => absurd h id
  | T :: Ts, x :: xs, i, h, q, hq => by
    rcases List.mem_cons.mp hq with e | hq
    · subst e
      refine ⟨?_, ?_, Nat.le_refl i⟩
      · show (i, jcv z T (if i = i then x else _)) ∈ _
        rw [if_pos rfl]; exact List.mem_cons_self
      · show jtk T (if i = i then x else _)
        rw [if_pos rfl]; exact h.1
    · obtain ⟨h1, h2, h3⟩ := jIn_has z Ts xs (i + kcat T) h.2 q hq
      have hk : 1 ≤ kcat T := by unfold kcat; split <;> omega
      have e : jIn (jpos i (T :: Ts)) (x :: xs) q.1 = jIn (jpos (i + kcat T) Ts) xs q.1 := if_neg (by omega)
      rw [e]
      refine ⟨?_, h2, by omega⟩
      show _ ∈ (i, jcv z T x) :: lv_args (if (jcv z T x).category = 2 then i + 2 else i + 1) (jcvs z Ts xs)
      rw [jcv_kcat, show (if kcat T = 2 then i + 2 else i + 1) = i + kcat T by unfold kcat; split <;> simp]
      exact List.mem_cons_of_mem _ h1
theorem lgsl_len (z : jZ) : ∀ (Ts : List Nat) (xs : List Int), (lg_sl (jcvs z Ts xs)).length ≤ (Ts.map kcat).sum
  | [], _ => Nat.zero_le _
  | _ :: _, [] => Nat.zero_le _
  | T :: Ts, x :: xs => by
    have h := lgsl_len z Ts xs
    show ((if (jcv z T x).category = 2 then [Slot.val (jcv z T x), Slot.second] else [Slot.val (jcv z T x)]) ++ lg_sl (jcvs z Ts xs)).length ≤ kcat T + (Ts.map kcat).sum
    rw [List.length_append, jcv_kcat]
    unfold kcat at *
    split <;> simp <;> omega
def jFt (K : jKm) : Prop := (kmR K = 20 ∧ kmT K = some .int) ∨ (kmR K = 22 ∧ kmT K = some .boolean) ∨ (kmR K = 23 ∧ kmT K = none) ∨ (kmR K < 20 ∧ ∃ n, kmT K = some (.object n)) ∨ (kmR K = 27 ∧ kmT K = some .byte)
theorem jM_of {K : jKm} {G : jCt} {tend : Nat} {b : jSt} (hS : jS K ((kmP K).zip (kmA K)) G 0 tend b) (hy : plainName (kmY K).cls = true) (hp : kmP K = jpos 0 (kmA K)) (hn : ((kmA K).map kcat).sum ≤ kmN K) (hft : jFt K) (hX : ∀ z s, kmX K z s) : jM K (jMeth (kmP K) b) := by
  intro z l xs M Q hz hx0 hf
  refine Met.ofW (cc := kmC K) (maxL := kmN K) (ret := kmT K) hy rfl ?_
  intro p e s m args below meth c s₁ B hml hv
  obtain ⟨rfl, hI, hKs⟩ := hv
  have hx := B.exec
  have hb := B.bytes
  have hr := B.returns
  have hts := atoms_spec (ws := jWs K) B.pre
  have hown : s.vm.findClass (kmY K).cls = some m.cls := findClass_of_methodNamed B.named
  have hlocks := B.notSynchronized
  have hlen := Nat.le_trans (lgsl_len z (kmA K) xs) hn
  have hl := lv_entry (jcvs z (kmA K) xs) (n := kmN K) hlen
  rw [lg_entry_eq]
  generalize (lg_sl (jcvs z (kmA K) xs) ++ List.replicate (kmN K - (lg_sl (jcvs z (kmA K) xs)).length) Slot.unset).toArray = ls at hl ⊢
  have hO : jO K z (p, l, e, (headSpec (jWs K) (jRm K)).room, s, m, (jcvs z (kmA K) xs).toArray, below, meth, c, 0, 0, MQ below (jQc z K Q) (jcvs z (kmA K) xs).toArray s 0 0 (fun q => z.2.2.1.size ≤ q)) :=
    ⟨hz, hKs, hx, hb, hml, hown, fun w hw => hts w (List.mem_cons_of_mem _ hw), Nat.le_refl _, Nat.le_refl _, Nat.zero_le _, Nat.zero_le _, hX z s⟩
  have hV : jV K z ((kmP K).zip (kmA K)) (jIn (kmP K) xs) ls := by
    refine ⟨hl.1, hl.2.1, fun q hq => ?_⟩
    rw [hp] at hq ⊢
    obtain ⟨h1, h2, -⟩ := jIn_has z (kmA K) xs 0 hx0 q hq
    exact ⟨hl.2.2 _ h1, h2⟩
  refine hS z _ hO _ M _ Q ls hV hf (fun _ _ _ _ h => absurd h id) (fun pr ls' v M' hd htk hQ => ?_) s.heap [] hI (fun q h => by cases h)
  intro H locs hI' hL
  have post : ∀ t : State, t.heap = H → jQc z K Q (jcvs z (kmA K) xs).toArray s (.returned (jRo z (kmR K) v)) t := fun t ht => ⟨v, M', rfl, htk, hQ, by rw [ht]; exact hI'⟩
  rcases hft with ⟨h1, h2⟩ | ⟨h1, h2⟩ | ⟨h1, h2⟩ | ⟨h1, n, h2⟩ | ⟨h1, h2⟩
  · rw [h2] at hr
    unfold jRs
    rw [h1] at hd post ⊢
    exact W.iret hx hb hr (fun t ht _ => post t ht) hL hd
  · rw [h2] at hr
    unfold jRs
    rw [h1] at hd post htk ⊢
    refine W.zret hx hb hr ?_ (fun t ht _ => post t ht) hL hd
    rcases jtk22.mp htk with e | e <;> subst e <;> decide
  · rw [h2] at hr
    unfold jRs
    rw [h1] at hd post ⊢
    exact W.vret hx hb hr (fun t ht _ => post t ht) hL hd
  · rw [h2] at hr
    unfold jRs jRo at *
    unfold jRi at hd
    rw [if_neg (by omega)] at hd post ⊢
    rw [if_pos h1] at hd
    have hcv := jcvr (z := z) (T := kmR K) (x := v) h1
    exact W.aret hx hb hr (Or.inl ⟨n, rfl⟩) (Or.inr ⟨_, hcv⟩) (fun t ht _ => post t ht) hL hd
  · rw [h2] at hr
    unfold jRs
    rw [h1] at hd post htk ⊢
    have e : v = 0 := htk
    subst e
    exact W.zret hx hb hr rfl (fun t ht _ => post t ht) hL hd
-- what comes to a call
theorem jEs_nil {K : jKm} {G : jCt} {d pc : Nat} : jEs K G d pc pc [] xsN := by
  intro z X hO L M Q ls st hV hc hq hk
  exact hk [] M trivial hq
theorem jEs_cons {K : jKm} {G : jCt} {d d2 pc p1 p T : Nat} {Ts : List Nat} {e : jEx} {es : jXs} (he : jE K G d pc p1 T e) (hes : jEs K G d2 p1 p Ts es) (hd : d2 = d + kcat T) : jEs K G d pc p (T :: Ts) (xsC e es) := by
  subst hd
  intro z X hO L M Q ls st hV hc hq hk
  refine he z X hO L M _ ls st hV hc hq (fun v M1 hv hq1 => ?_)
  refine hes z X hO L M1 _ ls _ hV (cats_push hc) hq1 (fun vs M2 hvs hq2 => ?_)
  have h := hk (v :: vs) M2 ⟨hv, hvs⟩ hq2
  rw [show jcvs z (T :: Ts) (v :: vs) = jcv z T v :: jcvs z Ts vs from rfl, List.reverse_cons, List.append_assoc] at h
  exact h
def jRoomOk (K Kc : jKm) : Prop := kmF Kc + 1 ≤ kmF K ∧ 8 + (kmN Kc + 11) + kmW Kc ≤ kmW K
theorem tG_good : ∀ w ∈ tG, (w.onTables && w.keeps) = true ∨ ∃ ty, w = .arrayClass ty := fun w hw => good_of_word (List.mem_filter.mp hw).2
theorem jWs_warm {K : jKm} {s : State} {args : Array Value} (hts : ∀ w ∈ tG, w.before args s = true) (hc : Cond.code (kmY K) (kmC K) (kmN K) (kmT K) ∈ tG) : ∀ w ∈ jWs K, ∀ (a' : Array Value) (U : State), s.WarmedH U.vm → w.before a' U = true := by
  intro w hw a' U hW
  have hm : w ∈ tG := by
    rcases List.mem_cons.mp hw with e | h
    · rw [e]; exact hc
    · exact h
  exact word_at hW (tG_good w hm) (hts w hm)
theorem jcvs_len (z : jZ) : ∀ (Ts : List Nat) (xs : List Int), jtks Ts xs → (jcvs z Ts xs).length = Ts.length
  | [], [], _ => rfl
  | [], _ :: _, h => absurd h id
  | _ :: _, [], h => absurd h id
  | T :: Ts, x :: xs, h => by
    show (jcvs z Ts xs).length + 1 = Ts.length + 1
    rw [jcvs_len z Ts xs h.2]
theorem jPc_blind (z : jZ) (K : jKm) (xs : List Int) (M : jMm) : FrameBlind (jPc z K xs M) := by
  intro a U g mk h
  obtain ⟨h1, h2, h3⟩ := h
  exact ⟨h1, h2, jK_same (s := U) (U := U.calling g mk a) rfl h3⟩
/-- behind a call, whatever the answer -/
theorem jG_run {Kc : jKm} {z : jZ} {p l e R s m args below meth c ce sl Qf} {H : Heap} {locs : List Loc} {pc : Nat} {ls : Array Slot} {st0 rest : List Value} {Q : Int → jMm → Prop} {a : Array Value}
    (hr : va_Run p l e R s m args below meth c H locs ce sl 0 0 (F0 m pc ls st0) rest (jQc z Kc Q a) (fun q => z.2.2.1.size ≤ q)) (hL : ∀ q ∈ locs, z.2.2.1.size ≤ q.base)
    (kk : ∀ v M', jtk (kmR Kc) v → Q v M' → jG z (p, l, e, R, s, m, args, below, meth, c, ce, sl, Qf) (pc + 3) ls ((jRo z (kmR Kc) v).toList ++ rest) M') : W p l e R s m args below meth c H locs ce sl Qf (F0 m pc ls st0) := by
  intro T hT X
  obtain ⟨v, st₀, t, T', L, h0, X', hL', e1, e2, ⟨r, M', hv, htk, hQ, hI'⟩, st⟩ := hr T hT X
  cases hv
  obtain ⟨t2, a1, b1⟩ := kk r M' htk hQ T'.heap (locs ++ L) (by rw [e1]; exact hI') (fun q hq => by
      rcases List.mem_append.mp hq with h | h
      · exact hL q h
      · exact hL' q h) T' rfl X'
  exact ⟨t2, st t2 a1, b1⟩
theorem jG_callV {K Kc : jKm} {z : jZ} {X : jAct} {pc ix C : Nat} {Ts : List Nat} {ls : Array Slot} {k : Int} {vs : List Int} {M : jMm} {st : List Value} {f : jMd} {Q : Int → jMm → Prop} (hO : jO K z X) (hsz : ls.size = kmN K) (hM : jM Kc f) (hd : decode (kmC K) pc = .ok (.invokevirtual ix, 3)) (hA : kmA Kc = C :: Ts) (hC : C < 8) (hcl : c_R C = (kmY Kc).cls) (hcc : jCl (kmY Kc) (kmC Kc) (kmN Kc) (kmT Kc) Ts.length) (hv : Cond.instanceMethod (kmY Kc) ∈ tG ∧ Cond.selects (kmY Kc).cls (kmY Kc) (kmY Kc) ∈ tG) (hw : Cond.methodLink (kmY K).cls ix (kmY Kc) ∈ tG) (hrm : jRoomOk K Kc) (h8 : cats st ≤ 8) (hvs : jtks (C :: Ts) (k :: vs)) (hq : f (k :: vs) M Q)
    (kk : ∀ v M', jtk (kmR Kc) v → Q v M' → jG z X (pc + 3) ls ((jRo z (kmR Kc) v).toList ++ st) M') : jG z X pc ls ((jcvs z Ts vs).reverse ++ .ref (z.2.1 k) :: st) M := by
  obtain ⟨p, l, e, R, s, m, args, below, meth, c, ce, sl, Qf⟩ := X
  obtain ⟨hz, hKs, hx, hb, hml, hown, hts, hfr, hwo, hce, hsl, -⟩ := jO_facts hO
  intro H locs hI hL
  obtain ⟨k0, k1, k2⟩ := (jtkr (by omega)).mp hvs.1
  obtain ⟨cell, q1, q2, q3, -⟩ := hI.2.2.1 k k0 k1
  rw [k2] at q3
  obtain ⟨q4, -⟩ := q3 hC
  obtain ⟨-, hfc, -⟩ := hKs.1.1 C _ (c_at hC)
  have hMet := hM z l (k :: vs) M Q hz (by rw [hA]; exact hvs) hq
  refine jG_run (Kc := Kc) (va_runV (own := (kmY K).cls) (C := (kmY Kc).cls) (bytes := kmC Kc) (maxL := kmN Kc) (ret := kmT Kc) (n := Ts.length) (Ts := tG) (As := jcvs z Ts vs) (b := z.2.1 k) ⟨hx, hb, hml, hown, hts⟩ hMet ⟨⟨rfl, rfl, ?_, ?_, jWs_warm hts hcc.2.1, List.mem_cons_self, hts _ hcc.2.1, hts _ hcc.1, hcc.2.2.1, fun sig h => ?_, hts _ hw⟩, hts _ hv.1, hts _ hv.2⟩ ⟨jPc_blind z Kc _ M, ⟨cell, q1, by rw [q2]; rfl, ?_⟩, fun U hU hW => ⟨?_, by rw [hU]; exact hI, jK_warm hW hKs⟩⟩ rfl (jcvs_len z Ts vs hvs.2) hsz rfl (by show 2 * 0 + cats st ≤ 8; omega) hd ⟨hce, hsl⟩) hL kk
  · exact Nat.le_trans hrm.1 hfr
  · exact Nat.le_trans hrm.2 hwo
  · have h2 := hcc.2.2.2
    rw [h] at h2
    exact (Option.some.inj h2).symm
  · rw [q4, ← hcl]; exact hfc
  · rw [hA]
    show (Value.ref (z.2.1 k) :: jcvs z Ts vs).toArray = (jcv z C k :: jcvs z Ts vs).toArray
    rw [jcvr (by omega)]
theorem jG_callS {K Kc : jKm} {z : jZ} {X : jAct} {pc ix : Nat} {ls : Array Slot} {vs : List Int} {M : jMm} {st : List Value} {f : jMd} {Q : Int → jMm → Prop} (hO : jO K z X) (hsz : ls.size = kmN K) (hM : jM Kc f) (hd : decode (kmC K) pc = .ok (.invokestatic ix, 3)) (hcc : jCl (kmY Kc) (kmC Kc) (kmN Kc) (kmT Kc) (kmA Kc).length) (hv : Cond.static (kmY Kc) ∈ tG) (hw : Cond.methodLink (kmY K).cls ix (kmY Kc) ∈ tG ∨ ∃ h, Cond.methodLinkNest (kmY K).cls ix (kmY Kc) h ∈ nestW) (hrm : jRoomOk K Kc) (h8 : cats st ≤ 8) (hvs : jtks (kmA Kc) vs) (hq : f vs M Q)
    (kk : ∀ v M', jtk (kmR Kc) v → Q v M' → jG z X (pc + 3) ls ((jRo z (kmR Kc) v).toList ++ st) M') : jG z X pc ls ((jcvs z (kmA Kc) vs).reverse ++ st) M := by
  obtain ⟨p, l, e, R, s, m, args, below, meth, c, ce, sl, Qf⟩ := X
  obtain ⟨hz, hKs, hx, hb, hml, hown, hts, hfr, hwo, hce, hsl, -⟩ := jO_facts hO
  intro H locs hI hL
  have hMet := hM z l vs M Q hz hvs hq
  have h1 := Nat.le_trans hrm.1 hfr
  have h2 := Nat.le_trans hrm.2 hwo
  have h3 : ∀ sig, parseMethodDescriptor (kmY Kc).desc = some sig → (kmA Kc).length = sig.parameters.length := fun sig h => by
    have h2 := hcc.2.2.2
    rw [h] at h2
    exact (Option.some.inj h2).symm
  have hp : PreS s H (jPc z Kc vs M) (jcvs z (kmA Kc) vs) := ⟨jPc_blind z Kc _ M, fun U hU hW => ⟨rfl, by rw [hU]; exact hI, jK_warm hW hKs⟩⟩
  rcases hw with hw | ⟨h, hw⟩
  · exact jG_run (Kc := Kc) (va_runS (own := (kmY K).cls) (bytes := kmC Kc) (maxL := kmN Kc) (ret := kmT Kc) (n := (kmA Kc).length) (Ts := tG) (As := jcvs z (kmA Kc) vs) ⟨hx, hb, hml, hown, hts⟩ hMet ⟨⟨rfl, rfl, h1, h2, jWs_warm hts hcc.2.1, List.mem_cons_self, hts _ hcc.2.1, hts _ hcc.1, hcc.2.2.1, h3, hts _ hw⟩, hts _ hv⟩ hp rfl (jcvs_len z _ vs hvs) hsz rfl (by show 2 * 0 + cats st ≤ 8; omega) hd ⟨hce, hsl⟩) hL kk
  · exact jG_run (Kc := Kc) (va_runSN (own := (kmY K).cls) (host := h) (bytes := kmC Kc) (maxL := kmN Kc) (ret := kmT Kc) (n := (kmA Kc).length) (Ts := tG) (As := jcvs z (kmA Kc) vs) ⟨hx, hb, hml, hown, hts⟩ hMet ⟨⟨⟨rfl, rfl, h1, h2, jWs_warm hts hcc.2.1, List.mem_cons_self⟩, hts _ hcc.2.1, hts _ hcc.1, hcc.2.2.1, h3, va_Nw.use rfl (hKs.2.2.1 _ hw)⟩, hts _ hv, trivial⟩ hp rfl (jcvs_len z _ vs hvs) hsz rfl (by show 2 * 0 + cats st ≤ 8; omega) hd ⟨hce, hsl⟩) hL kk
theorem jE_callV {K Kc : jKm} {G : jCt} {d pc p1 p ix C T : Nat} {Ts : List Nat} {es : jXs} {f : jMd} (hes : jEs K G d pc p1 (C :: Ts) es) (hM : jM Kc f) (hd : decode (kmC K) p1 = .ok (.invokevirtual ix, 3)) (hp : p = p1 + 3) (hA : kmA Kc = C :: Ts) (hC : C < 8) (hcl : c_R C = (kmY Kc).cls) (hcc : jCl (kmY Kc) (kmC Kc) (kmN Kc) (kmT Kc) Ts.length) (hv : Cond.instanceMethod (kmY Kc) ∈ tG ∧ Cond.selects (kmY Kc).cls (kmY Kc) (kmY Kc) ∈ tG) (hw : Cond.methodLink (kmY K).cls ix (kmY Kc) ∈ tG) (hrm : jRoomOk K Kc) (h8 : d ≤ 8) (hT : (kmR Kc = T ∨ (kmR Kc = 22 ∧ T = 20)) ∧ T ≠ 23) : jE K G d pc p T (xCall f es) := by
  subst hp
  intro z X hO L M Q ls st hV hc hq hk
  refine hes z X hO L M _ ls st hV hc hq (fun vs M1 hvs hq1 => ?_)
  match vs, hvs with
  | [], hvs => exact absurd hvs id
  | k :: vs, hvs =>
    have h := jG_callV hO hV.1 hM hd hA hC hcl hcc hv hw hrm (Nat.le_trans hc h8) hvs hq1 (fun v M2 hv2 hq2 => by
      rcases hT.1 with e | ⟨e, e2⟩
      · have h := hk v M2 (e ▸ hv2) hq2
        unfold jRo
        rw [if_neg (by omega), e]
        exact h
      · subst e2
        rw [e] at hv2
        have h := hk v M2 (by rcases jtk22.mp hv2 with q | q <;> subst q <;> exact ⟨by decide, by decide⟩) hq2
        unfold jRo
        rw [e]
        exact h)
    rw [show jcvs z (C :: Ts) (k :: vs) = jcv z C k :: jcvs z Ts vs from rfl, List.reverse_cons, List.append_assoc, jcvr (T := C) (x := k) (by omega)]
    exact h
theorem jE_callS {K Kc : jKm} {G : jCt} {d pc p1 p ix T : Nat} {Ts : List Nat} {es : jXs} {f : jMd} (hes : jEs K G d pc p1 Ts es) (hM : jM Kc f) (hd : decode (kmC K) p1 = .ok (.invokestatic ix, 3)) (hp : p = p1 + 3) (hA : kmA Kc = Ts) (hcc : jCl (kmY Kc) (kmC Kc) (kmN Kc) (kmT Kc) (kmA Kc).length) (hv : Cond.static (kmY Kc) ∈ tG) (hw : Cond.methodLink (kmY K).cls ix (kmY Kc) ∈ tG ∨ ∃ h, Cond.methodLinkNest (kmY K).cls ix (kmY Kc) h ∈ nestW) (hrm : jRoomOk K Kc) (h8 : d ≤ 8) (hT : (kmR Kc = T ∨ (kmR Kc = 22 ∧ T = 20)) ∧ T ≠ 23) : jE K G d pc p T (xCall f es) := by
  subst hp; subst hA
  intro z X hO L M Q ls st hV hc hq hk
  refine hes z X hO L M _ ls st hV hc hq (fun vs M1 hvs hq1 => ?_)
  exact jG_callS hO hV.1 hM hd hcc hv hw hrm (Nat.le_trans hc h8) hvs hq1 (fun v M2 hv2 hq2 => by
      rcases hT.1 with e | ⟨e, e2⟩
      · have h := hk v M2 (e ▸ hv2) hq2
        unfold jRo
        rw [if_neg (by omega), e]
        exact h
      · subst e2
        rw [e] at hv2
        have h := hk v M2 (by rcases jtk22.mp hv2 with q | q <;> subst q <;> exact ⟨by decide, by decide⟩) hq2
        unfold jRo
        rw [e]
        exact h)
theorem jS_doV {K Kc : jKm} {G : jCt} {pc p1 t ix C : Nat} {Ts : List Nat} {es : jXs} {f : jMd} (hes : jEs K G 0 pc p1 (C :: Ts) es) (hM : jM Kc f) (hd : decode (kmC K) p1 = .ok (.invokevirtual ix, 3)) (hp : (kmR Kc = 23 ∧ t = p1 + 3) ∨ (kmR Kc ≠ 23 ∧ kmR Kc ≠ 21 ∧ decode (kmC K) (p1 + 3) = .ok (.pop, 1) ∧ t = p1 + 4)) (hA : kmA Kc = C :: Ts) (hC : C < 8) (hcl : c_R C = (kmY Kc).cls) (hcc : jCl (kmY Kc) (kmC Kc) (kmN Kc) (kmT Kc) Ts.length) (hv : Cond.instanceMethod (kmY Kc) ∈ tG ∧ Cond.selects (kmY Kc).cls (kmY Kc) (kmY Kc) ∈ tG) (hw : Cond.methodLink (kmY K).cls ix (kmY Kc) ∈ tG) (hrm : jRoomOk K Kc) : jS K G G pc t (tDo f es) := by
  intro z X hO L M N R ls hV hq hN hR
  refine hes z X hO L M _ ls [] hV (Nat.le_refl 0) hq (fun vs M1 hvs hq1 => ?_)
  match vs, hvs with
  | [], hvs => exact absurd hvs id
  | k :: vs, hvs =>
    have h := jG_callV (st := []) hO hV.1 hM hd hA hC hcl hcc hv hw hrm (Nat.zero_le 8) hvs hq1 (fun v M2 hv2 hq2 => by
      rcases hp with ⟨e1, e2⟩ | ⟨e1, e3, e4, e2⟩
      · subst e2
        unfold jRo
        rw [if_pos e1]
        exact hN L M2 ls hV hq2
      · subst e2
        unfold jRo
        rw [if_neg e1]
        exact jstep hO (fun p l e R s m args below meth c ce sl Qf H locs _ hx hb kk => lv_pop hx hb e4 (jcv_cat1 z v e3) kk) (hN L M2 ls hV hq2))
    rw [show jcvs z (C :: Ts) (k :: vs) = jcv z C k :: jcvs z Ts vs from rfl, List.reverse_cons, List.append_assoc, jcvr (T := C) (x := k) (by omega)]
    exact h
theorem jS_doS {K Kc : jKm} {G : jCt} {pc p1 t ix : Nat} {Ts : List Nat} {es : jXs} {f : jMd} (hes : jEs K G 0 pc p1 Ts es) (hM : jM Kc f) (hd : decode (kmC K) p1 = .ok (.invokestatic ix, 3)) (hp : (kmR Kc = 23 ∧ t = p1 + 3) ∨ (kmR Kc ≠ 23 ∧ kmR Kc ≠ 21 ∧ decode (kmC K) (p1 + 3) = .ok (.pop, 1) ∧ t = p1 + 4)) (hA : kmA Kc = Ts) (hcc : jCl (kmY Kc) (kmC Kc) (kmN Kc) (kmT Kc) (kmA Kc).length) (hv : Cond.static (kmY Kc) ∈ tG) (hw : Cond.methodLink (kmY K).cls ix (kmY Kc) ∈ tG ∨ ∃ h, Cond.methodLinkNest (kmY K).cls ix (kmY Kc) h ∈ nestW) (hrm : jRoomOk K Kc) : jS K G G pc t (tDo f es) := by
  subst hA
  intro z X hO L M N R ls hV hq hN hR
  refine hes z X hO L M _ ls [] hV (Nat.le_refl 0) hq (fun vs M1 hvs hq1 => ?_)
  exact jG_callS hO hV.1 hM hd hcc hv hw hrm (Nat.zero_le 8) hvs hq1 (fun v M2 hv2 hq2 => by
      rcases hp with ⟨e1, e2⟩ | ⟨e1, e3, e4, e2⟩
      · subst e2
        unfold jRo
        rw [if_pos e1]
        exact hN L M2 ls hV hq2
      · subst e2
        unfold jRo
        rw [if_neg e1]
        exact jstep hO (fun p l e R s m args below meth c ce sl Qf H locs _ hx hb kk => lv_pop hx hb e4 (jcv_cat1 z v e3) kk) (hN L M2 ls hV hq2))
-- System.arraycopy of whole numbers
theorem jS_copy {K : jKm} {G : jCt} {pc p1 p2 p3 p4 p5 t ix : Nat} {a i b j n : jEx} (ha : jE K G 0 pc p1 8 a) (hi : jE K G 1 p1 p2 20 i) (hb : jE K G 2 p2 p3 8 b) (hj : jE K G 3 p3 p4 20 j) (hn : jE K G 4 p4 p5 20 n) (hd : decode (kmC K) p5 = .ok (.invokestatic ix, 3)) (hp : t = p5 + 3) (hw : Cond.methodLink (kmY K).cls ix arraycopyName ∈ tG ∧ Cond.native arraycopyName ∈ tG ∧ Cond.static arraycopyName ∈ tG ∧ Cond.initialized "java/lang/System" ∈ tG) (hr : 1 ≤ kmF K ∧ nativeFrameWords "java/lang/System" "arraycopy" 5 + 11 ≤ kmW K) : jS K G G pc t (tCopy a i b j n) := by
  subst hp
  intro z X hO L M N R ls hV hq hN hR
  refine ha z X hO L M _ ls [] hV (Nat.le_refl 0) hq (fun k M1 hk1 hq1 => ?_)
  refine hi z X hO L M1 _ ls [jcv z 8 k] hV (Nat.le_refl 1) hq1 (fun x M2 hx1 hq2 => ?_)
  refine hb z X hO L M2 _ ls [jcv z 20 x, jcv z 8 k] hV (Nat.le_refl 2) hq2 (fun h M3 hh1 hq3 => ?_)
  refine hj z X hO L M3 _ ls [jcv z 8 h, jcv z 20 x, jcv z 8 k] hV (Nat.le_refl 3) hq3 (fun y M4 hy1 hq4 => ?_)
  refine hn z X hO L M4 _ ls [jcv z 20 y, jcv z 8 h, jcv z 20 x, jcv z 8 k] hV (Nat.le_refl 4) hq4 (fun w M5 hw1 hq5 => ?_)
  obtain ⟨p, l, e, Rm, s, m, args, below, meth, c, ce, sl, Qf⟩ := X
  obtain ⟨hz, hKs, hx, hbb, hml, hown, hts, hfr, hwo, hce, hsl, -⟩ := jO_facts hO
  obtain ⟨⟨x0, y0, w0, hxw, hyw⟩, hq6⟩ := hq5
  intro H locs hI hL
  obtain ⟨k0, k1, k2⟩ := (jtkr (by omega)).mp hk1
  obtain ⟨h0, h1, h2⟩ := (jtkr (by omega)).mp hh1
  obtain ⟨cs, q1, q2, -, q3⟩ := hI.2.2.1 k k0 k1
  have q4 := q3 (by omega)
  obtain ⟨cd, r1, r2, -, r3⟩ := hI.2.2.1 h h0 h1
  have r4 := r3 (by omega)
  rw [k2] at q4
  rw [h2] at r4
  have hx1 := jtk20.mp hx1
  have hy1 := jtk20.mp hy1
  have hw1 := jtk20.mp hw1
  have ivk : ∀ q, jSv z M5 k q = .int (Int32.ofInt (M5 k q)) := fun q => jSv_i (by rw [s_isr_a k2 (by decide)]; rfl)
  have ivh : ∀ q, jSv z M5 h q = .int (Int32.ofInt (M5 h q)) := fun q => jSv_i (by rw [s_isr_a h2 (by decide)]; rfl)
  have q5 : cs = arrV (z.2.2.2 8) (s_len k).toNat (fun q => .int (Int32.ofInt (M5 k q))) := by rw [q4]; congr 1; funext q; exact ivk q
  have r5 : cd = arrV (z.2.2.2 8) (s_len h).toNat (fun q => .int (Int32.ofInt (M5 h q))) := by rw [r4]; congr 1; funext q; exact ivh q
  obtain ⟨-, ka, hka, ca, hkka⟩ := hKs.2.1 8 (by decide) (by decide) (s_len k).toNat (fun q => .int (Int32.ofInt (M5 k q)))
  have clx := clamp32 x0 hx1
  have cly := clamp32 y0 hy1
  have clw := clamp32 w0 hw1
  have G0 := hN L (jwR M5 h y w (fun q => M5 k (q - y + x))) ls hV hq6
  intro T hT X
  obtain ⟨vm', X', step⟩ := X.arraycopy hx hown (hts _ hw.1) (hts _ hw.2.1) (hts _ hw.2.2.1) (hts _ hw.2.2.2) (src := z.2.1 k) (dst := z.2.1 h) (cs := cs) (cd := cd) (srcPos := Int32.ofInt x) (destPos := Int32.ofInt y) (n := Int32.ofInt w) (ks := ka) (kd := ka) (sComp := ca) (dComp := ca) (sType := .int) (dType := .int) (by rw [hT]; exact q1) (by rw [hT]; exact r1)
    (fun _ h => by rw [q2] at h; cases h) (fun _ h => by rw [r2] at h; cases h) (fun h => by rw [q2] at h; cases h) (fun h => by rw [r2] at h; cases h) (by rw [q5]; exact hka) (by rw [r5]; exact hka) hkka hkka rfl (neg32 x0 hx1) (neg32 y0 hy1) (neg32 w0 hw1)
    (by rw [ir_to hx1, ir_to hw1, q4, arrV_size]; have := len32 k; omega)
    (by rw [ir_to hy1, ir_to hw1, r4, arrV_size]; have := len32 h; omega)
    (fun vm₁ _ i hi => by
      have hlt : (Int32.ofInt x).toNatClampNeg + i < (s_len k).toNat := by rw [clx]; rw [clw] at hi; omega
      have e : cs.slots.getD ((Int32.ofInt x).toNatClampNeg + i) .null = .int (Int32.ofInt (M5 k ((Int32.ofInt x).toNatClampNeg + i : Nat))) := by
        rw [q5, Array.getD_eq_getD_getElem?, arrV_read _ _ hlt]
        rfl
      rw [e]
      exact ⟨rfl, trivial⟩)
    (g := F0 m p5 ls [.int (Int32.ofInt w), .int (Int32.ofInt y), .ref (z.2.1 h), .int (Int32.ofInt x), .ref (z.2.1 k)]) rfl (by rw [hml]; exact hV.1) (rest := []) rfl (by rw [hbb]; exact hd) (Nat.le_trans hr.1 hfr) (by show 2 * 0 + 0 + (nativeFrameWords "java/lang/System" "arraycopy" 5 + 11) ≤ Rm.locals; have := hr.2; omega)
  have e1 : copied cs cd (Int32.ofInt x) (Int32.ofInt y) (Int32.ofInt w) = arrV (z.2.2.2 8) (s_len h).toNat (fun q => .int (Int32.ofInt (va_cpy (fun q : Nat => M5 k q) (fun q : Nat => M5 h q) x.toNat y.toNat w.toNat q))) := by
    have := va_copied (fun q : Int => .int (Int32.ofInt q)) (z.2.2.2 8) (z.2.2.2 8) (n0 := (s_len k).toNat) (n1 := (s_len h).toNat) (sp := x.toNat) (dp := y.toNat) (n := w.toNat) (fun q : Nat => M5 k q) (fun q : Nat => M5 h q) (by omega)
    rw [← this, q5, r5]
    show (arrV _ _ _).storeRun (Int32.ofInt y).toNatClampNeg ((arrV _ _ _).stretch (Int32.ofInt x).toNatClampNeg (Int32.ofInt w).toNatClampNeg) = _
    rw [clx, cly, clw]
  rw [e1] at X' step
  have hl : z.2.1 h < H.size := (Array.getElem?_eq_some_iff.mp r1).1
  have hval : ∀ q : Int, 0 ≤ q → jwR M5 h y w (fun q => M5 k (q - y + x)) h q = va_cpy (fun q : Nat => M5 k q) (fun q : Nat => M5 h q) x.toNat y.toNat w.toNat q.toNat := by
    intro q hq
    unfold jwR va_cpy
    by_cases hh : y ≤ q ∧ q < y + w
    · rw [if_pos ⟨rfl, hh⟩, if_pos (by omega)]
      show M5 k (q - y + x) = M5 k ((x.toNat + (q.toNat - y.toNat) : Nat) : Int)
      rw [show (q - y + x) = ((x.toNat + (q.toNat - y.toNat) : Nat) : Int) by omega]
    · rw [if_neg (fun g => hh g.2), if_neg (by omega)]
      show M5 h q = M5 h (q.toNat : Int)
      rw [Int.toNat_of_nonneg hq]
  have hset : (H.setIfInBounds (z.2.1 h) (arrV (z.2.2.2 8) (s_len h).toNat (fun q => .int (Int32.ofInt (va_cpy (fun q : Nat => M5 k q) (fun q : Nat => M5 h q) x.toNat y.toNat w.toNat q)))))[z.2.1 h]? = some (arrV (z.2.2.2 8) (s_len h).toNat (fun q => .int (Int32.ofInt (va_cpy (fun q : Nat => M5 k q) (fun q : Nat => M5 h q) x.toNat y.toNat w.toNat q)))) := by simp [Array.getElem?_setIfInBounds, hl]
  have hcell : (8 ≤ s_kind h → arrV (z.2.2.2 8) (s_len h).toNat (fun q => .int (Int32.ofInt (va_cpy (fun q : Nat => M5 k q) (fun q : Nat => M5 h q) x.toNat y.toNat w.toNat q))) = arrV (z.2.2.2 (s_kind h)) (s_len h).toNat (jSv z (jwR M5 h y w (fun q => M5 k (q - y + x))) h)) := by
    intro _
    rw [h2]
    congr 1
    funext q
    rw [jSv_i (by rw [s_isr_a h2 (by decide)]; rfl), hval q (by omega)]
    rfl
  have hrng : ∀ q, ir (jwR M5 h y w (fun q => M5 k (q - y + x)) h q) := by
    intro q
    unfold jwR
    split
    · exact hI.2.2.2 _ _
    · exact hI.2.2.2 _ _
  have hIn := jI_upd (M' := jwR M5 h y w (fun q => M5 k (q - y + x))) hI hz h0 h1 (fun a b g => if_neg (fun g2 => g g2.1)) (H' := H.setIfInBounds (z.2.1 h) (arrV (z.2.2.2 8) (s_len h).toNat (fun q => .int (Int32.ofInt (va_cpy (fun q : Nat => M5 k q) (fun q : Nat => M5 h q) x.toNat y.toNat w.toNat q))))) (by simp) (fun q hq => by simp [Array.getElem?_setIfInBounds, Ne.symm hq]) ⟨_, hset, rfl, fun g => by omega, hcell⟩ hrng
  obtain ⟨t, a1, b1⟩ := G0 _ (locs ++ (cs.stretch (Int32.ofInt x).toNatClampNeg (Int32.ofInt w).toNatClampNeg).zipIdx.map fun q => ⟨z.2.1 h, (Int32.ofInt y).toNatClampNeg + q.2⟩) hIn (by
    intro q hq
    rcases List.mem_append.mp hq with g | g
    · exact hL q g
    · obtain ⟨r, -, hr⟩ := List.mem_map.mp g
      rw [← hr]; exact hz.2 h h0 h1) _ (by rw [← hT]; rfl) X'
  exact ⟨t, step t a1, b1⟩
