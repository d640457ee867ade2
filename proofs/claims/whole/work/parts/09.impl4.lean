/-! code that keeps a word: the heap written, truths, deeds -/
theorem jG_put {K : jKm} {z : jZ} {X : jAct} {pc C j i : Nat} {k v : Int} {M : jMm} {ls : Array Slot} {st : List Value} (hO : jO K z X) (hd : decode (kmC K) pc = .ok (.putfield i, 3)) (hC : C < 8) (hN : j < c_N C) (hf : 20 ≤ s_fty C j) (hfin : (c_T C j).2.2.2 = false) (hw : Cond.fieldLink (kmY K).cls i (c_T C j).1 (c_T C j).2.1 (c_T C j).2.2.1 ∈ tG) (hk : jtk C k) (hv : ir v) (hb2 : s_fty C j = 22 → v = 0 ∨ v = 1)
    (kk : jG z X (pc + 3) ls st (jwr M k j v)) : jG z X pc ls (.int (Int32.ofInt v) :: .ref (z.2.1 k) :: st) M := by
  obtain ⟨k0, k1, k2⟩ := (jtkr (by omega)).mp hk
  obtain ⟨p, l, e, R, s, m, args, below, meth, c, ce, sl, Qf⟩ := X
  obtain ⟨hz, hKs, hx, hb, -, hown, hts, -⟩ := jO_facts hO
  intro H locs hI hL
  obtain ⟨cell, q1, q2, q3, -⟩ := hI.2.2.1 k k0 k1
  rw [k2] at q3
  obtain ⟨q4, q5⟩ := q3 hC
  have hap := va_apart (own := "") hts (tG_lay C hC) (fun j => (parseFieldDescriptor (c_T C j).2.2.1).getD .int) (fun j hj => by obtain ⟨t, ht⟩ := c_parse C hC j hj; rw [ht]; rfl) (c_apart C hC) hKs.1 (c_at hC)
  obtain ⟨hS, hfc, kC, hkC, hkind⟩ := hKs.1.1 C _ (c_at hC)
  obtain ⟨cf, kf, fi, f, hi, hsl⟩ := hS j hN
  have hlay := hts _ (tG_lay C hC _ (u_in_lay hN))
  unfold u_lay at hlay
  rw [if_neg (by rw [hfin]; decide)] at hlay
  have hst := (u_facts hfc hkC (u_lays hts (tG_lay C hC) hN) hi).1
  have hnf : narrow (if s_fty C j = 22 then .boolean else .int) (.int (Int32.ofInt v)) = .int (Int32.ofInt v) ∧ fits (if s_fty C j = 22 then .boolean else .int) (.int (Int32.ofInt v)) = true := by
    by_cases h : s_fty C j = 22
    · rw [if_pos h]
      rcases hb2 h with e | e <;> subst e <;> exact ⟨by decide, by decide⟩
    · rw [if_neg h]
      exact ⟨rfl, rfl⟩
  refine W.putK hx hb (f := f) ⟨hown, hts _ hw, ⟨_, _, _, hi⟩, hst⟩ (by rw [q4]; exact u_store hfc hkC hkind hlay hi (c_desc C hC j hN hf) hnf.1 hnf.2) q1 q2 (by rw [hsl]; exact k2_hasslot (q5 j hN)) rfl rfl hd (fun H' e1 e2 e3 => ?_)
  refine kk H' _ (jI_upd hI hz k0 k1 (fun a b h => jwr_ne M (fun q => h q.1)) e2 e3 ⟨_, e1, q2, fun _ => ⟨by rw [k2]; exact q4, fun j' hj' => ?_⟩, fun h => by omega⟩ (fun j' => ?_)) (fun q hq => ?_)
  · rw [k2] at hj' ⊢
    have h := t_set q5 hap hN (.int (Int32.ofInt v)) j' hj'
    rw [hsl, h]
    congr 1
    unfold updV
    by_cases e : j' = j
    · subst e
      rw [if_pos rfl, jSv_i (by rw [s_isr_f k2 hC]; exact decide_eq_false (by omega)), jwr_at]
    · rw [if_neg e]
      unfold jSv
      rw [jwr_ne M (fun q => e (by have := q.2; omega))]
  · by_cases e : j' = j
    · subst e; rw [jwr_at]; exact hv
    · rw [jwr_ne M (fun q => e q.2)]; exact hI.2.2.2 k j'
  · rcases List.mem_append.mp hq with h | h
    · exact hL q h
    · rw [List.mem_singleton.mp h]; exact hz.2 k k0 k1
theorem jS_put {K : jKm} {G : jCt} {pc p1 p2 t C j i d1 : Nat} {ji : Int} {o e : jEx} (ho : jE K G 0 pc p1 C o) (he : jE K G d1 p1 p2 20 e) (hd : decode (kmC K) p2 = .ok (.putfield i, 3)) (hp : t = p2 + 3) (hj : ji = (j : Int)) (hC : C < 8) (hN : j < c_N C) (hf : s_fty C j = 20) (hfin : (c_T C j).2.2.2 = false) (hw : Cond.fieldLink (kmY K).cls i (c_T C j).1 (c_T C j).2.1 (c_T C j).2.2.1 ∈ tG) (hd1 : d1 = 1) : jS K G G pc t (tPut o ji e) := by
  subst hp; subst hj; subst hd1
  intro z X hO L M N R ls hV hq hN' hR
  refine ho z X hO L M _ ls [] hV (Nat.le_refl 0) hq (fun k M1 hk1 hq1 => ?_)
  refine he z X hO L M1 _ ls _ hV (by have := cats_push (z := z) (T := C) (x := k) (Nat.le_refl (cats [])); rw [show kcat C = 1 by unfold kcat; rw [if_neg (by omega)]] at this; exact this) hq1 (fun v M2 hv hq2 => ?_)
  rw [jcvr (T := C) (x := k) (by omega)]
  exact jG_put hO hd hC hN (by omega) hfin hw hk1 hv (fun h => by omega) (hN' L _ ls hV hq2)
theorem jS_putZ {K : jKm} {G : jCt} {pc p1 p2 t C j i d1 : Nat} {ji : Int} {o e : jEx} (ho : jE K G 0 pc p1 C o) (he : jE K G d1 p1 p2 20 e) (hd : decode (kmC K) p2 = .ok (.putfield i, 3)) (hp : t = p2 + 3) (hj : ji = (j : Int)) (hC : C < 8) (hN : j < c_N C) (hf : s_fty C j = 22) (hfin : (c_T C j).2.2.2 = false) (hw : Cond.fieldLink (kmY K).cls i (c_T C j).1 (c_T C j).2.1 (c_T C j).2.2.1 ∈ tG) (hd1 : d1 = 1) : jS K G G pc t (tPutZ o ji e) := by
  subst hp; subst hj; subst hd1
  intro z X hO L M N R ls hV hq hN' hR
  refine ho z X hO L M _ ls [] hV (Nat.le_refl 0) hq (fun k M1 hk1 hq1 => ?_)
  refine he z X hO L M1 _ ls _ hV (by have := cats_push (z := z) (T := C) (x := k) (Nat.le_refl (cats [])); rw [show kcat C = 1 by unfold kcat; rw [if_neg (by omega)]] at this; exact this) hq1 (fun v M2 hv hq2 => ?_)
  rw [jcvr (T := C) (x := k) (by omega)]
  exact jG_put hO hd hC hN (by omega) hfin hw hk1 hv (fun _ => hq2.1) (hN' L _ ls hV hq2.2)
theorem jG_getf {K : jKm} {z : jZ} {X : jAct} {pc C j i : Nat} {k : Int} {M : jMm} {ls : Array Slot} {st : List Value} (hO : jO K z X) (hd : decode (kmC K) pc = .ok (.getfield i, 3)) (hC : C < 8) (hN : j < c_N C) (hf : 20 ≤ s_fty C j) (hw : Cond.fieldLink (kmY K).cls i (c_T C j).1 (c_T C j).2.1 (c_T C j).2.2.1 ∈ tG) (hk : jtk C k)
    (kk : ir (M k j) → jG z X (pc + 3) ls (.int (Int32.ofInt (M k j)) :: st) M) : jG z X pc ls (.ref (z.2.1 k) :: st) M := by
  obtain ⟨k0, k1, k2⟩ := (jtkr (by omega)).mp hk
  obtain ⟨p, l, e, R, s, m, args, below, meth, c, ce, sl, Qf⟩ := X
  obtain ⟨hz, hKs, hx, hb, -, hown, hts, -⟩ := jO_facts hO
  intro H locs hI hL
  obtain ⟨cell, q1, q2, q3, -⟩ := hI.2.2.1 k k0 k1
  rw [k2] at q3
  obtain ⟨q4, q5⟩ := q3 hC
  obtain ⟨hS, hfc, kC, hkC, hkind⟩ := hKs.1.1 C _ (c_at hC)
  obtain ⟨cf, kf, fi, f, hi, hsl⟩ := hS j hN
  refine W.getf hx hb hown (hts _ hw) hi (u_facts hfc hkC (u_lays hts (tG_lay C hC) hN) hi).1 q1 (by rw [q2]; exact fun h => by cases h) (v := jSv z M k j) ?_ rfl rfl hd ?_
  · rw [hsl]; exact q5 j hN
  · rw [jSv_i (by rw [s_isr_f k2 hC]; exact decide_eq_false (by omega))]
    exact kk (hI.2.2.2 k j) H locs hI hL
theorem jG_iald {K : jKm} {z : jZ} {X : jAct} {pc : Nat} {k x : Int} {M : jMm} {ls : Array Slot} {st : List Value} (hO : jO K z X) (hd : decode (kmC K) pc = .ok (.iaload, 1)) (hk : jtk 8 k) (hx1 : ir x) (hin : 0 ≤ x ∧ x < s_len k)
    (kk : ir (M k x) → jG z X (pc + 1) ls (.int (Int32.ofInt (M k x)) :: st) M) : jG z X pc ls (.int (Int32.ofInt x) :: .ref (z.2.1 k) :: st) M := by
  obtain ⟨k0, k1, k2⟩ := (jtkr (by omega)).mp hk
  obtain ⟨p, l, e, R, s, m, args, below, meth, c, ce, sl, Qf⟩ := X
  obtain ⟨hz, hKs, hx, hb, -, hown, hts, -⟩ := jO_facts hO
  intro H locs hI hL
  obtain ⟨cell, q1, q2, -, q3⟩ := hI.2.2.1 k k0 k1
  have q4 := q3 (by omega)
  rw [k2] at q4
  refine W.iald hx hb q1 (by rw [q4]; exact hKs.2.1 8 (by decide) (by decide) _ _) (by rw [q2]; exact fun h => by cases h) (v := jSv z M k x.toNat) ?_ ?_ rfl rfl hd ?_
  · rw [q4, arrV_size]; exact in32 hin.1 hin.2 hx1
  · rw [q4, clamp32 hin.1 hx1, arrV_read]
    have := hin; omega
  · rw [jSv_i (by rw [s_isr_a k2 (by decide)]; rfl), Int.toNat_of_nonneg hin.1]
    exact kk (hI.2.2.2 k x) H locs hI hL
theorem jG_iast {K : jKm} {z : jZ} {X : jAct} {pc : Nat} {k x v : Int} {M : jMm} {ls : Array Slot} {st : List Value} (hO : jO K z X) (hd : decode (kmC K) pc = .ok (.iastore, 1)) (hk : jtk 8 k) (hx1 : ir x) (hv : ir v) (hin : 0 ≤ x ∧ x < s_len k)
    (kk : jG z X (pc + 1) ls st (jwr M k x v)) : jG z X pc ls (.int (Int32.ofInt v) :: .int (Int32.ofInt x) :: .ref (z.2.1 k) :: st) M := by
  obtain ⟨k0, k1, k2⟩ := (jtkr (by omega)).mp hk
  obtain ⟨p, l, e, R, s, m, args, below, meth, c, ce, sl, Qf⟩ := X
  obtain ⟨hz, hKs, hx, hb, -, hown, hts, -⟩ := jO_facts hO
  intro H locs hI hL
  obtain ⟨cell, q1, q2, -, q3⟩ := hI.2.2.1 k k0 k1
  have q4 := q3 (by omega)
  refine W.iast hx hb q1 (by rw [q4, k2]; exact hKs.2.1 8 (by decide) (by decide) _ _) (by rw [q2]; exact fun h => by cases h) (by rw [q4, arrV_size]; exact in32 hin.1 hin.2 hx1) rfl rfl hd (fun H' e1 e2 e3 => ?_)
  refine kk H' _ (jI_upd hI hz k0 k1 (fun a b h => jwr_ne M (fun q => h q.1)) e2 e3 ⟨_, e1, q2, fun h => by omega, fun _ => ?_⟩ (fun j' => ?_)) (fun q hq => ?_)
  · rw [q4, arrV_store]
    congr 1
    funext j
    unfold updV
    rw [clamp32 hin.1 hx1]
    by_cases e : j = x.toNat
    · rw [if_pos e, jSv_i (by rw [s_isr_a k2 (by decide)]; rfl), e, Int.toNat_of_nonneg hin.1, jwr_at]
    · rw [if_neg e, jSv_i (by rw [s_isr_a k2 (by decide)]; rfl), jSv_i (by rw [s_isr_a k2 (by decide)]; rfl), jwr_ne M (fun q => e (by have := q.2; omega))]
  · by_cases e : j' = x
    · subst e; rw [jwr_at]; exact hv
    · rw [jwr_ne M (fun q => e q.2)]; exact hI.2.2.2 k j'
  · rcases List.mem_append.mp hq with h | h
    · exact hL q h
    · rw [List.mem_singleton.mp h]; exact hz.2 k k0 k1
/-- o.f op= e: o; dup; getfield; e; op; putfield -/
theorem jS_putO {K : jKm} {G : jCt} {pc p1 p2 p3 p4 t C j i d2 : Nat} {ji : Int} {o e : jEx} {b : jBo} (ho : jE K G 0 pc p1 C o) (hdup : decode (kmC K) p1 = .ok (.dup, 1)) (hg : decode (kmC K) (p1 + 1) = .ok (.getfield i, 3)) (hp2 : p2 = p1 + 4) (he : jE K G d2 p2 p3 20 e) (hb : jB K 1 p3 p4 20 20 20 b) (hd : decode (kmC K) p4 = .ok (.putfield i, 3)) (hp : t = p4 + 3) (hj : ji = (j : Int)) (hC : C < 8) (hN : j < c_N C) (hf : s_fty C j = 20) (hfin : (c_T C j).2.2.2 = false) (hw : Cond.fieldLink (kmY K).cls i (c_T C j).1 (c_T C j).2.1 (c_T C j).2.2.1 ∈ tG) (hd2 : d2 = 2) : jS K G G pc t (tPutO b o ji e) := by
  subst hp; subst hj; subst hd2; subst hp2
  intro z X hO L M N R ls hV hq hN' hR
  refine ho z X hO L M _ ls [] hV (Nat.le_refl 0) hq (fun k M1 hk1 hq1 => ?_)
  rw [jcvr (T := C) (x := k) (by omega)]
  refine jstep hO (pc' := p1 + 1) (ls' := ls) (st' := [.ref (z.2.1 k), .ref (z.2.1 k)]) (fun p l e R s m args below meth c ce sl Qf H locs _ hx hb k => lv_dup hx hb hdup rfl k) ?_
  refine jG_getf hO hg hC hN (by omega) hw hk1 (fun hr => ?_)
  refine he z X hO L M1 _ ls [.int (Int32.ofInt (M1 k j)), .ref (z.2.1 k)] hV (Nat.le_refl 2) hq1 (fun v M2 hv hq2 => ?_)
  refine hb z X hO M2 _ ls [.ref (z.2.1 k)] (M1 k j) v hV.1 (Nat.le_refl 1) hr hv hq2 (fun r hr2 hq3 => ?_)
  exact jG_put hO hd hC hN (by omega) hfin hw hk1 hr2 (fun h => by omega) (hN' L _ ls hV hq3)
theorem jS_ast {K : jKm} {G : jCt} {pc p1 p2 p3 t d1 d2 : Nat} {o i e : jEx} (ho : jE K G 0 pc p1 8 o) (hi : jE K G d1 p1 p2 20 i) (he : jE K G d2 p2 p3 20 e) (hd : decode (kmC K) p3 = .ok (.iastore, 1)) (hp : t = p3 + 1) (hd1 : d1 = 1) (hd2 : d2 = 2) : jS K G G pc t (tAst o i e) := by
  subst hp; subst hd1; subst hd2
  intro z X hO L M N R ls hV hq hN' hR
  refine ho z X hO L M _ ls [] hV (Nat.le_refl 0) hq (fun k M1 hk1 hq1 => ?_)
  refine hi z X hO L M1 _ ls [jcv z 8 k] hV (Nat.le_refl 1) hq1 (fun x M2 hx hq2 => ?_)
  refine he z X hO L M2 _ ls [jcv z 20 x, jcv z 8 k] hV (Nat.le_refl 2) hq2 (fun v M3 hv hq3 => ?_)
  exact jG_iast hO hd hk1 hx hv hq3.1 (hN' L _ ls hV hq3.2)
/-- o[i] op= e: o; i; dup2; iaload; e; op; iastore -/
theorem jS_astO {K : jKm} {G : jCt} {pc p1 p2 p3 p4 p5 t d1 d3 : Nat} {o i e : jEx} {b : jBo} (ho : jE K G 0 pc p1 8 o) (hi : jE K G d1 p1 p2 20 i) (hdup : decode (kmC K) p2 = .ok (.dup2, 1)) (hg : decode (kmC K) (p2 + 1) = .ok (.iaload, 1)) (hp3 : p3 = p2 + 2) (he : jE K G d3 p3 p4 20 e) (hb : jB K 2 p4 p5 20 20 20 b) (hd : decode (kmC K) p5 = .ok (.iastore, 1)) (hp : t = p5 + 1) (hd1 : d1 = 1) (hd3 : d3 = 3) : jS K G G pc t (tAstO b o i e) := by
  subst hp; subst hd1; subst hd3; subst hp3
  intro z X hO L M N R ls hV hq hN' hR
  refine ho z X hO L M _ ls [] hV (Nat.le_refl 0) hq (fun k M1 hk1 hq1 => ?_)
  refine hi z X hO L M1 _ ls [jcv z 8 k] hV (Nat.le_refl 1) hq1 (fun x M2 hx hq2 => ?_)
  refine jstep hO (pc' := p2 + 1) (ls' := ls) (st' := [.int (Int32.ofInt x), .ref (z.2.1 k), .int (Int32.ofInt x), .ref (z.2.1 k)]) (fun p l e R s m args below meth c ce sl Qf H locs _ hx hb k => lv_dup2_11 hx hb hdup rfl rfl k) ?_
  refine jG_iald hO hg hk1 hx hq2.1 (fun hr => ?_)
  refine he z X hO L M2 _ ls [.int (Int32.ofInt (M2 k x)), .int (Int32.ofInt x), .ref (z.2.1 k)] hV (Nat.le_refl 3) hq2.2 (fun v M3 hv hq3 => ?_)
  refine hb z X hO M3 _ ls [.int (Int32.ofInt x), .ref (z.2.1 k)] (M2 k x) v hV.1 (Nat.le_refl 2) hr hv hq3 (fun r hr2 hq4 => ?_)
  exact jG_iast hO hd hk1 hx hr2 hq2.1 (hN' L _ ls hV hq4)
theorem jV_set {K : jKm} {z : jZ} {G G' : jCt} {L : jLo} {ls ls' : Array Slot} {i T : Nat} {v : Int} (hV : jV K z G L ls) (hT : T ≠ 21) (hv : jtk T v) (hi : i < kmN K) (hs : storeLocals ls i (jcv z T v) = some ls') (hG : G' = (i, T) :: G.filter (fun q => q.1 != i)) (hno : G.all (fun q => q.2 != 21 || q.1 + 1 != i) = true) : jV K z G' (jup L i v) ls' := by
  subst hG
  have hc : (jcv z T v).category = 1 := jcv_cat1 z v hT
  have all : ∀ l, lv_has ls (kmN K) l → lv_has ls' (kmN K) ((i, jcv z T v) :: l.filter (fun q => !(q.1 == i) && !(q.1 + 1 == i && q.2.category == 2))) := by
    intro l hl
    obtain ⟨l2, e, h⟩ := lv_store1 hl hi hc
    rw [hs] at e
    cases e
    exact h
  have h0 := all [] ⟨hV.1, hV.2.1, fun _ h => by cases h⟩
  refine ⟨h0.1, h0.2.1, fun q hq => ?_⟩
  rcases List.mem_cons.mp hq with h | h
  · subst h
    refine ⟨?_, ?_⟩
    · rw [show jup L i v i = v from if_pos rfl]
      exact h0.2.2 _ List.mem_cons_self
    · rw [show jup L i v i = v from if_pos rfl]; exact hv
  · obtain ⟨h1, h2⟩ := List.mem_filter.mp h
    have hne : q.1 ≠ i := by simpa using h2
    obtain ⟨g1, g2⟩ := hV.2.2 q h1
    rw [show jup L i v q.1 = L q.1 from if_neg hne]
    refine ⟨?_, g2⟩
    have h3 := all [(q.1, jcv z q.2 (L q.1))] ⟨hV.1, hV.2.1, fun r hr => by rw [List.mem_singleton.mp hr]; exact g1⟩
    refine h3.2.2 (q.1, jcv z q.2 (L q.1)) (List.mem_cons_of_mem _ (List.mem_filter.mpr ⟨List.mem_singleton.mpr rfl, ?_⟩))
    have h4 := List.all_eq_true.mp hno q h1
    have hq1 : (q.1 == i) = false := by simpa using hne
    simp only [hq1, Bool.not_false, Bool.true_and, Bool.not_eq_true', Bool.and_eq_false_iff]
    simp only [Bool.or_eq_true, bne_iff_ne, ne_eq] at h4
    rcases h4 with h4 | h4
    · right
      rw [jcv_cat1 z _ h4]; rfl
    · left
      simpa using h4
theorem jS_istore_n {K : jKm} {G G2 : jCt} {pc p1 t i : Nat} {k : Fin 4} {e : jEx} (he : jE K G 0 pc p1 20 e) (hd : decode (kmC K) p1 = .ok (.istore_n k, 1)) (hik : (k : Nat) = i) (hp : t = p1 + 1) (hi : i < kmN K) (hG : G2 = (i, 20) :: G.filter (fun q => q.1 != i)) (hno : G.all (fun q => q.2 != 21 || q.1 + 1 != i) = true) : jS K G G2 pc t (tSet i e) := by
  subst hp
  intro z X hO L M N R ls hV hq hN' hR
  refine he z X hO L M _ ls [] hV (Nat.le_refl 0) hq (fun v M1 hv hq1 => ?_)
  obtain ⟨ls', hs, hh⟩ := lv_store1 (l := []) ⟨hV.1, hV.2.1, fun _ h => by cases h⟩ hi (jcv_cat1 z (T := 20) v (by omega))
  have h := hN' _ M1 ls' (jV_set (T := 20) hV (by omega) hv hi hs hG hno) hq1
  rw [jcv20] at hs ⊢
  refine jstep hO (fun p l e R s m args below meth c ce sl Qf H locs _ hx hb kk => ?_) h
  intro T1 hT1 X1
  obtain ⟨t, a, b⟩ := kk T1 hT1 X1
  refine ⟨t, ?_, b⟩
  subst hik
  jvm_step X1.here [X1.here.top, ↓top_set X1.here.top, hx, hb, hd, hs]
  exact a
theorem jS_istore {K : jKm} {G G2 : jCt} {pc p1 t i : Nat} {e : jEx} (he : jE K G 0 pc p1 20 e) (hd : decode (kmC K) p1 = .ok (.istore i, 2)) (hp : t = p1 + 2) (hi : i < kmN K) (hG : G2 = (i, 20) :: G.filter (fun q => q.1 != i)) (hno : G.all (fun q => q.2 != 21 || q.1 + 1 != i) = true) : jS K G G2 pc t (tSet i e) := by
  subst hp
  intro z X hO L M N R ls hV hq hN' hR
  refine he z X hO L M _ ls [] hV (Nat.le_refl 0) hq (fun v M1 hv hq1 => ?_)
  obtain ⟨ls', hs, hh⟩ := lv_store1 (l := []) ⟨hV.1, hV.2.1, fun _ h => by cases h⟩ hi (jcv_cat1 z (T := 20) v (by omega))
  have h := hN' _ M1 ls' (jV_set (T := 20) hV (by omega) hv hi hs hG hno) hq1
  rw [jcv20] at hs ⊢
  refine jstep hO (fun p l e R s m args below meth c ce sl Qf H locs _ hx hb kk => ?_) h
  intro T1 hT1 X1
  obtain ⟨t, a, b⟩ := kk T1 hT1 X1
  refine ⟨t, ?_, b⟩
  jvm_step X1.here [X1.here.top, ↓top_set X1.here.top, hx, hb, hd, hs]
  exact a
theorem jS_astore_n {K : jKm} {G G2 : jCt} {pc p1 t i : Nat} {k : Fin 4} {T : Nat} {e : jEx} (he : jE K G 0 pc p1 T e) (hd : decode (kmC K) p1 = .ok (.astore_n k, 1)) (hik : (k : Nat) = i) (hT : T < 20) (hp : t = p1 + 1) (hi : i < kmN K) (hG : G2 = (i, T) :: G.filter (fun q => q.1 != i)) (hno : G.all (fun q => q.2 != 21 || q.1 + 1 != i) = true) : jS K G G2 pc t (tSet i e) := by
  subst hp
  intro z X hO L M N R ls hV hq hN' hR
  refine he z X hO L M _ ls [] hV (Nat.le_refl 0) hq (fun v M1 hv hq1 => ?_)
  obtain ⟨ls', hs, hh⟩ := lv_store1 (l := []) ⟨hV.1, hV.2.1, fun _ h => by cases h⟩ hi (jcv_cat1 z (T := T) v (by omega))
  have h := hN' _ M1 ls' (jV_set (T := T) hV (by omega) hv hi hs hG hno) hq1
  rw [jcvr (T := T) (x := v) (by omega)] at hs ⊢
  refine jstep hO (fun p l e R s m args below meth c ce sl Qf H locs _ hx hb kk => ?_) h
  intro T1 hT1 X1
  obtain ⟨t, a, b⟩ := kk T1 hT1 X1
  refine ⟨t, ?_, b⟩
  subst hik
  jvm_step X1.here [X1.here.top, ↓top_set X1.here.top, hx, hb, hd, hs, Value.isRef]
  exact a
theorem jS_astore {K : jKm} {G G2 : jCt} {pc p1 t i : Nat} {T : Nat} {e : jEx} (he : jE K G 0 pc p1 T e) (hd : decode (kmC K) p1 = .ok (.astore i, 2)) (hT : T < 20) (hp : t = p1 + 2) (hi : i < kmN K) (hG : G2 = (i, T) :: G.filter (fun q => q.1 != i)) (hno : G.all (fun q => q.2 != 21 || q.1 + 1 != i) = true) : jS K G G2 pc t (tSet i e) := by
  subst hp
  intro z X hO L M N R ls hV hq hN' hR
  refine he z X hO L M _ ls [] hV (Nat.le_refl 0) hq (fun v M1 hv hq1 => ?_)
  obtain ⟨ls', hs, hh⟩ := lv_store1 (l := []) ⟨hV.1, hV.2.1, fun _ h => by cases h⟩ hi (jcv_cat1 z (T := T) v (by omega))
  have h := hN' _ M1 ls' (jV_set (T := T) hV (by omega) hv hi hs hG hno) hq1
  rw [jcvr (T := T) (x := v) (by omega)] at hs ⊢
  refine jstep hO (fun p l e R s m args below meth c ce sl Qf H locs _ hx hb kk => ?_) h
  intro T1 hT1 X1
  obtain ⟨t, a, b⟩ := kk T1 hT1 X1
  refine ⟨t, ?_, b⟩
  jvm_step X1.here [X1.here.top, ↓top_set X1.here.top, hx, hb, hd, hs, Value.isRef]
  exact a
theorem jS_iinc {K : jKm} {G : jCt} {pc t i : Nat} {n : Int} (hd : decode (kmC K) pc = .ok (.iinc i n, 3)) (hp : t = pc + 3) (hi : i < kmN K) (hm : (i, 20) ∈ G) (hno : G.all (fun q => q.1 != i || q.2 == 20) = true) (hno2 : G.all (fun q => q.2 != 21 || q.1 + 1 != i) = true) : jS K G G pc t (tInc i n) := by
  subst hp
  intro z X hO L M N R ls hV hq hN' hR
  have hg := (hV.2.2 _ hm).1
  obtain ⟨ls', hs, hh⟩ := lv_store1 (l := []) ⟨hV.1, hV.2.1, fun _ h => by cases h⟩ hi (jcv_cat1 z (T := 20) (L i + n) (by decide))
  have hV2 := jV_set (T := 20) hV (by decide) hq.1 hi hs rfl hno2
  have hV3 : jV K z G (jup L i (L i + n)) ls' := by
    refine ⟨hV2.1, hV2.2.1, fun q hqG => ?_⟩
    by_cases e : q.1 = i
    · have h4 := List.all_eq_true.mp hno q hqG
      have h5 : q.2 = 20 := by simpa [e] using h4
      have : q = (i, 20) := Prod.ext e h5
      rw [this]; exact hV2.2.2 _ List.mem_cons_self
    · exact hV2.2.2 q (List.mem_cons_of_mem _ (List.mem_filter.mpr ⟨hqG, by simpa using e⟩))
  have h := hN' _ M ls' hV3 hq.2
  refine jstep hO (fun p l e R s m args below meth c ce sl Qf H locs _ hx hb kk => ?_) h
  intro T1 hT1 X1
  obtain ⟨t, a, b⟩ := kk T1 hT1 X1
  refine ⟨t, ?_, b⟩
  dsimp only at hg
  rw [jcv20] at hg hs
  rw [Int32.ofInt_add] at hs
  jvm_step X1.here [X1.here.top, ↓top_set X1.here.top, hx, hb, hd, hg, hs]
  exact a
