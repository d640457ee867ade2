/-! the law makes its two objects -/
set_option maxRecDepth 100000 in
theorem cn_L_7 : Cond.classLink "StairsThatGoLaw" 7 (c_R 6) ∈ tG ∧ Cond.instantiable (c_R 6) (c_N 6) ∈ tG ∧ Cond.initialized (c_R 6) ∈ tG := ⟨tGm (i := 69) (by decide +kernel) (by decide +kernel), tGm (i := 70) (by decide +kernel) (by decide +kernel), tGm (i := 53) (by decide +kernel) (by decide +kernel)⟩
set_option maxRecDepth 100000 in
theorem cn_L_10 : Cond.classLink "StairsThatGoLaw" 10 (c_R 7) ∈ tG ∧ Cond.instantiable (c_R 7) (c_N 7) ∈ tG ∧ Cond.initialized (c_R 7) ∈ tG := ⟨tGm (i := 884) (by decide +kernel) (by decide +kernel), tGm (i := 885) (by decide +kernel) (by decide +kernel), tGm (i := 63) (by decide +kernel) (by decide +kernel)⟩
set_option maxRecDepth 100000 in
theorem ml_L_9 : Cond.methodLink "StairsThatGoLaw" 9 yX6_init ∈ tG := tGm (i := 71) (by decide +kernel) (by decide +kernel)
set_option maxRecDepth 100000 in
theorem ml_L_12 : Cond.methodLink "StairsThatGoLaw" 12 yX7_init ∈ tG := tGm (i := 886) (by decide +kernel) (by decide +kernel)
theorem yD_astore_n {K : jKm} {G G2 : jCt} {pc p1 t i : Nat} {k : Fin 4} {T : Nat} {e : yEx} (he : yE K G 0 pc p1 T e) (hd : decode (kmC K) p1 = .ok (.astore_n k, 1)) (hik : (k : Nat) = i) (hT : T < 20) (hp : t = p1 + 1) (hi : i < kmN K) (hG : G2 = (i, T) :: G.filter (fun q => q.1 != i)) (hno : G.all (fun q => q.2 != 21 || q.1 + 1 != i) = true) : yD K G G2 pc t (uSet i e) := by
  subst hp
  intro z X hO L s o L' s' ls hV hq hN hR
  obtain ⟨⟨v, s1⟩, hq1, hq2⟩ := Option.bind_eq_some_iff.mp hq
  have hq3 : (none, jup L i v, s1) = (o, L', s') := Option.some.inj hq2
  cases hq3
  refine he z X hO L s v _ ls [] hV (Nat.le_refl 0) hq1 (fun hv => ?_)
  obtain ⟨ls', hs, hh⟩ := lv_store1 (l := []) ⟨hV.1, hV.2.1, fun _ h => by cases h⟩ hi (jcv_cat1 z (T := T) v (by omega))
  have h := hN rfl ls' (jV_set (T := T) hV (by omega) hv hi hs hG hno)
  rw [jcvr (T := T) (x := v) (by omega)] at hs ⊢
  refine ystep hO (fun p l e R s m args below meth c ce sl Qf H locs _ hx hb kk => ?_) h
  intro T1 hT1 X1
  obtain ⟨t, a, b⟩ := kk T1 hT1 X1
  refine ⟨t, ?_, b⟩
  subst hik
  jvm_step X1.here [X1.here.top, ↓top_set X1.here.top, hx, hb, hd, hs, Value.isRef]
  exact a
def y_begin : yDo := uSeq (uSet 1 (yNew 6 113 1202 yf_X6_init (yBl 6) ysN)) (uSet 2 (yNew 7 29 6999 yf_X7_init (yBl 7) ysN))
theorem y_begin_D {L : Nat} {xs : Nat → Int32} : yD (k_law L xs) [(0, 28)] [(2, 7), (1, 6), (0, 28)] 0 16 y_begin :=
  yD_seq (p := 8) (G1 := [(1, 6), (0, 28)])
    (yD_astore_n (T := 6) (i := 1) (p1 := 7) (t := 8) (yE_new (p1 := 4) (p2 := 4) (p := 7) (d2 := 2) dL_law_0 dL_law_3 rfl yEs_nil dL_law_4 rfl ym_X6_init rfl (tyC rfl) rfl rfl cc_X6_init.1 rfl rfl cc_X6_init.2 ml_L_9 cn_L_7 (roC rfl) (tyE rfl) rfl) dL_law_7 rfl (tyD rfl) rfl (by show 1 < 4; decide) rfl rfl)
    (yD_astore_n (T := 7) (i := 2) (p1 := 15) (t := 16) (yE_new (p1 := 12) (p2 := 12) (p := 15) (d2 := 2) dL_law_8 dL_law_11 rfl yEs_nil dL_law_12 rfl ym_X7_init rfl (tyC rfl) rfl rfl cc_X7_init.1 rfl rfl cc_X7_init.2 ml_L_12 cn_L_10 (roC rfl) (tyE rfl) rfl) dL_law_15 rfl (tyD rfl) rfl (by show 2 < 4; decide) rfl rfl)
/-- what the law has made -/
def y_end : Option (Option Int × jLo × yS) := y_begin (fun i => if i = 0 then 148 else 0) ([], 600000, 7302250)
def y_ok1 : Bool := match y_end with | some (none, L, (A, _, _)) => decide (L 1 = 0) && (decide (L 2 = 114) && (decide (L 0 = 148) && decide (A.length = 144))) | _ => false
set_option maxRecDepth 1000000 in
theorem y_ok1_t : y_ok1 = true := by decide +kernel
def y_A : yA := match y_end with | some (_, _, (A, _, _)) => A | _ => []
def y_c : Nat × Nat := match y_end with | some (_, _, (_, c)) => c | _ => (0, 0)
theorem y_end_is : ∃ L : jLo, y_end = some (none, L, (y_A, y_c.1, y_c.2)) ∧ L 1 = 0 ∧ L 2 = 114 ∧ L 0 = 148 ∧ y_A.length = 144 := by
  have h := y_ok1_t
  unfold y_ok1 at h
  unfold y_A y_c
  cases hE : y_end with
  | none => rw [hE] at h; cases h
  | some q =>
    obtain ⟨o, L, A, c, sl⟩ := q
    rw [hE] at h
    cases o with
    | some v => cases h
    | none =>
      simp only [Bool.and_eq_true, decide_eq_true_eq] at h
      exact ⟨L, rfl, h.1, h.2.1, h.2.2.1, h.2.2.2⟩
def y_rowOk (k : Int) (C : Nat) : Nat → List Int → Bool
  | _, [] => true
  | j, v :: vs => (if yRf C j = true then decide (s_rf k j = v) && decide (0 ≤ v) else true) && y_rowOk k C (j + 1) vs
def y_cellOk (k : Nat) (q : Nat × List Int) : Bool := decide (q.1 = s_kind (k : Int)) && ((if q.1 < 8 then decide (q.2.length = c_N q.1) else decide ((q.2.length : Int) = s_len (k : Int))) && y_rowOk (k : Int) q.1 0 q.2)
def y_allOk : Nat → yA → Bool
  | _, [] => true
  | k, q :: A => y_cellOk k q && y_allOk (k + 1) A
set_option maxRecDepth 1000000 in
theorem y_A_ok : y_allOk 0 y_A = true := by decide +kernel
theorem y_allOk_at : ∀ (A : yA) (n k : Nat) (q : Nat × List Int), y_allOk n A = true → A[k]? = some q → y_cellOk (n + k) q = true
  | [], _, _, _, _, h => by cases h
  | a :: A, n, 0, q, h, hk => by
    have hk : some a = some q := hk
    unfold y_allOk at h
    rw [Bool.and_eq_true] at h
    rw [← Option.some.inj hk]; exact h.1
  | a :: A, n, k + 1, q, h, hk => by
    have hk : A[k]? = some q := hk
    unfold y_allOk at h
    rw [Bool.and_eq_true] at h
    have := y_allOk_at A (n + 1) k q h.2 hk
    rwa [show n + 1 + k = n + (k + 1) by omega] at this
theorem y_rowOk_at : ∀ (vs : List Int) (k : Int) (C n j : Nat), y_rowOk k C n vs = true → j < vs.length → yRf C (n + j) = true → s_rf k ((n + j : Nat) : Int) = vs.getD j 0 ∧ 0 ≤ vs.getD j 0
  | [], _, _, _, _, _, h, _ => by cases h
  | v :: vs, k, C, n, 0, h, _, hr => by
    unfold y_rowOk at h
    rw [Bool.and_eq_true] at h
    have h1 := h.1
    have hr : yRf C n = true := hr
    rw [if_pos hr, Bool.and_eq_true, decide_eq_true_eq, decide_eq_true_eq] at h1
    exact h1
  | v :: vs, k, C, n, j + 1, h, hl, hr => by
    unfold y_rowOk at h
    rw [Bool.and_eq_true] at h
    have hl : j + 1 < vs.length + 1 := hl
    have e : n + 1 + j = n + (j + 1) := by omega
    have := y_rowOk_at vs k C (n + 1) j h.2 (by omega) (by rw [e]; exact hr)
    rw [e] at this
    exact this
def yMem (A : yA) : jMm := fun k j => if 0 ≤ k ∧ 0 ≤ j then ((A[k.toNat]?).getD (0, [])).2.getD j.toNat 0 else 0
theorem y_memk {A : yA} {k : Nat} {q : Nat × List Int} (h : A[k]? = some q) (j : Nat) : yMem A (k : Int) (j : Int) = q.2.getD j 0 := by
  unfold yMem
  rw [if_pos ⟨by omega, by omega⟩]
  simp [h]
theorem arrV_same {c : ClassId} {n : Nat} {f g : Nat → Value} (h : ∀ j, j < n → f j = g j) : arrV c n f = arrV c n g := by
  unfold arrV
  congr 1
  apply Array.ext
  · simp
  · intro i h1 h2
    simp only [Array.getElem_ofFn]
    exact h i (by simpa using h1)
theorem y_turn {z : jZ} {A : yA} {H : Heap} (hz : yWz z) (hok : y_allOk 0 A = true) (hl : A.length = 144) (h : yI z A H) : jI z (yMem A) H := by
  obtain ⟨a, b, c, d⟩ := h
  refine ⟨by omega, b, fun k k0 k1 => ?_, fun k j => ?_⟩
  · have k1 : k < 144 := k1
    have hk : k.toNat < A.length := by omega
    have hq : A[k.toNat]? = some A[k.toNat] := List.getElem?_eq_getElem hk
    generalize A[k.toNat] = q at hq
    have e : ((k.toNat : Nat) : Int) = k := by omega
    have hc := y_allOk_at A 0 k.toNat q hok hq
    rw [Nat.zero_add] at hc
    unfold y_cellOk at hc
    simp only [Bool.and_eq_true, decide_eq_true_eq] at hc
    obtain ⟨hkind, hlen, hrow⟩ := hc
    rw [e] at hkind hlen hrow
    obtain ⟨cell, q1, q2, q3, q4⟩ := c _ q hq
    have had : z.2.1 k = z.2.2.1.size + k.toNat := by have := hz k.toNat (by omega); rwa [e] at this
    have hsv : ∀ j, j < q.2.length → ySv z q.1 j (q.2.getD j 0) = jSv z (yMem A) k j := fun j hj => by
      have er : yRf q.1 j = s_isr k j := by unfold yRf s_isr; rw [← hkind]
      unfold jSv
      cases hr : yRf q.1 j with
      | true =>
        obtain ⟨p1, p2⟩ := y_rowOk_at q.2 k q.1 0 j hrow hj (by rw [Nat.zero_add]; exact hr)
        rw [Nat.zero_add] at p1
        rw [ySv_r hr p2, ← er, hr, if_pos rfl, p1]
      | false =>
        have hm := y_memk hq j
        rw [e] at hm
        rw [ySv_i hr, ← er, hr, hm]
        rfl
    refine ⟨cell, by rw [had]; exact q1, q2, fun h8 => ?_, fun h8 => ?_⟩
    · rw [← hkind] at h8 ⊢
      obtain ⟨r1, r2, r3⟩ := q3 h8
      exact ⟨r1, fun j hj => by rw [r3 j hj, hsv j (by omega)]⟩
    · rw [← hkind] at h8 ⊢
      rw [q4 h8]
      rw [if_neg (by omega), decide_eq_true_eq] at hlen
      rw [← hlen, Int.toNat_natCast]
      exact arrV_same hsv
  · unfold yMem
    by_cases hc : 0 ≤ k ∧ 0 ≤ j
    · rw [if_pos hc]
      cases hq : A[k.toNat]? with
      | none => exact ⟨by simp, by simp⟩
      | some q =>
        rw [Option.getD_some, List.getD_eq_getElem?_getD]
        cases hv : q.2[j.toNat]? with
        | none => exact ⟨by simp, by simp⟩
        | some v => exact (d _ q hq).2 v (List.mem_of_getElem? hv)
    · rw [if_neg hc]; exact ⟨by decide, by decide⟩
theorem y_wz {z : jZ} (hz : yWz z) : jWz z := by
  have e : ∀ k : Int, 0 ≤ k → k < s_NM → z.2.1 k = z.2.2.1.size + k.toNat := fun k k0 k1 => by
    have k1 : k < 144 := k1
    have := hz k.toNat (by omega)
    rwa [show ((k.toNat : Nat) : Int) = k by omega] at this
  refine ⟨fun k h k0 k1 h0 h1 he => ?_, fun k k0 k1 => ?_⟩
  · rw [e k k0 k1, e h h0 h1] at he; omega
  · rw [e k k0 k1]; omega
