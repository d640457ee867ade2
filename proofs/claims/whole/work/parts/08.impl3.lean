/-! code that keeps a word: the heap -/
set_option maxRecDepth 100000 in
theorem tG_lay : ∀ c, c < 8 → ∀ w ∈ u_ws (c_R c) (c_T c) (c_N c), w ∈ tG := by decide +kernel
theorem c_desc : ∀ c, c < 8 → ∀ j, j < c_N c → 20 ≤ s_fty c j → parseFieldDescriptor (c_T c j).2.2.1 = some (if s_fty c j = 22 then .boolean else .int) := by decide +kernel
theorem c_apart : ∀ c, c < 8 → ∀ a, a < c_N c → ∀ b, b < c_N c → a ≠ b → (c_T c a).2.1 ≠ (c_T c b).2.1 := by decide +kernel
theorem c_parse : ∀ c, c < 8 → ∀ j, j < c_N c → ∃ t, parseFieldDescriptor (c_T c j).2.2.1 = some t := by
  have h : ∀ c, c < 8 → ∀ j, j < c_N c → (parseFieldDescriptor (c_T c j).2.2.1).isSome = true := by decide +kernel
  intro c hc j hj
  exact Option.isSome_iff_exists.mp (h c hc j hj)
set_option maxRecDepth 100000 in
theorem s_wfN1 : ∀ k : Nat, k < 144 → s_kind (k : Int) < 8 → ∀ j : Nat, j < c_N (s_kind (k : Int)) → s_fty (s_kind (k : Int)) j < 20 → (0 ≤ s_rf k j ∧ s_rf k j < s_NM ∧ s_kind (s_rf k j) = s_fty (s_kind (k : Int)) j) := by decide +kernel
set_option maxRecDepth 100000 in
theorem s_wfN2 : ∀ k : Nat, k < 144 → s_aty (s_kind (k : Int)) < 20 → ∀ j : Nat, j < (s_len k).toNat → (0 ≤ s_rf k j ∧ s_rf k j < s_NM ∧ s_kind (s_rf k j) = s_aty (s_kind (k : Int))) := by decide +kernel
theorem s_wfN3 : ∀ k : Nat, k < 144 → s_kind (k : Int) < 13 := by decide +kernel
theorem s_wf {k : Int} (h0 : 0 ≤ k) (h1 : k < s_NM) : (s_kind k < 8 → ∀ j : Nat, j < c_N (s_kind k) → s_fty (s_kind k) j < 20 → 0 ≤ s_rf k j ∧ s_rf k j < s_NM ∧ s_kind (s_rf k j) = s_fty (s_kind k) j) ∧ (s_aty (s_kind k) < 20 → ∀ x : Int, 0 ≤ x → x < s_len k → 0 ≤ s_rf k x ∧ s_rf k x < s_NM ∧ s_kind (s_rf k x) = s_aty (s_kind k)) ∧ s_kind k < 13 := by
  obtain ⟨n, rfl⟩ := Int.eq_ofNat_of_zero_le h0
  have hn : n < 144 := by have : (n : Int) < 144 := h1; omega
  refine ⟨s_wfN1 n hn, fun ht x x0 x1 => ?_, s_wfN3 n hn⟩
  obtain ⟨j, rfl⟩ := Int.eq_ofNat_of_zero_le x0
  exact s_wfN2 n hn ht j (by omega)
theorem clamp32 {x : Int} (h0 : 0 ≤ x) (h : ir x) : (Int32.ofInt x).toNatClampNeg = x.toNat := by
  show (Int32.ofInt x).toInt.toNat = _
  rw [ir_to h]
theorem neg32 {x : Int} (h0 : 0 ≤ x) (h : ir x) : ¬ Int32.ofInt x < 0 := by
  intro q
  rw [show (0 : Int32) = Int32.ofInt 0 from rfl, lt32 h ⟨by decide, by decide⟩] at q
  omega
theorem in32 {x n : Int} (h0 : 0 ≤ x) (h1 : x < n) (h : ir x) : ¬ (Int32.ofInt x < 0 ∨ n.toNat ≤ (Int32.ofInt x).toNatClampNeg) := by
  rw [clamp32 h0 h]
  rintro (q | q)
  · exact neg32 h0 h q
  · omega
theorem jI_upd {z : jZ} {M M' : jMm} {H H' : Heap} {k : Int} (hI : jI z M H) (hz : jWz z) (h0 : 0 ≤ k) (h1 : k < s_NM) (hM : ∀ a b, a ≠ k → M' a b = M a b) (hs : H'.size = H.size) (ho : ∀ q : Nat, q ≠ z.2.1 k → H'[q]? = H[q]?) (hc : jCell z M' k H') (hr : ∀ j, ir (M' k j)) : jI z M' H' := by
  obtain ⟨a, b, c, d⟩ := hI
  refine ⟨by rw [hs]; exact a, fun q hq => ?_, fun h g0 g1 => ?_, fun h j => ?_⟩
  · rw [ho q (fun e => ?_)]
    · exact b q hq
    · have := hz.2 k h0 h1
      omega
  · by_cases e : h = k
    · subst e; exact hc
    · obtain ⟨cell, q1, q2, q3, q4⟩ := c h g0 g1
      have hv : jSv z M' h = jSv z M h := by
        funext j
        unfold jSv
        rw [hM h j e]
      refine ⟨cell, by rw [ho _ (fun x => e (hz.1 h k g0 g1 h0 h1 x))]; exact q1, q2, fun x => ⟨(q3 x).1, fun j hj => ?_⟩, fun x => ?_⟩
      · rw [hv]; exact (q3 x).2 j hj
      · rw [hv]; exact q4 x
  · by_cases e : h = k
    · subst e; exact hr j
    · rw [hM h j e]; exact d h j
theorem jwr_at (M : jMm) (k j v : Int) : jwr M k j v k j = v := if_pos ⟨rfl, rfl⟩
theorem jwr_ne (M : jMm) {k j v a b : Int} (h : ¬ (a = k ∧ b = j)) : jwr M k j v a b = M a b := if_neg h
theorem s_isr_f {k : Int} {C j : Nat} (h : s_kind k = C) (hC : C < 8) : s_isr k j = decide (s_fty C j < 20) := by
  unfold s_isr; rw [h, if_pos hC]
theorem s_isr_a {k : Int} {A j : Nat} (h : s_kind k = A) (hA : 8 ≤ A) : s_isr k j = decide (s_aty A < 20) := by
  unfold s_isr; rw [h, if_neg (by omega)]
theorem jSv_i {z : jZ} {M : jMm} {k : Int} {j : Nat} (h : s_isr k j = false) : jSv z M k j = .int (Int32.ofInt (M k j)) := by
  unfold jSv; rw [h]; rfl
theorem jSv_r {z : jZ} {M : jMm} {k : Int} {j : Nat} (h : s_isr k j = true) : jSv z M k j = .ref (z.2.1 (s_rf k j)) := by
  unfold jSv; rw [h]; rfl
-- fields
theorem jE_getf {K : jKm} {G : jCt} {d pc p1 p C j i : Nat} {ji : Int} {o : jEx} (ho : jE K G d pc p1 C o) (hd : decode (kmC K) p1 = .ok (.getfield i, 3)) (hp : p = p1 + 3) (hj : ji = (j : Int)) (hC : C < 8) (hN : j < c_N C) (hf : 20 ≤ s_fty C j) (hw : Cond.fieldLink (kmY K).cls i (c_T C j).1 (c_T C j).2.1 (c_T C j).2.2.1 ∈ tG) : jE K G d pc p 20 (xGf o ji) := by
  subst hp; subst hj
  intro z X hO L M Q ls st hV hc hq hk
  refine ho z X hO L M _ ls st hV hc hq (fun k M1 hk1 hq1 => ?_)
  obtain ⟨k0, k1, k2⟩ := (jtkr (by omega)).mp hk1
  rw [jcvr (T := C) (x := k) (by omega)]
  obtain ⟨p, l, e, R, s, m, args, below, meth, c, ce, sl, Qf⟩ := X
  obtain ⟨hz, hKs, hx, hb, -, hown, hts, -⟩ := jO_facts hO
  intro H locs hI hL
  obtain ⟨cell, q1, q2, q3, -⟩ := hI.2.2.1 k k0 k1
  rw [k2] at q3
  obtain ⟨q4, q5⟩ := q3 hC
  obtain ⟨hS, hfc, kC, hkC, hkind⟩ := hKs.1.1 C _ (c_at hC)
  obtain ⟨cf, kf, fi, f, hi, hsl⟩ := hS j hN
  refine W.getf hx hb hown (hts _ hw) hi (u_facts hfc hkC (u_lays hts (tG_lay C hC) hN) hi).1 q1 (by rw [q2]; exact fun h => by cases h) (v := jSv z M1 k j) ?_ rfl rfl hd ?_
  · rw [hsl]; exact q5 j hN
  · have hv : jSv z M1 k j = .int (Int32.ofInt (M1 k j)) := jSv_i (by rw [s_isr_f k2 hC]; exact decide_eq_false (by omega))
    rw [hv]
    exact hk _ M1 (hI.2.2.2 k j) hq1 H locs hI hL
theorem jE_getr {K : jKm} {G : jCt} {d pc p1 p C j i T : Nat} {ji : Int} {o : jEx} (ho : jE K G d pc p1 C o) (hd : decode (kmC K) p1 = .ok (.getfield i, 3)) (hp : p = p1 + 3) (hj : ji = (j : Int)) (hC : C < 8) (hN : j < c_N C) (hf : s_fty C j = T) (hT : T < 20) (hw : Cond.fieldLink (kmY K).cls i (c_T C j).1 (c_T C j).2.1 (c_T C j).2.2.1 ∈ tG) : jE K G d pc p T (xGr o ji) := by
  subst hp; subst hj
  intro z X hO L M Q ls st hV hc hq hk
  refine ho z X hO L M _ ls st hV hc hq (fun k M1 hk1 hq1 => ?_)
  obtain ⟨k0, k1, k2⟩ := (jtkr (by omega)).mp hk1
  rw [jcvr (T := C) (x := k) (by omega)]
  obtain ⟨p, l, e, R, s, m, args, below, meth, c, ce, sl, Qf⟩ := X
  obtain ⟨hz, hKs, hx, hb, -, hown, hts, -⟩ := jO_facts hO
  intro H locs hI hL
  obtain ⟨cell, q1, q2, q3, -⟩ := hI.2.2.1 k k0 k1
  rw [k2] at q3
  obtain ⟨q4, q5⟩ := q3 hC
  obtain ⟨hS, hfc, kC, hkC, hkind⟩ := hKs.1.1 C _ (c_at hC)
  obtain ⟨cf, kf, fi, f, hi, hsl⟩ := hS j hN
  have hwf := (s_wf k0 k1).1 (by omega) j (by rw [k2]; exact hN) (by rw [k2]; omega)
  rw [k2, hf] at hwf
  refine W.getf hx hb hown (hts _ hw) hi (u_facts hfc hkC (u_lays hts (tG_lay C hC) hN) hi).1 q1 (by rw [q2]; exact fun h => by cases h) (v := jSv z M1 k j) ?_ rfl rfl hd ?_
  · rw [hsl]; exact q5 j hN
  · have hv : jSv z M1 k j = .ref (z.2.1 (s_rf k j)) := jSv_r (by rw [s_isr_f k2 hC]; exact decide_eq_true (by omega))
    rw [hv]
    have h := hk _ M1 ((jtkr hT).mpr hwf) hq1 H locs hI hL
    rw [jcvr hT] at h
    exact h
-- arrays
theorem jE_iald {K : jKm} {G : jCt} {d pc p1 p2 p d2 : Nat} {o i : jEx} (ho : jE K G d pc p1 8 o) (hi : jE K G d2 p1 p2 20 i) (hd : decode (kmC K) p2 = .ok (.iaload, 1)) (hp : p = p2 + 1) (hd2 : d2 = d + 1) : jE K G d pc p 20 (xAl o i) := by
  subst hp; subst hd2
  intro z X hO L M Q ls st hV hc hq hk
  refine ho z X hO L M _ ls st hV hc hq (fun k M1 hk1 hq1 => ?_)
  refine hi z X hO L M1 _ ls _ hV (cats_push hc) hq1 (fun x M2 hx1 hq2 => ?_)
  obtain ⟨k0, k1, k2⟩ := (jtkr (by omega)).mp hk1
  rw [jcvr (T := 8) (x := k) (by omega)]
  obtain ⟨p, l, e, R, s, m, args, below, meth, c, ce, sl, Qf⟩ := X
  obtain ⟨hz, hKs, hx, hb, -, hown, hts, -⟩ := jO_facts hO
  intro H locs hI hL
  obtain ⟨cell, q1, q2, -, q3⟩ := hI.2.2.1 k k0 k1
  have q4 := q3 (by omega)
  rw [k2] at q4
  have hr := jtk20.mp hx1
  refine W.iald hx hb q1 (by rw [q4]; exact hKs.2.1 8 (by decide) (by decide) _ _) (by rw [q2]; exact fun h => by cases h) (v := jSv z M2 k x.toNat) ?_ ?_ rfl rfl hd ?_
  · rw [q4, arrV_size]; exact in32 hq2.1.1 hq2.1.2 hr
  · rw [q4, clamp32 hq2.1.1 hr, arrV_read]
    have := hq2.1; omega
  · have hv : jSv z M2 k x.toNat = .int (Int32.ofInt (M2 k x)) := by
      rw [jSv_i (by rw [s_isr_a k2 (by decide)]; rfl), Int.toNat_of_nonneg hq2.1.1]
    rw [hv]
    exact hk _ M2 (hI.2.2.2 k x) hq2.2 H locs hI hL
theorem jaty_ref : ∀ c, c < 13 → s_aty c < 20 → (jaty c).isReference = true ∧ 8 ≤ c := by decide +kernel
theorem jE_aald {K : jKm} {G : jCt} {d pc p1 p2 p A T d2 : Nat} {o i : jEx} (ho : jE K G d pc p1 A o) (hi : jE K G d2 p1 p2 20 i) (hd : decode (kmC K) p2 = .ok (.aaload, 1)) (hp : p = p2 + 1) (hA : A < 13) (hT : s_aty A = T) (hT2 : T < 20) (hd2 : d2 = d + 1) : jE K G d pc p T (xAr o i) := by
  subst hp; subst hd2
  intro z X hO L M Q ls st hV hc hq hk
  refine ho z X hO L M _ ls st hV hc hq (fun k M1 hk1 hq1 => ?_)
  have hk1c : kcat A = 1 := by unfold kcat; rw [if_neg (by omega)]
  refine hi z X hO L M1 _ ls _ hV (by have := cats_push (z := z) (T := A) (x := k) hc; omega) hq1 (fun x M2 hx1 hq2 => ?_)
  obtain ⟨k0, k1, k2⟩ := (jtkr (by omega)).mp hk1
  rw [jcvr (T := A) (x := k) (by omega)]
  obtain ⟨p, l, e, R, s, m, args, below, meth, c, ce, sl, Qf⟩ := X
  obtain ⟨hz, hKs, hx, hb, -, hown, hts, -⟩ := jO_facts hO
  intro H locs hI hL
  obtain ⟨cell, q1, q2, -, q3⟩ := hI.2.2.1 k k0 k1
  subst hT
  obtain ⟨hA1, hA2⟩ := jaty_ref A hA hT2
  have q4 := q3 (by omega)
  rw [k2] at q4
  have hr := jtk20.mp hx1
  have hwf := (s_wf k0 k1).2.1 (by rw [k2]; exact hT2) x hq2.1.1 hq2.1.2
  rw [k2] at hwf
  refine W.aald hx hb q1 (by rw [q4]; exact hKs.2.1 A hA2 hA _ _) hA1 (by rw [q2]; exact fun h => by cases h) (v := jSv z M2 k x.toNat) ?_ ?_ rfl rfl hd ?_
  · rw [q4, arrV_size]; exact in32 hq2.1.1 hq2.1.2 hr
  · rw [q4, clamp32 hq2.1.1 hr, arrV_read]
    have := hq2.1; omega
  · have hv : jSv z M2 k x.toNat = .ref (z.2.1 (s_rf k x)) := by
      rw [jSv_r (by rw [s_isr_a k2 hA2]; exact decide_eq_true hT2), Int.toNat_of_nonneg hq2.1.1]
    rw [hv]
    have h := hk _ M2 ((jtkr hT2).mpr hwf) hq2.2 H locs hI hL
    rw [jcvr hT2] at h
    exact h
theorem len32 (k : Int) : (s_len k).toNat = s_len k := by unfold s_len; omega
theorem s_lenN : ∀ k : Nat, k < 144 → s_len k ≤ 6000 := by decide +kernel
theorem jE_len {K : jKm} {G : jCt} {d pc p1 p A : Nat} {o : jEx} (ho : jE K G d pc p1 A o) (hd : decode (kmC K) p1 = .ok (.arraylength, 1)) (hp : p = p1 + 1) (hA : A < 13) (hA2 : 8 ≤ A) : jE K G d pc p 20 (xLen o) := by
  subst hp
  intro z X hO L M Q ls st hV hc hq hk
  refine ho z X hO L M _ ls st hV hc hq (fun k M1 hk1 hq1 => ?_)
  obtain ⟨k0, k1, k2⟩ := (jtkr (by omega)).mp hk1
  rw [jcvr (T := A) (x := k) (by omega)]
  obtain ⟨p, l, e, R, s, m, args, below, meth, c, ce, sl, Qf⟩ := X
  obtain ⟨hz, hKs, hx, hb, -, hown, hts, -⟩ := jO_facts hO
  intro H locs hI hL
  obtain ⟨cell, q1, q2, -, q3⟩ := hI.2.2.1 k k0 k1
  have q4 := q3 (by omega)
  rw [k2] at q4
  have hl : s_len k ≤ 6000 := by
    obtain ⟨n, rfl⟩ := Int.eq_ofNat_of_zero_le k0
    exact s_lenN n (by have : (n : Int) < 144 := k1; omega)
  have hl0 := len32 k
  refine W.alen hx hb (n := Int32.ofInt (s_len k)) q1 (by rw [q4]; exact hKs.2.1 A hA2 hA _ _) ?_ rfl rfl hd ?_
  · rw [q4, arrV_size]
    show Int32.ofNat _ = _
    rw [← hl0]; rfl
  · exact hk _ M1 ⟨by omega, by omega⟩ hq1 H locs hI hL
