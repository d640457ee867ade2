/-! texts: what is skipped, what a number is worth; the loops that do it -/
def skw (c : Int → Bool) : Nat → Int → Int
  | 0, a => a
  | r + 1, a => if c a = true then skw c r (a + 1) else a
theorem skw_n {c : Int → Bool} {r : Nat} {a : Int} (h : ¬ c a = true) : skw c r a = a := by
  cases r with
  | zero => rfl
  | succ r => exact if_neg h
theorem skw_y {c : Int → Bool} {r : Nat} {a : Int} (h : c a = true) : skw c (r + 1) a = skw c r (a + 1) := if_pos h
theorem skw_b {c : Int → Bool} : ∀ (r : Nat) (a : Int), a ≤ skw c r a ∧ skw c r a ≤ a + r ∧ (skw c r a < a + r → ¬ c (skw c r a) = true)
  | 0, a => ⟨Int.le_refl _, by show a ≤ a + 0; omega, fun h => by have : a < a + 0 := h; omega⟩
  | r + 1, a => by
    by_cases h : c a = true
    · rw [skw_y h]
      have k := skw_b (c := c) r (a + 1)
      exact ⟨by omega, by omega, fun z => k.2.2 (by omega)⟩
    · rw [skw_n h]
      exact ⟨Int.le_refl _, by omega, fun _ => h⟩
def vl (c : Int → Bool) (st : Int → Int → Int) : Nat → Int → Int → Int
  | 0, _, v => v
  | r + 1, a, v => if c a = true then vl c st r (a + 1) (st a v) else v
theorem vl_n {c : Int → Bool} {st : Int → Int → Int} {r : Nat} {a v : Int} (h : ¬ c a = true) : vl c st r a v = v := by
  cases r with
  | zero => rfl
  | succ r => exact if_neg h
theorem vl_y {c : Int → Bool} {st : Int → Int → Int} {r : Nat} {a v : Int} (h : c a = true) : vl c st (r + 1) a v = vl c st r (a + 1) (st a v) := if_pos h
theorem jw2 {M : jMm} {k j x y : Int} : jwr (jwr M k j x) k j y = jwr M k j y := by
  funext a b
  by_cases h : a = k ∧ b = j
  · rw [jw1 h, jw1 h]
  · rw [jw0 (by omega), jw0 (by omega), jw0 (by omega)]
theorem jwS {M : jMm} {k j x : Int} (e : M k j = x) : jwr M k j x = M := by
  funext a b
  by_cases h : a = k ∧ b = j
  · rw [jw1 h, h.1, h.2, e]
  · rw [jw0 (by omega)]
theorem sk_rule {o fp fl T a : Int} {c : Int → Bool} {C : jCn} {L : jLo} {M : jMm} {N : jLo → jMm → Prop} {R : Int → jMm → Prop} (l0 : L 0 = o) (hT : M o fl = T) (hne : fl ≠ fp) (ha : M o fp = a) (a0 : 0 ≤ a) (aT : a ≤ T) (T1 : T ≤ 80)
    (hC : ∀ x, 0 ≤ x → x < T → ∀ T' F' : jMm → Prop, C L (jwr M o fp x) T' F' = ((c x = true → T' (jwr M o fp x)) ∧ (¬ c x = true → F' (jwr M o fp x))))
    (hN : N L (jwr M o fp (skw c (T - a).toNat a))) : tWh (kAnd (kR (fun x y => x < y) (xGf (xV 0) fp) (xGf (xV 0) fl)) C) (tPutO boAdd (xV 0) fp (xC 1)) L M N R := by
  refine wh_rule (fun k L' M' => L' = L ∧ ∃ x, 0 ≤ x ∧ x ≤ T ∧ M' = jwr M o fp x ∧ k = (T - x).toNat ∧ skw c k x = skw c (T - a).toNat a) ?_ (k := (T - a).toNat) ⟨rfl, a, a0, aT, (jwS ha).symm, rfl, rfl⟩
  rintro k L' M' ⟨hL, x, x0, xT, hM, hk, hs⟩ N' hN'
  subst hL
  subst hM
  have ex : jwr M o fp x o fp = x := jw1 ⟨rfl, rfl⟩
  have eT : jwr M o fp x o fl = T := by rw [jw0 (.inr hne)]; exact hT
  show (jwr M o fp x (L' 0) fp < jwr M o fp x (L' 0) fl → C L' (jwr M o fp x) (fun M1 => tPutO boAdd (xV 0) fp (xC 1) L' M1 N' R) (fun M1 => N L' M1)) ∧ (¬ jwr M o fp x (L' 0) fp < jwr M o fp x (L' 0) fl → N L' (jwr M o fp x))
  rw [l0, ex, eT]
  refine ⟨fun hx => ?_, fun hx => ?_⟩
  · rw [hC x x0 hx]
    obtain ⟨r, hr⟩ : ∃ r, k = r + 1 := ⟨k - 1, by omega⟩
    subst hr
    refine ⟨fun hc => ?_, fun hc => ?_⟩
    · show ir (jwr M o fp x (L' 0) fp + 1) ∧ N' L' (jwr (jwr M o fp x) (L' 0) fp (jwr M o fp x (L' 0) fp + 1))
      rw [l0, ex]
      exact ⟨⟨by omega, by omega⟩, hN' r _ _ (by omega) ⟨rfl, x + 1, by omega, by omega, jw2, by omega, by rw [← hs, skw_y hc]⟩⟩
    · rw [skw_n hc] at hs
      rw [hs]; exact hN
  · have : k = 0 := by omega
    subst this
    have hs : x = _ := hs
    rw [hs]; exact hN
theorem nm_rule {o fp fl T a v0 : Int} {i : Nat} {c : Int → Bool} {st : Int → Int → Int} {P : Int → Prop} {C : jCn} {e : jEx} {L : jLo} {M : jMm} {N : jLo → jMm → Prop} {R : Int → jMm → Prop} (i0 : i ≠ 0) (l0 : L 0 = o) (li : L i = v0) (hT : M o fl = T) (hne : fl ≠ fp) (ha : M o fp = a) (a0 : 0 ≤ a) (aT : a ≤ T) (T1 : T ≤ 80) (hP0 : P v0)
    (hC : ∀ (L' : jLo) (x : Int), L' 0 = o → 0 ≤ x → x < T → ∀ T' F' : jMm → Prop, C L' (jwr M o fp x) T' F' = ((c x = true → T' (jwr M o fp x)) ∧ (¬ c x = true → F' (jwr M o fp x))))
    (hE : ∀ (L' : jLo) (x v : Int), L' 0 = o → L' i = v → P v → 0 ≤ x → x < T → c x = true → P (st x v) ∧ ∀ Q : Int → jMm → Prop, e L' (jwr M o fp x) Q = Q (st x v) (jwr M o fp x))
    (hN : ∀ L' : jLo, (∀ q, q ≠ i → L' q = L q) → L' i = vl c st (T - a).toNat a v0 → N L' (jwr M o fp (skw c (T - a).toNat a))) : tWh (kAnd (kR (fun x y => x < y) (xGf (xV 0) fp) (xGf (xV 0) fl)) C) (tSeq (tSet i e) (tPutO boAdd (xV 0) fp (xC 1))) L M N R := by
  refine wh_rule (fun k L' M' => (∀ q, q ≠ i → L' q = L q) ∧ ∃ x v, 0 ≤ x ∧ x ≤ T ∧ M' = jwr M o fp x ∧ L' i = v ∧ P v ∧ k = (T - x).toNat ∧ skw c k x = skw c (T - a).toNat a ∧ vl c st k x v = vl c st (T - a).toNat a v0) ?_ (k := (T - a).toNat) ⟨fun _ _ => rfl, a, v0, a0, aT, (jwS ha).symm, li, hP0, rfl, rfl, rfl⟩
  rintro k L' M' ⟨hL, x, v, x0, xT, hM, hv, hP, hk, hs, hw⟩ N' hN'
  subst hM
  have l0' : L' 0 = o := (hL 0 (fun z => i0 z.symm)).trans l0
  have ex : jwr M o fp x o fp = x := jw1 ⟨rfl, rfl⟩
  have eT : jwr M o fp x o fl = T := by rw [jw0 (.inr hne)]; exact hT
  show (jwr M o fp x (L' 0) fp < jwr M o fp x (L' 0) fl → C L' (jwr M o fp x) (fun M1 => (tSeq (tSet i e) (tPutO boAdd (xV 0) fp (xC 1))) L' M1 N' R) (fun M1 => N L' M1)) ∧ (¬ jwr M o fp x (L' 0) fp < jwr M o fp x (L' 0) fl → N L' (jwr M o fp x))
  rw [l0', ex, eT]
  refine ⟨fun hx => ?_, fun hx => ?_⟩
  · rw [hC L' x l0' x0 hx]
    obtain ⟨r, hr⟩ : ∃ r, k = r + 1 := ⟨k - 1, by omega⟩
    subst hr
    refine ⟨fun hc => ?_, fun hc => ?_⟩
    · obtain ⟨hP', he⟩ := hE L' x v l0' hv hP x0 hx hc
      refine sq_ (st_v (v := st x v) he ?_)
      have l0'' : jup L' i (st x v) 0 = o := by
        show (if 0 = i then st x v else L' 0) = o
        rw [if_neg (fun z => i0 z.symm)]; exact l0'
      show ir (jwr M o fp x (jup L' i (st x v) 0) fp + 1) ∧ N' (jup L' i (st x v)) (jwr (jwr M o fp x) (jup L' i (st x v) 0) fp (jwr M o fp x (jup L' i (st x v) 0) fp + 1))
      rw [l0'', ex]
      refine ⟨⟨by omega, by omega⟩, hN' r _ _ (by omega) ⟨fun q hq => ?_, x + 1, st x v, by omega, by omega, jw2, ?_, hP', by omega, by rw [← hs, skw_y hc], by rw [← hw, vl_y hc]⟩⟩
      · show (if q = i then st x v else L' q) = L q
        rw [if_neg hq]; exact hL q hq
      · show (if i = i then st x v else L' i) = st x v
        rw [if_pos rfl]
    · rw [skw_n hc] at hs
      rw [vl_n hc] at hw
      rw [hs]; exact hN L' hL (hv.trans hw)
  · have : k = 0 := by omega
    subst this
    have hs : x = _ := hs
    have hw : v = _ := hw
    rw [hs]; exact hN L' hL (hv.trans hw)
theorem pc_i {P P' A B : Prop} (h : P ↔ P') : ((P → A) ∧ (¬ P → B)) = ((P' → A) ∧ (¬ P' → B)) := by rw [propext h]
theorem bt_nz {a v b : Int} : bt a v b ≠ 0 ↔ a ≤ v ∧ v ≤ b := by
  unfold bt
  by_cases h : a ≤ v ∧ v ≤ b
  · rw [if_pos h]; exact ⟨fun _ => h, fun _ => by decide⟩
  · rw [if_neg h]; exact ⟨fun z => absurd rfl z, fun z => absurd z h⟩
theorem tern_ {P : Prop} [Decidable P] {c : jCn} {a b : jEx} {u v : Int} {L : jLo} {M : jMm} (hc : ∀ T F : jMm → Prop, c L M T F = ((P → T M) ∧ (¬ P → F M))) (ha : P → ∀ Q : Int → jMm → Prop, a L M Q = Q u M) (hb : ¬ P → ∀ Q : Int → jMm → Prop, b L M Q = Q v M) (Q : Int → jMm → Prop) : xTern c a b L M Q = Q (if P then u else v) M := by
  show c L M _ _ = _
  rw [hc]
  by_cases h : P
  · rw [if_pos h, ha h]; exact propext ⟨fun z => z.1 h, fun z => ⟨fun _ => z, fun n => absurd h n⟩⟩
  · rw [if_neg h, hb h]; exact propext ⟨fun z => z.2 h, fun z => ⟨fun n => absurd n h, fun _ => z⟩⟩
theorem tern_r {P : Prop} [Decidable P] {c : jCn} {a b : jEx} {u v : Int} {L : jLo} {M : jMm} {Q : Int → jMm → Prop} (hc : ∀ T F : jMm → Prop, c L M T F = ((P → T M) ∧ (¬ P → F M))) (ha : P → ∀ Q : Int → jMm → Prop, a L M Q = Q u M) (hb : ¬ P → ∀ Q : Int → jMm → Prop, b L M Q = Q v M) (h : Q (if P then u else v) M) : xTern c a b L M Q := by
  rw [tern_ hc ha hb]; exact h
theorem tern_y {P : Prop} {c : jCn} {a b : jEx} {L : jLo} {M : jMm} {Q : Int → jMm → Prop} (hc : ∀ T F : jMm → Prop, c L M T F = ((P → T M) ∧ (¬ P → F M))) (hP : P) (h : a L M Q) : xTern c a b L M Q := by
  show c L M _ _
  rw [hc]; exact ⟨fun _ => h, fun n => absurd hP n⟩
theorem set_ix {g f : jMd} {u : Int → Int} {i : Nat} {c x : Int} {L : jLo} {M : jMm} {N : jLo → jMm → Prop} {R : Int → jMm → Prop} (l0 : L 0 = x) (h : f [x] M (fun v M1 => g [c, u v] M1 (fun r M2 => N (jup L i r) M2))) : tSet i (xCall g (xsC (xC c) (xsC (xUn u (xCall f (xsC (xV 0) xsN))) xsN))) L M N R := by
  show f [L 0] M (fun v M1 => g [c, u v] M1 (fun r M2 => N (jup L i r) M2))
  rw [l0]; exact h
/-! numbers -/
def dgt (f : Int → Int) (x : Int) : Bool := decide (48 ≤ f x ∧ f x ≤ 57)
theorem dgt_y {f : Int → Int} {x : Int} : dgt f x = true ↔ 48 ≤ f x ∧ f x ≤ 57 := by unfold dgt; exact decide_eq_true_iff
def blk (f : Int → Int) (x : Int) : Bool := decide (f x = 32)
theorem blk_y {f : Int → Int} {x : Int} : blk f x = true ↔ f x = 32 := by unfold blk; exact decide_eq_true_iff
def stP (f : Int → Int) (x v : Int) : Int := min 100 (max 0 v * 10 + f x - 48)
def stM (f : Int → Int) (x v : Int) : Int := if v > 999 then v else 10 * v + f x - 48
theorem vl_rel {f : Int → Int} : ∀ (r : Nat) (a pv mv : Int), 0 ≤ mv → mv ≤ 9999 → pv = min 100 mv → vl (dgt f) (stP f) r a pv = min 100 (vl (dgt f) (stM f) r a mv) ∧ 0 ≤ vl (dgt f) (stM f) r a mv ∧ vl (dgt f) (stM f) r a mv ≤ 9999
  | 0, a, pv, mv, h0, h1, h2 => ⟨h2, h0, h1⟩
  | r + 1, a, pv, mv, h0, h1, h2 => by
    by_cases h : dgt f a = true
    · rw [vl_y h, vl_y h]
      have d := dgt_y.mp h
      have m1 : 0 ≤ stM f a mv ∧ stM f a mv ≤ 9999 ∧ stP f a pv = min 100 (stM f a mv) := by
        unfold stM stP
        by_cases c : mv > 999
        · rw [if_pos c]; omega
        · rw [if_neg c]; omega
      exact vl_rel r (a + 1) _ _ m1.1 m1.2.1 m1.2.2
    · rw [vl_n h, vl_n h]; exact ⟨h2, h0, h1⟩
theorem num_rel {f : Int → Int} {r : Nat} {a : Int} (h : dgt f a = true) (hr : 0 < r) : vl (dgt f) (stP f) r a (-1) = min 100 (vl (dgt f) (stM f) r a 0) ∧ 0 ≤ vl (dgt f) (stM f) r a 0 := by
  obtain ⟨r, rfl⟩ : ∃ q, r = q + 1 := ⟨r - 1, by omega⟩
  rw [vl_y h, vl_y h]
  have d := dgt_y.mp h
  have m1 : 0 ≤ stM f a 0 ∧ stM f a 0 ≤ 9999 ∧ stP f a (-1) = min 100 (stM f a 0) := by
    unfold stM stP
    rw [if_neg (by omega)]; omega
  have k := vl_rel (f := f) r (a + 1) _ _ m1.1 m1.2.1 m1.2.2
  exact ⟨k.1, k.2.1⟩
/-! one of the people in a text -/
def bl (f : Int → Int) (T a : Int) : Int := skw (blk f) (T - a).toNat a
def hd (f : Int → Int) (T a : Int) : Int := if bl f T a < T then f (bl f T a) else 0
def nv (f : Int → Int) (T a : Int) : Int := vl (dgt f) (stM f) (T - bl f T a).toNat (bl f T a) 0
def e1 (f : Int → Int) (T a : Int) : Int := skw (dgt f) (T - bl f T a).toNat (bl f T a)
def e2 (f : Int → Int) (T a : Int) : Int := bl f T (e1 f T a) + 1
def e3 (f : Int → Int) (T a : Int) : Int := bl f T (e2 f T a) + 1
abbrev nOK (f : Int → Int) (T a : Int) : Prop := (48 ≤ hd f T a ∧ hd f T a ≤ 57) ∧ nv f T a ≤ 99
def lA (c : Int) : Int := if c = 117 then 0 else if c = 100 then 1 else -1
def lB (c : Int) : Int := if c = 115 then 0 else if c = 119 then 1 else if c = 98 then 2 else if c = 99 then 3 else if c = 102 then 4 else -1
def flt (f : Int → Int) (T a : Int) : Int := if nOK f T a then (if lA (hd f T (e1 f T a)) < 0 then bl f T (e1 f T a) else if lB (hd f T (e2 f T a)) < 0 then bl f T (e2 f T a) else -1) else bl f T a
theorem lA_b (c : Int) : -1 ≤ lA c ∧ lA c ≤ 1 := by unfold lA; (repeat' split) <;> omega
theorem lB_b (c : Int) : -1 ≤ lB c ∧ lB c ≤ 4 := by unfold lB; (repeat' split) <;> omega
theorem lA_0 : lA 0 = -1 := by decide
theorem lB_0 : lB 0 = -1 := by decide
theorem bl_b {f : Int → Int} {T a : Int} (aT : a ≤ T) : a ≤ bl f T a ∧ bl f T a ≤ T := by
  have k := skw_b (c := blk f) (T - a).toNat a
  unfold bl; omega
theorem bl_i {f : Int → Int} {T a : Int} (aT : a ≤ T) : bl f T (bl f T a) = bl f T a := by
  have k := skw_b (c := blk f) (T - a).toNat a
  have b := bl_b (f := f) aT
  by_cases h : bl f T a < T
  · exact skw_n (k.2.2 (by unfold bl at h; omega))
  · have e : bl f T a = T := by omega
    rw [e]
    unfold bl
    rw [show (T - T).toNat = 0 by omega]; rfl
theorem hd_i {f : Int → Int} {T a : Int} (aT : a ≤ T) : hd f T (bl f T a) = hd f T a := by
  unfold hd; rw [bl_i aT]
theorem hd_lt {f : Int → Int} {T a : Int} (h : hd f T a ≠ 0) : bl f T a < T ∧ hd f T a = f (bl f T a) := by
  unfold hd at h ⊢
  by_cases c : bl f T a < T
  · rw [if_pos c] at h ⊢; exact ⟨c, rfl⟩
  · rw [if_neg c] at h; exact absurd rfl h
theorem e1_b {f : Int → Int} {T a : Int} (aT : a ≤ T) : bl f T a ≤ e1 f T a ∧ e1 f T a ≤ T := by
  have k := skw_b (c := dgt f) (T - bl f T a).toNat (bl f T a)
  have b := bl_b (f := f) aT
  unfold e1; omega
theorem e2_b {f : Int → Int} {T a : Int} (aT : a ≤ T) (h : ¬ lA (hd f T (e1 f T a)) < 0) : e1 f T a < e2 f T a ∧ e2 f T a ≤ T := by
  have b1 := e1_b (f := f) aT
  have b := bl_b (f := f) b1.2
  have := hd_lt (f := f) (T := T) (a := e1 f T a) (fun z => h (by rw [z, lA_0]; decide))
  unfold e2; omega
theorem e3_b {f : Int → Int} {T a : Int} (aT : a ≤ T) (h : ¬ lA (hd f T (e1 f T a)) < 0) (h' : ¬ lB (hd f T (e2 f T a)) < 0) : e2 f T a < e3 f T a ∧ e3 f T a ≤ T := by
  have b1 := e2_b (f := f) aT h
  have b := bl_b (f := f) b1.2
  have := hd_lt (f := f) (T := T) (a := e2 f T a) (fun z => h' (by rw [z, lB_0]; decide))
  unfold e3; omega
theorem nv_b {f : Int → Int} {T a : Int} (h : nOK f T a) : 0 ≤ nv f T a ∧ nv f T a ≤ 99 := by
  obtain ⟨h1, h2⟩ := h
  have k := hd_lt (f := f) (T := T) (a := a) (by omega)
  exact ⟨(num_rel (dgt_y.mpr (by rw [← k.2]; exact h1)) (by omega)).2, h2⟩
theorem flt_ok {f : Int → Int} {T a : Int} (a0 : 0 ≤ a) (aT : a ≤ T) : (flt f T a = -1 ∧ nOK f T a ∧ ¬ lA (hd f T (e1 f T a)) < 0 ∧ ¬ lB (hd f T (e2 f T a)) < 0) ∨ 0 ≤ flt f T a := by
  unfold flt
  have b := bl_b (f := f) aT
  by_cases c : nOK f T a
  · rw [if_pos c]
    have b1 := e1_b (f := f) aT
    have b2 := bl_b (f := f) b1.2
    by_cases c1 : lA (hd f T (e1 f T a)) < 0
    · rw [if_pos c1]; right; omega
    · rw [if_neg c1]
      have b3 := e2_b (f := f) aT c1
      have b4 := bl_b (f := f) b3.2
      by_cases c2 : lB (hd f T (e2 f T a)) < 0
      · rw [if_pos c2]; right; omega
      · rw [if_neg c2]; exact .inl ⟨rfl, c, c1, c2⟩
  · rw [if_neg c]; right; omega
/-! the letters' places in the two texts -/
theorem u2b : ∀ v : Fin 127, u_i2b (v.val : Int) = v.val ∧ u_i2c (v.val : Int) = v.val := by decide +kernel
theorem u2 {v : Int} (v0 : 0 ≤ v) (v1 : v ≤ 126) : u_i2b v = v ∧ u_i2c v = v := by
  have := u2b ⟨v.toNat, by omega⟩
  rw [show (((⟨v.toNat, by omega⟩ : Fin 127).val : Nat) : Int) = v from Int.toNat_of_nonneg v0] at this
  exact this
theorem q_ixc {k c n : Int} {M : jMm} {Q : Int → jMm → Prop} (hn : n = tLen k) (n5 : 0 ≤ n ∧ n ≤ 5) (c0 : 0 ≤ c) (c1 : c ≤ 126) (h1 : ∀ r, 0 ≤ r → r < n → tByte k r = c → Q r M) (h2 : (∀ r, 0 ≤ r → r < n → tByte k r ≠ c) → Q (-1) M) : f_J_ixc [k, c, 0, n] M Q := by
  unfold f_J_ixc
  refine mt_ (sq_ (st_v (v := c) (fun Q => by show Q (u_i2b c) M = _; rw [(u2 c0 c1).1]) (sq_ (st_v (v := 0) (fun Q => rfl) (sq_ ?_)))))
  refine up0 n.toNat (fun j L M1 => M1 = M ∧ L 0 = k ∧ L 3 = n ∧ L 4 = c ∧ ∀ r : Int, 0 ≤ r → r < j → tByte k r ≠ c) rfl (by omega) ⟨rfl, rfl, rfl, rfl, fun r _ _ => by omega⟩ ?_ ?_ ?_
  · rintro j L M1 Q1 ⟨rfl, l0, l3, -⟩ hQ
    show Q1 (L 3) M1
    rw [l3, ← show ((n.toNat : Nat) : Int) = n by omega]; exact hQ
  · rintro j L M1 N1 hj hi ⟨rfl, l0, l3, l4, hr⟩ hN
    refine if_pc (tByte k j = c) (kr_pc (fun Q => ?_) (fun Q => by simp only [xV, l4])) (fun z => rt_ ?_) (fun z => sk_ (hN L M1 hi ⟨rfl, l0, l3, l4, fun r r0 r1 => ?_⟩))
    · show ((0 ≤ L 5 ∧ L 5 < tLen (L 0)) ∧ Q (tByte (L 0) (L 5)) M1) = _
      rw [l0, hi, ← hn]; exact ixE (by omega) (by omega)
    · show Q (L 5) M1
      rw [hi]; exact h1 j (by omega) (by omega) z
    · by_cases e : r = j
      · rw [e]; exact z
      · exact hr r r0 (by omega)
  · rintro L M1 - ⟨rfl, l0, l3, l4, hr⟩
    exact rt_ (h2 (fun r r0 r1 => hr r r0 (by omega)))
theorem q_lat {k : Int} {M : jMm} {Q : Int → jMm → Prop} : f_J_latin [k] M Q = Q 1 M := by
  unfold f_J_latin
  apply propext
  simp [jMeth, jIn, jup, tSeq, tIf, tSkip, tSet, tInc, tPut, tPutZ, tPutO, tAst, tAstO, tDo, tRet, tRetZ, tRet0, kAnd, kOr, kNot, kZ, kR, xV, xC, xGf, xGr, xAl, xAr, xSt, xLen, xBin, xUn, xNeg, xTern, xCall, xsC, xsN, boAdd, boSub, boMul, boDiv, boRem, boMax, boMin, boOr, boAnd, boShl, boShr]
theorem q_len {k : Int} {M : jMm} {Q : Int → jMm → Prop} (n5 : tLen (k + 2) = 2 ∨ tLen (k + 2) = 5) : f_J_length [k] M Q = Q (tLen (k + 2)) M := by
  have sh : b_shr (tLen (k + 2)) 0 = tLen (k + 2) := by
    rcases n5 with e | e <;> rw [e] <;> decide +kernel
  unfold f_J_length f_J_coder
  apply propext
  simp [jMeth, jIn, jup, tSeq, tIf, tSkip, tSet, tInc, tPut, tPutZ, tPutO, tAst, tAstO, tDo, tRet, tRetZ, tRet0, kAnd, kOr, kNot, kZ, kR, xV, xC, xGf, xGr, xAl, xAr, xSt, xLen, xBin, xUn, xNeg, xTern, xCall, xsC, xsN, boAdd, boSub, boMul, boDiv, boRem, boMax, boMin, boOr, boAnd, boShl, boShr, tRetB, sh]
theorem q_can {c : Int} {M : jMm} {Q : Int → jMm → Prop} (h0 : 0 ≤ c) (h1 : c ≤ 126) : f_J_can [c] M Q = Q 1 M := by
  unfold f_J_can
  apply propext
  simp [jMeth, jIn, jup, tSeq, tIf, tSkip, tSet, tInc, tPut, tPutZ, tPutO, tAst, tAstO, tDo, tRet, tRetZ, tRet0, kAnd, kOr, kNot, kZ, kR, xV, xC, xGf, xGr, xAl, xAr, xSt, xLen, xBin, xUn, xNeg, xTern, xCall, xsC, xsN, boAdd, boSub, boMul, boDiv, boRem, boMax, boMin, boOr, boAnd, boShl, boShr, h0, show c ≤ 255 by omega]
theorem q_ix {k c : Int} {M : jMm} {Q : Int → jMm → Prop} (n5 : tLen (k + 2) = 2 ∨ tLen (k + 2) = 5) (h0 : 0 ≤ c) (h26 : c ≤ 126) (h1 : ∀ r, 0 ≤ r → r < tLen (k + 2) → tByte (k + 2) r = c → Q r M) (h2 : (∀ r, 0 ≤ r → r < tLen (k + 2) → tByte (k + 2) r ≠ c) → Q (-1) M) : f_J_indexOf [k, c] M Q := by
  have x := q_ixc (k := k + 2) (c := c) rfl (by omega) h0 h26 h1 h2
  have l2 : f_J_ixl [k + 2, c, 0, tLen (k + 2)] M Q := by
    unfold f_J_ixl
    refine mt_ (sq_ (if_pc ((1 : Int) = 0) (nz_pc (c1 (x0 := c) (fun Q => rfl) (fun Q => q_can h0 h26))) (fun z => absurd z (by decide)) (fun _ => sk_ (sq_ (st_v (v := max 0 0) (mx_ (fun Q => rfl) (fun Q => rfl)) (sq_ (st_v (v := tLen (k + 2)) (fun Q => ?_) (sq_ (if_pc (0 ≥ tLen (k + 2)) (kr_pc (fun Q => rfl) (fun Q => rfl)) (fun z => by omega) (fun _ => sk_ (rt_ ?_)))))))))))
    · refine (mn_ (x := tLen (k + 2)) (fun Q => rfl) (un_ (u := tLen) (x := k + 2) (fun Q => rfl)) Q).trans ?_
      rw [Int.min_self]
    · exact ca4 (x0 := k + 2) (x1 := c) (x2 := 0) (x3 := tLen (k + 2)) (fun Q => rfl) (fun Q => rfl) (fun Q => rfl) (fun Q => rfl) x
  have l3 : f_J_ix2 [k, c, 0] M Q := by
    unfold f_J_ix2
    exact mt_ (rt_ (tern_y (P := (1 : Int) ≠ 0) (kz_pc (c1 (x0 := k) (fun Q => rfl) (fun Q => q_lat))) (by decide) (ca4 (x0 := k + 2) (x1 := c) (x2 := 0) (x3 := tLen (k + 2)) (un_ (x := k) (fun Q => rfl)) (fun Q => rfl) (fun Q => rfl) (c1 (x0 := k) (fun Q => rfl) (fun Q => q_len n5)) l2)))
  unfold f_J_indexOf
  exact mt_ (rt_ (ca3 (x0 := k) (x1 := c) (x2 := 0) (fun Q => rfl) (fun Q => rfl) (fun Q => rfl) l3))
theorem tB : (tLen 146 = 2 ∧ tByte 146 0 = 117 ∧ tByte 146 1 = 100) ∧ tLen 147 = 5 ∧ tByte 147 0 = 115 ∧ tByte 147 1 = 119 ∧ tByte 147 2 = 98 ∧ tByte 147 3 = 99 ∧ tByte 147 4 = 102 := by decide +kernel
theorem q_ud {c : Int} {M : jMm} {Q : Int → jMm → Prop} (h0 : 0 ≤ c) (h26 : c ≤ 126) (hq : Q (lA c) M) : f_J_indexOf [144, c] M Q := by
  obtain ⟨⟨t2, b0, b1⟩, -⟩ := tB
  unfold lA at hq
  refine q_ix (.inl t2) h0 h26 (fun r r0 r1 e => ?_) (fun h => ?_)
  · rw [show tLen (144 + 2) = 2 from t2] at r1
    have e : tByte 146 r = c := e
    obtain rfl | rfl : r = 0 ∨ r = 1 := by omega
    · rw [b0] at e
      rw [if_pos e.symm] at hq; exact hq
    · rw [b1] at e
      rw [if_neg (by omega), if_pos e.symm] at hq; exact hq
  · have h : ∀ r, 0 ≤ r → r < tLen 146 → tByte 146 r ≠ c := h
    rw [t2] at h
    have a0 := h 0 (by decide) (by decide)
    have a1 := h 1 (by decide) (by decide)
    rw [b0] at a0
    rw [b1] at a1
    rw [if_neg (fun z => a0 z.symm), if_neg (fun z => a1 z.symm)] at hq
    exact hq
theorem q_swb {c : Int} {M : jMm} {Q : Int → jMm → Prop} (h0 : 0 ≤ c) (h26 : c ≤ 126) (hq : Q (lB c) M) : f_J_indexOf [145, c] M Q := by
  obtain ⟨-, t5, b0, b1, b2, b3, b4⟩ := tB
  unfold lB at hq
  refine q_ix (.inr t5) h0 h26 (fun r r0 r1 e => ?_) (fun h => ?_)
  · rw [show tLen (145 + 2) = 5 from t5] at r1
    have e : tByte 147 r = c := e
    obtain rfl | rfl | rfl | rfl | rfl : r = 0 ∨ r = 1 ∨ r = 2 ∨ r = 3 ∨ r = 4 := by omega
    · rw [b0] at e
      rw [if_pos e.symm] at hq; exact hq
    · rw [b1] at e
      rw [if_neg (by omega), if_pos e.symm] at hq; exact hq
    · rw [b2] at e
      rw [if_neg (by omega), if_neg (by omega), if_pos e.symm] at hq; exact hq
    · rw [b3] at e
      rw [if_neg (by omega), if_neg (by omega), if_neg (by omega), if_pos e.symm] at hq; exact hq
    · rw [b4] at e
      rw [if_neg (by omega), if_neg (by omega), if_neg (by omega), if_neg (by omega), if_pos e.symm] at hq; exact hq
  · have h : ∀ r, 0 ≤ r → r < tLen 147 → tByte 147 r ≠ c := h
    rw [t5] at h
    have a0 := h 0 (by decide) (by decide)
    have a1 := h 1 (by decide) (by decide)
    have a2 := h 2 (by decide) (by decide)
    have a3 := h 3 (by decide) (by decide)
    have a4 := h 4 (by decide) (by decide)
    rw [b0] at a0
    rw [b1] at a1
    rw [b2] at a2
    rw [b3] at a3
    rw [b4] at a4
    rw [if_neg (fun z => a0 z.symm), if_neg (fun z => a1 z.symm), if_neg (fun z => a2 z.symm), if_neg (fun z => a3 z.symm), if_neg (fun z => a4 z.symm)] at hq
    exact hq
