/-! code that keeps a word: instructions of two -/
theorem jtk_ir {x : Int} (h : jtk 20 x) : ir x := h
theorem jB_of {K : jKm} {d pc p : Nat} {b : jBo} (h : ∀ (z : jZ) (X : jAct), jO K z X → ∀ (M : jMm) (ls : Array Slot) (st : List Value) (x y : Int), ls.size = kmN K → cats st ≤ d → ir x → ir y → ∀ Q : Int → Prop, b x y Q → ∃ v, ir v ∧ Q v ∧ (jG z X p ls (.int (Int32.ofInt v) :: st) M → jG z X pc ls (.int (Int32.ofInt y) :: .int (Int32.ofInt x) :: st) M)) : jB K d pc p 20 20 20 b := by
  intro z X hO M Q ls st x y hsz hc hx hy hq hk
  obtain ⟨v, hv, hqv, k⟩ := h z X hO M ls st x y hsz hc hx hy Q hq
  exact k (hk v hv hqv)
theorem jB_iadd {K : jKm} {d pc p : Nat} (hd : decode (kmC K) pc = .ok (.iadd, 1)) (hp : p = pc + 1) : jB K d pc p 20 20 20 boAdd := by
  subst hp
  refine jB_of (fun z X hO M ls st x y hsz hc hx hy Q hq => ⟨x + y, hq.1, hq.2, fun k => ?_⟩)
  refine jstep hO (fun p l e R s m args below meth c ce sl Qf H locs _ hx hb k => lv_iadd hx hb hd ?_) k
  rw [← Int32.ofInt_add]; exact k
theorem jB_isub {K : jKm} {d pc p : Nat} (hd : decode (kmC K) pc = .ok (.isub, 1)) (hp : p = pc + 1) : jB K d pc p 20 20 20 boSub := by
  subst hp
  refine jB_of (fun z X hO M ls st x y hsz hc hx hy Q hq => ⟨x - y, hq.1, hq.2, fun k => ?_⟩)
  refine jstep hO (fun p l e R s m args below meth c ce sl Qf H locs _ hx hb k => lv_isub hx hb hd ?_) k
  rw [← Int32.ofInt_sub]; exact k
theorem jB_imul {K : jKm} {d pc p : Nat} (hd : decode (kmC K) pc = .ok (.imul, 1)) (hp : p = pc + 1) : jB K d pc p 20 20 20 boMul := by
  subst hp
  refine jB_of (fun z X hO M ls st x y hsz hc hx hy Q hq => ⟨x * y, hq.1, hq.2, fun k => ?_⟩)
  refine jstep hO (fun p l e R s m args below meth c ce sl Qf H locs _ hx hb k => lv_imul hx hb hd ?_) k
  rw [← Int32.ofInt_mul]; exact k
theorem ne0_of {y : Int} (h : 0 < y) (hy : ir y) : ¬ Int32.ofInt y = 0 := by
  intro e
  have := congrArg Int32.toInt e
  rw [ir_to hy] at this
  simp at this
  omega
theorem div_of {x y : Int} (hx : ir x) (hy : ir y) (h0 : 0 ≤ x) (h1 : 0 < y) : Int32.ofInt x / Int32.ofInt y = Int32.ofInt (x / y) := by
  rw [← Int32.toInt_inj, Int32.toInt_div, ir_to hx, ir_to hy]
  have h2 : x.tdiv y = x / y := Int.tdiv_eq_ediv_of_nonneg h0
  have h3 : 0 ≤ x / y := Int.ediv_nonneg h0 (by omega)
  have h4 : x / y ≤ x := Int.ediv_le_self y h0
  have h5 : ir (x / y) := ⟨by omega, by have := hx.2; omega⟩
  rw [h2, ir_to h5]
  rw [← Int32.toInt_ofInt (n := x / y), ir_to h5]
theorem rng_div {x y : Int} (hx : ir x) (h0 : 0 ≤ x) (h1 : 0 < y) : ir (x / y) := by
  have h3 : 0 ≤ x / y := Int.ediv_nonneg h0 (by omega)
  have h4 : x / y ≤ x := Int.ediv_le_self y h0
  exact ⟨by omega, by have := hx.2; omega⟩
theorem rng_mod {x y : Int} (hx : ir x) (hy : ir y) (h0 : 0 ≤ x) (h1 : 0 < y) : ir (x % y) := by
  have h3 : 0 ≤ x % y := Int.emod_nonneg x (by omega)
  have h4 : x % y < y := Int.emod_lt_of_pos x h1
  exact ⟨by omega, by have := hy.2; omega⟩
theorem jB_idiv {K : jKm} {d pc p : Nat} (hd : decode (kmC K) pc = .ok (.idiv, 1)) (hp : p = pc + 1) : jB K d pc p 20 20 20 boDiv := by
  subst hp
  refine jB_of (fun z X hO M ls st x y hsz hc hx hy Q hq => ⟨x / y, rng_div hx hq.1.1 hq.1.2, hq.2, fun k => ?_⟩)
  refine jstep hO (fun p l e R s m args below meth c ce sl Qf H locs _ hx' hb k => lv_idiv hx' hb hd (ne0_of hq.1.2 hy) ?_) k
  rw [div_of hx hy hq.1.1 hq.1.2]; exact k
theorem jB_irem {K : jKm} {d pc p : Nat} (hd : decode (kmC K) pc = .ok (.irem, 1)) (hp : p = pc + 1) : jB K d pc p 20 20 20 boRem := by
  subst hp
  refine jB_of (fun z X hO M ls st x y hsz hc hx hy Q hq => ⟨x % y, rng_mod hx hy hq.1.1 hq.1.2, hq.2, fun k => ?_⟩)
  refine jstep hO (fun p l e R s m args below meth c ce sl Qf H locs _ hx' hb k => lv_irem hx' hb hd (ne0_of hq.1.2 hy) ?_) k
  rw [div_of hx hy hq.1.1 hq.1.2, ← Int32.ofInt_mul, ← Int32.ofInt_sub]
  have : x - x / y * y = x % y := by have := Int.mul_ediv_add_emod x y; rw [Int.mul_comm] at this; omega
  rw [this]; exact k
theorem jB_ior {K : jKm} {d pc p : Nat} (hd : decode (kmC K) pc = .ok (.ior, 1)) (hp : p = pc + 1) : jB K d pc p 20 20 20 boOr := by
  subst hp
  refine jB_of (fun z X hO M ls st x y hsz hc hx hy Q hq => ⟨b_or x y, ir_of32 _, hq, fun k => ?_⟩)
  refine jstep hO (fun p l e R s m args below meth c ce sl Qf H locs _ hx hb k => lv_ior hx hb hd ?_) k
  unfold b_or at k; rw [of_to] at k; exact k
theorem jB_iand {K : jKm} {d pc p : Nat} (hd : decode (kmC K) pc = .ok (.iand, 1)) (hp : p = pc + 1) : jB K d pc p 20 20 20 boAnd := by
  subst hp
  refine jB_of (fun z X hO M ls st x y hsz hc hx hy Q hq => ⟨b_and x y, ir_of32 _, hq, fun k => ?_⟩)
  refine jstep hO (fun p l e R s m args below meth c ce sl Qf H locs _ hx hb k => lv_iand hx hb hd ?_) k
  unfold b_and at k; rw [of_to] at k; exact k
theorem jB_ishl {K : jKm} {d pc p : Nat} (hd : decode (kmC K) pc = .ok (.ishl, 1)) (hp : p = pc + 1) : jB K d pc p 20 20 20 boShl := by
  subst hp
  refine jB_of (fun z X hO M ls st x y hsz hc hx hy Q hq => ⟨b_shl x y, ir_of32 _, hq, fun k => ?_⟩)
  refine jstep hO (fun p l e R s m args below meth c ce sl Qf H locs _ hx hb k => lv_ishl hx hb hd ?_) k
  unfold b_shl at k; rw [of_to] at k; exact k
theorem jB_ishr {K : jKm} {d pc p : Nat} (hd : decode (kmC K) pc = .ok (.ishr, 1)) (hp : p = pc + 1) : jB K d pc p 20 20 20 boShr := by
  subst hp
  refine jB_of (fun z X hO M ls st x y hsz hc hx hy Q hq => ⟨b_shr x y, ir_of32 _, hq, fun k => ?_⟩)
  refine jstep hO (fun p l e R s m args below meth c ce sl Qf H locs _ hx hb k => lv_ishr hx hb hd ?_) k
  unfold b_shr at k; rw [of_to] at k; exact k
theorem lt32 {x y : Int} (hx : ir x) (hy : ir y) : Int32.ofInt x < Int32.ofInt y ↔ x < y := by
  rw [Int32.lt_iff_toInt_lt, ir_to hx, ir_to hy]
theorem le32 {x y : Int} (hx : ir x) (hy : ir y) : Int32.ofInt x ≤ Int32.ofInt y ↔ x ≤ y := by
  rw [Int32.le_iff_toInt_le, ir_to hx, ir_to hy]
theorem eq32 {x y : Int} (hx : ir x) (hy : ir y) : Int32.ofInt x = Int32.ofInt y ↔ x = y := by
  rw [← Int32.toInt_inj, ir_to hx, ir_to hy]
theorem jB_max {K : jKm} {d pc p i : Nat} (hd : decode (kmC K) pc = .ok (.invokestatic i, 3)) (hp : p = pc + 3) (hw : Cond.methodLink (kmY K).cls i Lib.Math.max.name ∈ tG ∧ Cond.static Lib.Math.max.name ∈ tG ∧ Cond.initialized "java/lang/Math" ∈ tG ∧ Cond.code Lib.Math.max.name Lib.Math.max.code 2 (some .int) ∈ tG) (hr : 1 ≤ kmF K ∧ d + 13 ≤ kmW K) : jB K d pc p 20 20 20 boMax := by
  subst hp
  refine jB_of (fun z X hO M ls st x y hsz hc hx hy Q hq => ⟨max x y, ?_, hq, fun k => ?_⟩)
  · have := hx.1; have := hx.2; have := hy.1; have := hy.2
    constructor <;> omega
  · obtain ⟨p, l, e, R, s, m, args, below, meth, c, ce, sl, Qf⟩ := X
    obtain ⟨-, -, hx', hb, hml, hown, hts, hf, hw', hce, hsl, -⟩ := jO_facts hO
    intro H locs hI hL
    refine va_mmax hx' hb (hml.trans hsz.symm) hown (hts _ hw.1) (hts _ hw.2.1) (hts _ hw.2.2.1) (hts _ hw.2.2.2) (Nat.le_trans hr.1 hf) ?_ hce hsl hd ?_
    · have : cats st + 13 ≤ R.locals := by omega
      exact this
    · have h := k H locs hI hL
      have e1 : (if Int32.ofInt x < Int32.ofInt y then Int32.ofInt y else Int32.ofInt x) = Int32.ofInt (max x y) := by
        by_cases h : x < y
        · rw [if_pos ((lt32 hx hy).mpr h), Int.max_eq_right (by omega)]
        · rw [if_neg (fun q => h ((lt32 hx hy).mp q)), Int.max_eq_left (by omega)]
      rw [e1]; exact h
theorem jB_min {K : jKm} {d pc p i : Nat} (hd : decode (kmC K) pc = .ok (.invokestatic i, 3)) (hp : p = pc + 3) (hw : Cond.methodLink (kmY K).cls i Lib.Math.min.name ∈ tG ∧ Cond.static Lib.Math.min.name ∈ tG ∧ Cond.initialized "java/lang/Math" ∈ tG ∧ Cond.code Lib.Math.min.name Lib.Math.min.code 2 (some .int) ∈ tG) (hr : 1 ≤ kmF K ∧ d + 13 ≤ kmW K) : jB K d pc p 20 20 20 boMin := by
  subst hp
  refine jB_of (fun z X hO M ls st x y hsz hc hx hy Q hq => ⟨min x y, ?_, hq, fun k => ?_⟩)
  · have := hx.1; have := hx.2; have := hy.1; have := hy.2
    constructor <;> omega
  · obtain ⟨p, l, e, R, s, m, args, below, meth, c, ce, sl, Qf⟩ := X
    obtain ⟨-, -, hx', hb, hml, hown, hts, hf, hw', hce, hsl, -⟩ := jO_facts hO
    intro H locs hI hL
    refine va_mmin hx' hb (hml.trans hsz.symm) hown (hts _ hw.1) (hts _ hw.2.1) (hts _ hw.2.2.1) (hts _ hw.2.2.2) (Nat.le_trans hr.1 hf) ?_ hce hsl hd ?_
    · have : cats st + 13 ≤ R.locals := by omega
      exact this
    · have h := k H locs hI hL
      have e1 : (if Int32.ofInt y < Int32.ofInt x then Int32.ofInt y else Int32.ofInt x) = Int32.ofInt (min x y) := by
        by_cases h : y < x
        · rw [if_pos ((lt32 hy hx).mpr h), Int.min_eq_right (by omega)]
        · rw [if_neg (fun q => h ((lt32 hy hx).mp q)), Int.min_eq_left (by omega)]
      rw [e1]; exact h
-- longs
theorem lr_of64 (v : Int64) : lr v.toInt := ⟨Int64.le_toInt v, by have := Int64.toInt_lt v; omega⟩
theorem of_to64 (v : Int64) : Int64.ofInt v.toInt = v := Int64.ofInt_toInt v
theorem jB_land {K : jKm} {d pc p : Nat} (hd : decode (kmC K) pc = .ok (.land, 1)) (hp : p = pc + 1) : jB K d pc p 21 21 21 boLand := by
  subst hp
  intro z X hO M Q ls st x y hsz hc hx hy hq hk
  exact jstep hO (fun p l e R s m args below meth c ce sl Qf H locs _ hx hb k => t_land hx hb hd (v := Int64.ofInt (l_and x y)) (by unfold l_and; rw [of_to64]) k) (hk _ (lr_of64 _) hq)
theorem jB_lor {K : jKm} {d pc p : Nat} (hd : decode (kmC K) pc = .ok (.lor, 1)) (hp : p = pc + 1) : jB K d pc p 21 21 21 boLor := by
  subst hp
  intro z X hO M Q ls st x y hsz hc hx hy hq hk
  exact jstep hO (fun p l e R s m args below meth c ce sl Qf H locs _ hx hb k => t_lor hx hb hd (v := Int64.ofInt (l_or x y)) (by unfold l_or; rw [of_to64]) k) (hk _ (lr_of64 _) hq)
theorem jB_ladd {K : jKm} {d pc p : Nat} (hd : decode (kmC K) pc = .ok (.ladd, 1)) (hp : p = pc + 1) : jB K d pc p 21 21 21 boLadd := by
  subst hp
  intro z X hO M Q ls st x y hsz hc hx hy hq hk
  exact jstep hO (fun p l e R s m args below meth c ce sl Qf H locs _ hx hb k => t_ladd hx hb hd (v := Int64.ofInt (x + y)) (Int64.ofInt_add ..).symm k) (hk _ hq.1 hq.2)
theorem jB_lshl {K : jKm} {d pc p : Nat} (hd : decode (kmC K) pc = .ok (.lshl, 1)) (hp : p = pc + 1) : jB K d pc p 21 20 21 boLshl := by
  subst hp
  intro z X hO M Q ls st x y hsz hc hx hy hq hk
  exact jstep hO (fun p l e R s m args below meth c ce sl Qf H locs _ hx hb k => t_lshl hx hb hd (v := Int64.ofInt (l_shl x y)) (by unfold l_shl; rw [of_to64]) k) (hk _ (lr_of64 _) hq)
theorem jB_lshr {K : jKm} {d pc p : Nat} (hd : decode (kmC K) pc = .ok (.lshr, 1)) (hp : p = pc + 1) : jB K d pc p 21 20 21 boLshr := by
  subst hp
  intro z X hO M Q ls st x y hsz hc hx hy hq hk
  exact jstep hO (fun p l e R s m args below meth c ce sl Qf H locs _ hx hb k => lv_lshr hx hb hd (v := Int64.ofInt (l_shr x y)) (by unfold l_shr; rw [of_to64]) k) (hk _ (lr_of64 _) hq)
