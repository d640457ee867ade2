/-! code that keeps a word: reading, reckoning -/
theorem ir_of32 (v : Int32) : ir v.toInt := ⟨Int32.le_toInt v, by have := Int32.toInt_lt v; omega⟩
theorem ir_to {x : Int} (h : ir x) : (Int32.ofInt x).toInt = x := Int32.toInt_ofInt_of_le (by have := h.1; omega) (by have := h.2; omega)
theorem lr_to {x : Int} (h : lr x) : (Int64.ofInt x).toInt = x := Int64.toInt_ofInt_of_le (by have := h.1; omega) (by have := h.2; omega)
theorem of_to (v : Int32) : Int32.ofInt v.toInt = v := Int32.ofInt_toInt v
theorem jtk20 {x : Int} : jtk 20 x ↔ ir x := Iff.rfl
theorem jtk21 {x : Int} : jtk 21 x ↔ lr x := Iff.rfl
theorem jtk22 {x : Int} : jtk 22 x ↔ (x = 0 ∨ x = 1) := Iff.rfl
theorem jtkr {T : Nat} {x : Int} (h : T < 20) : jtk T x ↔ (0 ≤ x ∧ x < s_NM ∧ s_kind x = T) := by
  unfold jtk
  rw [if_neg (by omega), if_pos h]
theorem jcv20 {z : jZ} {x : Int} : jcv z 20 x = .int (Int32.ofInt x) := rfl
theorem jcv22 {z : jZ} {x : Int} : jcv z 22 x = .int (Int32.ofInt x) := rfl
theorem jcv21 {z : jZ} {x : Int} : jcv z 21 x = .long (Int64.ofInt x) := rfl
theorem jcvr {z : jZ} {T : Nat} {x : Int} (h : T < 20) : jcv z T x = .ref (z.2.1 x) := by
  unfold jcv
  rw [if_neg (by omega), if_pos h]
theorem cats_cons (v : Value) (st : List Value) : cats (v :: st) = v.category + cats st := rfl
theorem jcv_cat (z : jZ) (T : Nat) (x : Int) : (jcv z T x).category ≤ 2 := by
  unfold jcv
  split
  · exact Nat.le_refl _
  · split
    · exact Nat.le_succ 1
    · split <;> exact Nat.le_succ 1
theorem jcv_cat1 (z : jZ) {T : Nat} (x : Int) (h : T ≠ 21) : (jcv z T x).category = 1 := by
  unfold jcv
  rw [if_neg h]
  split
  · rfl
  · split <;> rfl
def kcat (T : Nat) : Nat := if T = 21 then 2 else 1
theorem jcv_kcat (z : jZ) (T : Nat) (x : Int) : (jcv z T x).category = kcat T := by
  unfold jcv kcat
  split
  · rfl
  · split
    · rfl
    · split <;> rfl
theorem cats_push {z : jZ} {T : Nat} {x : Int} {st : List Value} {d : Nat} (h : cats st ≤ d) : cats (jcv z T x :: st) ≤ d + kcat T := by
  rw [cats_cons, jcv_kcat]; omega
theorem jO_facts {K : jKm} {z : jZ} {p l e R s m args below meth c ce sl Qf} (h : jO K z (p, l, e, R, s, m, args, below, meth, c, ce, sl, Qf)) : jWz z ∧ jK z s ∧ p.tables.exec = Jvm.exec ∧ c.code = kmC K ∧ c.maxLocals = kmN K ∧ s.vm.findClass (kmY K).cls = some m.cls ∧ (∀ w ∈ tG, w.before args s = true) ∧ kmF K ≤ R.frames ∧ kmW K ≤ R.locals ∧ ce ≤ R.cells ∧ sl ≤ R.slots ∧ kmX K z s := h
/-- a step that touches neither heap nor tables -/
theorem jstep {K : jKm} {z : jZ} {X : jAct} {pc pc' : Nat} {ls ls' : Array Slot} {st st' : List Value} {M : jMm} (hO : jO K z X)
    (h : ∀ p l e R s m args below meth c ce sl Qf H locs, X = (p, l, e, R, s, m, args, below, meth, c, ce, sl, Qf) → p.tables.exec = Jvm.exec → c.code = kmC K → W p l e R s m args below meth c H locs ce sl Qf (F0 m pc' ls' st') → W p l e R s m args below meth c H locs ce sl Qf (F0 m pc ls st))
    (k : jG z X pc' ls' st' M) : jG z X pc ls st M := by
  obtain ⟨p, l, e, R, s, m, args, below, meth, c, ce, sl, Qf⟩ := X
  obtain ⟨-, -, hx, hb, -⟩ := jO_facts hO
  intro H locs hI hL
  exact h p l e R s m args below meth c ce sl Qf H locs rfl hx hb (k H locs hI hL)
-- constants
theorem jE_iconst {K : jKm} {G : jCt} {d pc p : Nat} {n : Int} (hd : decode (kmC K) pc = .ok (.iconst n, 1)) (hp : p = pc + 1) (hn : ir n) : jE K G d pc p 20 (xC n) := by
  subst hp
  intro z X hO L M Q ls st hV hc hq hk
  exact jstep hO (fun p l e R s m args below meth c ce sl Qf H locs _ hx hb k => lv_iconst (v := Int32.ofInt n) hx hb hd rfl k) (hk n M hn hq)
theorem jE_bipush {K : jKm} {G : jCt} {d pc p : Nat} {n : Int} (hd : decode (kmC K) pc = .ok (.bipush n, 2)) (hp : p = pc + 2) (hn : ir n) (hv : (Int8.ofInt n).toInt32 = Int32.ofInt n) : jE K G d pc p 20 (xC n) := by
  subst hp
  intro z X hO L M Q ls st hV hc hq hk
  exact jstep hO (fun p l e R s m args below meth c ce sl Qf H locs _ hx hb k => lv_bipush (v := Int32.ofInt n) hx hb hd hv k) (hk n M hn hq)
theorem jE_sipush {K : jKm} {G : jCt} {d pc p : Nat} {n : Int} (hd : decode (kmC K) pc = .ok (.sipush n, 3)) (hp : p = pc + 3) (hn : ir n) (hv : (Int16.ofInt n).toInt32 = Int32.ofInt n) : jE K G d pc p 20 (xC n) := by
  subst hp
  intro z X hO L M Q ls st hV hc hq hk
  exact jstep hO (fun p l e R s m args below meth c ce sl Qf H locs _ hx hb k => lv_sipush (v := Int32.ofInt n) hx hb hd hv k) (hk n M hn hq)
theorem jE_lconst {K : jKm} {G : jCt} {d pc p : Nat} {n : Fin 2} {v : Int} (hd : decode (kmC K) pc = .ok (.lconst n, 1)) (hp : p = pc + 1) (hn : lr v) (hv : Int64.ofNat (n : Nat) = Int64.ofInt v) : jE K G d pc p 21 (xC v) := by
  subst hp
  intro z X hO L M Q ls st hV hc hq hk
  exact jstep hO (fun p l e R s m args below meth c ce sl Qf H locs _ hx hb k => lv_lconst (v := Int64.ofInt v) hx hb hd hv k) (hk v M hn hq)
theorem jE_ldc {K : jKm} {G : jCt} {d pc p i : Nat} {n : Int} (hd : decode (kmC K) pc = .ok (.ldc i, 2)) (hp : p = pc + 2) (hn : ir n) (hw : Cond.constant (kmY K).cls i (Int32.ofInt n) ∈ tG) : jE K G d pc p 20 (xC n) := by
  subst hp
  intro z X hO L M Q ls st hV hc hq hk
  obtain ⟨p, l, e, R, s, m, args, below, meth, c, ce, sl, Qf⟩ := X
  obtain ⟨-, -, hx, hb, -, hown, hts, -⟩ := jO_facts hO
  intro H locs hI hL
  exact lv_ldc (v := Int32.ofInt n) hx hb hown (hts _ hw) hd (hk n M hn hq H locs hI hL)
theorem jE_ldcw {K : jKm} {G : jCt} {d pc p i : Nat} {n : Int} (hd : decode (kmC K) pc = .ok (.ldc_w i, 3)) (hp : p = pc + 3) (hn : ir n) (hw : Cond.constant (kmY K).cls i (Int32.ofInt n) ∈ tG) : jE K G d pc p 20 (xC n) := by
  subst hp
  intro z X hO L M Q ls st hV hc hq hk
  obtain ⟨p, l, e, R, s, m, args, below, meth, c, ce, sl, Qf⟩ := X
  obtain ⟨-, -, hx, hb, -, hown, hts, -⟩ := jO_facts hO
  intro H locs hI hL
  exact lv_ldcw (v := Int32.ofInt n) hx hb hown (hts _ hw) hd (hk n M hn hq H locs hI hL)
theorem jE_ldc2 {K : jKm} {G : jCt} {d pc p i : Nat} {n : Int} (hd : decode (kmC K) pc = .ok (.ldc2_w i, 3)) (hp : p = pc + 3) (hn : lr n) (hw : Cond.constantLong (kmY K).cls i (Int64.ofInt n) ∈ tG) : jE K G d pc p 21 (xC n) := by
  subst hp
  intro z X hO L M Q ls st hV hc hq hk
  obtain ⟨p, l, e, R, s, m, args, below, meth, c, ce, sl, Qf⟩ := X
  obtain ⟨-, -, hx, hb, -, hown, hts, -⟩ := jO_facts hO
  intro H locs hI hL
  exact lv_ldc2 (v := Int64.ofInt n) hx hb hown (hts _ hw) hd (hk n M hn hq H locs hI hL)
-- locals
theorem jE_iload_n {K : jKm} {G : jCt} {d pc p i : Nat} {k : Fin 4} (hd : decode (kmC K) pc = .ok (.iload_n k, 1)) (hi : (k : Nat) = i) (hp : p = pc + 1) (hm : (i, 20) ∈ G) : jE K G d pc p 20 (xV i) := by
  subst hp
  intro z X hO L M Q ls st hV hc hq hk
  exact jstep hO (fun p l e R s m args below meth c ce sl Qf H locs _ hx hb k => lv_iload_n hx hb hd hi (hV.2.2 _ hm).1 k) (hk _ M (hV.2.2 _ hm).2 hq)
theorem jE_iload {K : jKm} {G : jCt} {d pc p i : Nat} (hd : decode (kmC K) pc = .ok (.iload i, 2)) (hp : p = pc + 2) (hm : (i, 20) ∈ G) : jE K G d pc p 20 (xV i) := by
  subst hp
  intro z X hO L M Q ls st hV hc hq hk
  exact jstep hO (fun p l e R s m args below meth c ce sl Qf H locs _ hx hb k => lv_iload hx hb hd (hV.2.2 _ hm).1 k) (hk _ M (hV.2.2 _ hm).2 hq)
theorem jE_lload_n {K : jKm} {G : jCt} {d pc p i : Nat} {k : Fin 4} (hd : decode (kmC K) pc = .ok (.lload_n k, 1)) (hi : (k : Nat) = i) (hp : p = pc + 1) (hm : (i, 21) ∈ G) : jE K G d pc p 21 (xV i) := by
  subst hp
  intro z X hO L M Q ls st hV hc hq hk
  exact jstep hO (fun p l e R s m args below meth c ce sl Qf H locs _ hx hb k => lv_lload_n hx hb hd hi (hV.2.2 _ hm).1 k) (hk _ M (hV.2.2 _ hm).2 hq)
theorem jE_lload {K : jKm} {G : jCt} {d pc p i : Nat} (hd : decode (kmC K) pc = .ok (.lload i, 2)) (hp : p = pc + 2) (hm : (i, 21) ∈ G) : jE K G d pc p 21 (xV i) := by
  subst hp
  intro z X hO L M Q ls st hV hc hq hk
  exact jstep hO (fun p l e R s m args below meth c ce sl Qf H locs _ hx hb k => lv_lload hx hb hd (hV.2.2 _ hm).1 k) (hk _ M (hV.2.2 _ hm).2 hq)
theorem jE_aload_n {K : jKm} {G : jCt} {d pc p i T : Nat} {k : Fin 4} (hd : decode (kmC K) pc = .ok (.aload_n k, 1)) (hi : (k : Nat) = i) (hp : p = pc + 1) (hm : (i, T) ∈ G) (hT : T < 20) : jE K G d pc p T (xV i) := by
  subst hp
  intro z X hO L M Q ls st hV hc hq hk
  have h := hk _ M (hV.2.2 _ hm).2 hq
  have h2 := (hV.2.2 _ hm).1
  dsimp only at h h2
  rw [jcvr hT] at h h2
  exact jstep hO (fun p l e R s m args below meth c ce sl Qf H locs _ hx hb k => lv_aload_n hx hb hd hi h2 k) h
theorem jE_aload {K : jKm} {G : jCt} {d pc p i T : Nat} (hd : decode (kmC K) pc = .ok (.aload i, 2)) (hp : p = pc + 2) (hm : (i, T) ∈ G) (hT : T < 20) : jE K G d pc p T (xV i) := by
  subst hp
  intro z X hO L M Q ls st hV hc hq hk
  have h := hk _ M (hV.2.2 _ hm).2 hq
  have h2 := (hV.2.2 _ hm).1
  dsimp only at h h2
  rw [jcvr hT] at h h2
  exact jstep hO (fun p l e R s m args below meth c ce sl Qf H locs _ hx hb k => lv_aload hx hb hd h2 k) h
/-- a truth is a number -/
theorem jE_sub {K : jKm} {G : jCt} {d pc p : Nat} {e : jEx} (h : jE K G d pc p 22 e) : jE K G d pc p 20 e := by
  intro z X hO L M Q ls st hV hc hq hk
  refine h z X hO L M Q ls st hV hc hq (fun v M' hv hq' => ?_)
  refine hk v M' ?_ hq'
  rcases jtk22.mp hv with h | h <;> subst h <;> exact ⟨by decide, by decide⟩
-- reckoning
theorem jE_bin {K : jKm} {G : jCt} {d pc p1 p2 p T1 T2 T d2 : Nat} {a b : jEx} {o : jBo} (ha : jE K G d pc p1 T1 a) (hb : jE K G d2 p1 p2 T2 b) (ho : jB K d p2 p T1 T2 T o) (hd : d2 = d + kcat T1) : jE K G d pc p T (xBin o a b) := by
  subst hd
  intro z X hO L M Q ls st hV hc hq hk
  refine ha z X hO L M _ ls st hV hc hq (fun x M1 hx hq1 => ?_)
  refine hb z X hO L M1 _ ls _ hV (cats_push hc) hq1 (fun y M2 hy hq2 => ?_)
  exact ho z X hO M2 _ ls st x y hV.1 hc hx hy hq2 (fun v hv hq3 => hk v M2 hv hq3)
theorem jE_un {K : jKm} {G : jCt} {d pc p1 p T1 T : Nat} {a : jEx} {u : Int → Int} (ha : jE K G d pc p1 T1 a)
    (hu : ∀ (z : jZ) (X : jAct), jO K z X → ∀ (M : jMm) (ls : Array Slot) (st : List Value) (x : Int), jtk T1 x → (jtk T (u x) → jG z X p ls (jcv z T (u x) :: st) M) → jG z X p1 ls (jcv z T1 x :: st) M) : jE K G d pc p T (xUn u a) := by
  intro z X hO L M Q ls st hV hc hq hk
  refine ha z X hO L M _ ls st hV hc hq (fun x M1 hx hq1 => ?_)
  exact hu z X hO M1 ls st x hx (fun hv => hk _ M1 hv hq1)
theorem jE_i2b {K : jKm} {G : jCt} {d pc p1 p : Nat} {a : jEx} (ha : jE K G d pc p1 20 a) (hd : decode (kmC K) p1 = .ok (.i2b, 1)) (hp : p = p1 + 1) : jE K G d pc p 20 (xUn u_i2b a) := by
  subst hp
  refine jE_un ha (fun z X hO M ls st x hx k => ?_)
  exact jstep hO (fun p l e R s m args below meth c ce sl Qf H locs _ hx hb k => t_i2b hx hb hd (v := Int32.ofInt (u_i2b x)) (by unfold u_i2b; rw [of_to]) k) (k (ir_of32 _))
theorem jE_i2s {K : jKm} {G : jCt} {d pc p1 p : Nat} {a : jEx} (ha : jE K G d pc p1 20 a) (hd : decode (kmC K) p1 = .ok (.i2s, 1)) (hp : p = p1 + 1) : jE K G d pc p 20 (xUn u_i2s a) := by
  subst hp
  refine jE_un ha (fun z X hO M ls st x hx k => ?_)
  exact jstep hO (fun p l e R s m args below meth c ce sl Qf H locs _ hx hb k => t_i2s hx hb hd (v := Int32.ofInt (u_i2s x)) (by unfold u_i2s; rw [of_to]) k) (k (ir_of32 _))
theorem jE_i2c {K : jKm} {G : jCt} {d pc p1 p : Nat} {a : jEx} (ha : jE K G d pc p1 20 a) (hd : decode (kmC K) p1 = .ok (.i2c, 1)) (hp : p = p1 + 1) : jE K G d pc p 20 (xUn u_i2c a) := by
  subst hp
  refine jE_un ha (fun z X hO M ls st x hx k => ?_)
  exact jstep hO (fun p l e R s m args below meth c ce sl Qf H locs _ hx hb k => t_i2c hx hb hd (v := Int32.ofInt (u_i2c x)) (by unfold u_i2c; rw [of_to]) k) (k (ir_of32 _))
theorem jE_l2i {K : jKm} {G : jCt} {d pc p1 p : Nat} {a : jEx} (ha : jE K G d pc p1 21 a) (hd : decode (kmC K) p1 = .ok (.l2i, 1)) (hp : p = p1 + 1) : jE K G d pc p 20 (xUn u_l2i a) := by
  subst hp
  refine jE_un ha (fun z X hO M ls st x hx k => ?_)
  exact jstep hO (fun p l e R s m args below meth c ce sl Qf H locs _ hx hb k => t_l2i hx hb hd (v := Int32.ofInt (u_l2i x)) (by unfold u_l2i; rw [of_to]) k) (k (ir_of32 _))
theorem i2l_of {x : Int} (h : ir x) : (Int32.ofInt x).toInt64 = Int64.ofInt x := by
  rw [← Int64.toInt_inj, Int32.toInt_toInt64, ir_to h, lr_to ⟨by have := h.1; omega, by have := h.2; omega⟩]
theorem jE_i2l {K : jKm} {G : jCt} {d pc p1 p : Nat} {a : jEx} (ha : jE K G d pc p1 20 a) (hd : decode (kmC K) p1 = .ok (.i2l, 1)) (hp : p = p1 + 1) : jE K G d pc p 21 (xUn (fun x => x) a) := by
  subst hp
  refine jE_un ha (fun z X hO M ls st x hx k => ?_)
  have h := jtk20.mp hx
  exact jstep hO (fun p l e R s m args below meth c ce sl Qf H locs _ hx hb k => t_i2l hx hb hd (v := Int64.ofInt x) (i2l_of h) k) (k ⟨by have := h.1; omega, by have := h.2; omega⟩)
theorem jE_neg {K : jKm} {G : jCt} {d pc p1 p : Nat} {a : jEx} (ha : jE K G d pc p1 20 a) (hd : decode (kmC K) p1 = .ok (.ineg, 1)) (hp : p = p1 + 1) : jE K G d pc p 20 (xNeg a) := by
  subst hp
  intro z X hO L M Q ls st hV hc hq hk
  refine ha z X hO L M _ ls st hV hc hq (fun x M1 hx hq1 => ?_)
  refine jstep hO (fun p l e R s m args below meth c ce sl Qf H locs _ hx hb k => ?_) (hk (-x) M1 hq1.1 hq1.2)
  rw [jcv20, Int32.ofInt_neg] at k
  refine lv_ineg hx hb hd ?_
  first | exact k | (rw [Int32.zero_sub]; exact k)
