/-! THE MAKING of the objects: code run on a list of cells that grows; what is run is reckoned by the kernel -/
abbrev yA : Type := List (Nat × List Int)
abbrev yS : Type := yA × Nat × Nat
abbrev yEx : Type := jLo → yS → Option (Int × yS)
abbrev yXs : Type := jLo → yS → Option (List Int × yS)
abbrev yCn : Type := jLo → yS → Option (Bool × yS)
abbrev yDo : Type := jLo → yS → Option (Option Int × jLo × yS)
abbrev yMd : Type := List Int → yS → Option (Int × yS)
def yRf (C j : Nat) : Bool := if C < 8 then s_fty C j < 20 else s_aty C < 20
def irB (x : Int) : Bool := decide (-2147483648 ≤ x) && decide (x ≤ 2147483647)
def tkB (T : Nat) (v : Int) : Bool := decide (0 ≤ v) && (decide (v < s_NM) && decide (s_kind v = T))
def yCl (s : yS) (C : Nat) (k : Int) : Option (List Int) := if 0 ≤ k then (match s.1[k.toNat]? with | some q => if q.1 = C then some q.2 else none | none => none) else none
def ySt (s : yS) (C : Nat) (k : Int) (vs : List Int) : yS := (s.1.set k.toNat (C, vs), s.2)
def yNw (s : yS) (C : Nat) (vs : List Int) : Option (Int × yS) := if s.1.length < 144 ∧ s_kind (s.1.length : Int) = C ∧ 1 ≤ s.2.1 ∧ vs.length ≤ s.2.2 then some ((s.1.length : Int), (s.1 ++ [(C, vs)], s.2.1 - 1, s.2.2 - vs.length)) else none
def yC (n : Int) : yEx := fun _ s => some (n, s)
def yV (i : Nat) : yEx := fun L s => some (L i, s)
def yGr (C j T : Nat) (o : yEx) : yEx := fun L s => (o L s).bind fun r => (yCl r.2 C r.1).bind fun vs => (vs[j]?).bind fun v => if tkB T v = true then some (v, r.2) else none
def yStv (n : Nat) (i : yEx) : yEx := fun L s => (i L s).bind fun r => if 0 ≤ r.1 ∧ r.1 < s_slen n then some (s_sv n r.1, r.2) else none
def yLen (C : Nat) (o : yEx) : yEx := fun L s => (o L s).bind fun r => (yCl r.2 C r.1).bind fun vs => if vs.length < 10000 then some ((vs.length : Int), r.2) else none
def yBin (f : Int → Int → Int) (a b : yEx) : yEx := fun L s => (a L s).bind fun r => (b L r.2).bind fun q => some (f r.1 q.1, q.2)
def yTern (c : yCn) (a b : yEx) : yEx := fun L s => (c L s).bind fun r => if r.1 = true then a L r.2 else b L r.2
def ysN : yXs := fun _ s => some ([], s)
def ysC (e : yEx) (es : yXs) : yXs := fun L s => (e L s).bind fun r => (es L r.2).bind fun q => some (r.1 :: q.1, q.2)
def yCall (f : yMd) (es : yXs) : yEx := fun L s => (es L s).bind fun r => f r.1 r.2
/-- new C; dup; arguments; the constructor, with its room -/
def yNew (C mc ms : Nat) (f : yMd) (vs0 : List Int) (es : yXs) : yEx := fun L s => (yNw s C vs0).bind fun r => (es L r.2).bind fun q => if mc ≤ q.2.2.1 ∧ ms ≤ q.2.2.2 then (f (r.1 :: q.1) (q.2.1, mc, ms)).bind fun t => some (r.1, (t.2.1, q.2.2.1 - mc, q.2.2.2 - ms)) else none
def yNa (n : yEx) : yEx := fun L s => (n L s).bind fun r => if 0 ≤ r.1 ∧ r.1 < 10000 then yNw r.2 8 (List.replicate r.1.toNat 0) else none
def yAna (A : Nat) (n : yEx) : yEx := fun L s => (n L s).bind fun r => if 0 ≤ r.1 ∧ r.1 < 10000 then yNw r.2 A (List.replicate r.1.toNat (-1)) else none
def zR (r : Int → Int → Bool) (a b : yEx) : yCn := fun L s => (a L s).bind fun x => (b L x.2).bind fun y => some (r x.1 y.1, y.2)
def zAnd (a b : yCn) : yCn := fun L s => (a L s).bind fun x => if x.1 = true then b L x.2 else some (false, x.2)
def zTrue (e : yEx) : yCn := fun L s => (e L s).bind fun x => some (decide (x.1 ≠ 0), x.2)
def uSkip : yDo := fun L s => some (none, L, s)
def uSeq (a b : yDo) : yDo := fun L s => (a L s).bind fun r => match r.1 with | some v => some (some v, r.2) | none => b r.2.1 r.2.2
def uSet (i : Nat) (e : yEx) : yDo := fun L s => (e L s).bind fun r => some (none, jup L i r.1, r.2)
def uInc (i : Nat) (n : Int) : yDo := fun L s => if irB (L i + n) = true then some (none, jup L i (L i + n), s) else none
def uPut (C j : Nat) (o e : yEx) : yDo := fun L s => (o L s).bind fun r => (e L r.2).bind fun q => (yCl q.2 C r.1).bind fun vs => if s_fty C j = 22 → q.1 = 0 ∨ q.1 = 1 then some (none, L, ySt q.2 C r.1 (vs.set j q.1)) else none
def uAst (C : Nat) (o i e : yEx) : yDo := fun L s => (o L s).bind fun r => (i L r.2).bind fun x => (e L x.2).bind fun q => (yCl q.2 C r.1).bind fun vs => if 0 ≤ x.1 ∧ x.1.toNat < vs.length then some (none, L, ySt q.2 C r.1 (vs.set x.1.toNat q.1)) else none
def uWh (c : yCn) (b : yDo) : Nat → yDo
  | 0 => fun _ _ => none
  | n + 1 => fun L s => (c L s).bind fun r => if r.1 = true then ((b L r.2).bind fun q => match q.1 with | some v => some (some v, q.2) | none => uWh c b n q.2.1 q.2.2) else some (none, L, r.2)
def uDo (f : yMd) (es : yXs) : yDo := fun L s => (es L s).bind fun r => (f r.1 r.2).bind fun q => some (none, L, q.2)
def uRet (e : yEx) : yDo := fun L s => (e L s).bind fun r => some (some r.1, L, r.2)
def uRetZ (e : yEx) : yDo := fun L s => (e L s).bind fun r => if r.1 = 0 ∨ r.1 = 1 then some (some r.1, L, r.2) else none
def uRet0 : yDo := fun L s => some (some 0, L, s)
/-- System.arraycopy(a static row, 0, o, 0, n), the whole row -/
def uCopy (n : Nat) (o : yEx) (len : yEx) : yDo := fun L s => (o L s).bind fun r => (len L r.2).bind fun q => (yCl q.2 8 r.1).bind fun vs => if q.1 = s_slen n ∧ (vs.length : Int) = s_slen n then some (none, L, ySt q.2 8 r.1 ((List.range vs.length).map (fun (j : Nat) => s_sv n (j : Int)))) else none
def yMeth (ps : List Nat) (b : yDo) : yMd := fun xs s => (b (jIn ps xs) s).bind fun r => match r.1 with | some v => some (v, r.2.2) | none => none
-- the world
def ySv (z : jZ) (C j : Nat) (v : Int) : Value := if yRf C j = true then (if v < 0 then .null else .ref (z.2.1 v)) else .int (Int32.ofInt v)
def yAt (z : jZ) (k : Nat) (q : Nat × List Int) (H : Heap) : Prop := ∃ cell : Cell, H[z.2.2.1.size + k]? = some cell ∧ cell.vm = .none ∧
  (q.1 < 8 → cell.cls = z.1.1 q.1 ∧ q.2.length = c_N q.1 ∧ ∀ j, j < c_N q.1 → cell.slots[z.1.2 q.1 j]? = some (ySv z q.1 j (q.2.getD j 0))) ∧
  (8 ≤ q.1 → cell = arrV (z.2.2.2 q.1) q.2.length (fun j => ySv z q.1 j (q.2.getD j 0)))
def yI (z : jZ) (A : yA) (H : Heap) : Prop := H.size = z.2.2.1.size + A.length ∧ (∀ q : Nat, q < z.2.2.1.size → H[q]? = z.2.2.1[q]?) ∧ (∀ (k : Nat) (q : Nat × List Int), A[k]? = some q → yAt z k q H) ∧ ∀ (k : Nat) (q : Nat × List Int), A[k]? = some q → q.1 < 13 ∧ ∀ v ∈ q.2, ir v
def yWz (z : jZ) : Prop := ∀ k : Nat, k < 144 → z.2.1 (k : Int) = z.2.2.1.size + k
def yAOi (U : State) : Prop := (Cond.arrayOver (.array .int)).before #[] U = true
theorem yAOi_moved {u U : State} (hvm : u.vm.Alike U.vm) (h : yAOi u) : yAOi U := by
  obtain ⟨comp, c, k, h1, h2, h3, h4, h5⟩ := arrayOverA_spec (t := .int) (args := #[]) (first := u) (s := u) (o := none) (idx := []) h
  obtain ⟨k', hk', he⟩ := hvm.2.2 _ _ h3
  have e1 := va_idx_bare U.vm comp
  have e2 := va_idx_bare u.vm comp
  have e3 : U.vm.bare = u.vm.bare := by first | exact hvm.bare_eq | exact hvm.bare_eq.symm
  rw [e3] at e1
  have hi := (e1.symm.trans e2).trans h2
  have hkind : k'.kind = .array comp (.array .int) := by rw [he]; exact h4
  have f1 : U.vm.findClass (FieldType.array .int).toString = some comp := by rw [hvm.findClass]; exact h1
  have f2 : U.vm.findClass ("[" ++ (FieldType.array .int).toString) = some c := by rw [hvm.findClass]; exact h5
  unfold yAOi Cond.before Cond.holds
  simp only [Cond.value]
  rw [f1, Option.bind_some]
  refine (congrArg (fun o : Option Nat => (o.bind (fun c => (U.vm.classes[c]?).map fun (k : Class) => match k.kind with | .array _ ty => decide (ty = FieldType.array .int) && decide (U.vm.findClass ("[" ++ (FieldType.array .int).toString) = some c) | _ => false) == some true)) hi).trans ?_
  simp [hk', hkind, f2]
def yKs (z : jZ) (s : State) : Prop := jK z s ∧ (∀ c : Nat, 8 ≤ c → c < 13 → s.vm.findClass ("[" ++ (jaty c).toString) = some (z.2.2.2 c)) ∧ va_AO RX3 s ∧ va_AO RX1 s ∧ va_AO RX4 s ∧ yAOi s
def yO (K : jKm) (z : jZ) (X : jAct) : Prop := match X with
  | (p, _, _, R, s, m, args, _, meth, c, _, _, _) => yWz z ∧ yKs z s ∧ p.tables.exec = Jvm.exec ∧ c.code = kmC K ∧ c.maxLocals = kmN K ∧ s.vm.findClass (kmY K).cls = some m.cls ∧ (∀ w ∈ tG, w.before args s = true) ∧ kmF K ≤ R.frames ∧ kmW K ≤ R.locals ∧ kmX K z s ∧ ((kmY K).name = "<init>" → meth.name = (kmY K).name)
theorem yO_facts {K : jKm} {z : jZ} {p l e R s m args below meth c ce sl Qf} (h : yO K z (p, l, e, R, s, m, args, below, meth, c, ce, sl, Qf)) : yWz z ∧ yKs z s ∧ p.tables.exec = Jvm.exec ∧ c.code = kmC K ∧ c.maxLocals = kmN K ∧ s.vm.findClass (kmY K).cls = some m.cls ∧ (∀ w ∈ tG, w.before args s = true) ∧ kmF K ≤ R.frames ∧ kmW K ≤ R.locals ∧ kmX K z s ∧ ((kmY K).name = "<init>" → meth.name = (kmY K).name) := h
def yG (z : jZ) (X : jAct) (pc : Nat) (ls : Array Slot) (st : List Value) (w : yS) : Prop := match X with
  | (p, l, e, R, s, m, args, below, meth, c, _, _, Qf) => ∀ (H : Heap) (locs : List Loc), yI z w.1 H → (∀ q ∈ locs, z.2.2.1.size ≤ q.base) → w.2.1 ≤ R.cells → w.2.2 ≤ R.slots → W p l e R s m args below meth c H locs (R.cells - w.2.1) (R.slots - w.2.2) Qf (F0 m pc ls st)
def yE (K : jKm) (G : jCt) (d pc p : Nat) (T : Nat) (e : yEx) : Prop := ∀ (z : jZ) (X : jAct), yO K z X → ∀ (L : jLo) (s : yS) (v : Int) (s' : yS) (ls : Array Slot) (st : List Value), jV K z G L ls → cats st ≤ d → e L s = some (v, s') → (jtk T v → yG z X p ls (jcv z T v :: st) s') → yG z X pc ls st s
def yEs (K : jKm) (G : jCt) (d pc p : Nat) (Ts : List Nat) (es : yXs) : Prop := ∀ (z : jZ) (X : jAct), yO K z X → ∀ (L : jLo) (s : yS) (vs : List Int) (s' : yS) (ls : Array Slot) (st : List Value), jV K z G L ls → cats st ≤ d → es L s = some (vs, s') → (jtks Ts vs → yG z X p ls ((jcvs z Ts vs).reverse ++ st) s') → yG z X pc ls st s
def yN (K : jKm) (G : jCt) (d pc t f : Nat) (c : yCn) : Prop := ∀ (z : jZ) (X : jAct), yO K z X → ∀ (L : jLo) (s : yS) (b : Bool) (s' : yS) (ls : Array Slot) (st : List Value), jV K z G L ls → cats st ≤ d → c L s = some (b, s') → yG z X (if b = true then t else f) ls st s' → yG z X pc ls st s
def yD (K : jKm) (G G' : jCt) (pc t : Nat) (b : yDo) : Prop := ∀ (z : jZ) (X : jAct), yO K z X → ∀ (L : jLo) (s : yS) (o : Option Int) (L' : jLo) (s' : yS) (ls : Array Slot), jV K z G L ls → b L s = some (o, L', s') → (o = none → ∀ ls', jV K z G' L' ls' → yG z X t ls' [] s') → (∀ (v : Int) (pr : Nat) ls', o = some v → decode (kmC K) pr = .ok (jRi (kmR K), 1) → jtk (kmR K) v → yG z X pr ls' (jRs z (kmR K) v) s') → yG z X pc ls [] s
theorem ystep {K : jKm} {z : jZ} {X : jAct} {pc pc' : Nat} {ls ls' : Array Slot} {st st' : List Value} {w : yS} (hO : yO K z X)
    (h : ∀ p l e R s m args below meth c ce sl Qf H locs, X = (p, l, e, R, s, m, args, below, meth, c, ce, sl, Qf) → p.tables.exec = Jvm.exec → c.code = kmC K → W p l e R s m args below meth c H locs (R.cells - w.2.1) (R.slots - w.2.2) Qf (F0 m pc' ls' st') → W p l e R s m args below meth c H locs (R.cells - w.2.1) (R.slots - w.2.2) Qf (F0 m pc ls st))
    (k : yG z X pc' ls' st' w) : yG z X pc ls st w := by
  obtain ⟨p, l, e, R, s, m, args, below, meth, c, ce, sl, Qf⟩ := X
  obtain ⟨-, -, hx, hb, -⟩ := yO_facts hO
  intro H locs hI hL h1 h2
  exact h p l e R s m args below meth c ce sl Qf H locs rfl hx hb (k H locs hI hL h1 h2)
-- values
theorem yE_iconst {K : jKm} {G : jCt} {d pc p : Nat} {n : Int} (hd : decode (kmC K) pc = .ok (.iconst n, 1)) (hp : p = pc + 1) (hn : ir n) : yE K G d pc p 20 (yC n) := by
  subst hp
  intro z X hO L s v s' ls st hV hc hq hk
  obtain ⟨rfl, rfl⟩ := Prod.mk.inj (Option.some.inj hq)
  exact ystep hO (fun p l e R s m args below meth c ce sl Qf H locs _ hx hb k => lv_iconst (v := Int32.ofInt n) hx hb hd rfl k) (hk hn)
theorem yE_bipush {K : jKm} {G : jCt} {d pc p : Nat} {n : Int} (hd : decode (kmC K) pc = .ok (.bipush n, 2)) (hp : p = pc + 2) (hn : ir n) (hv : (Int8.ofInt n).toInt32 = Int32.ofInt n) : yE K G d pc p 20 (yC n) := by
  subst hp
  intro z X hO L s v s' ls st hV hc hq hk
  obtain ⟨rfl, rfl⟩ := Prod.mk.inj (Option.some.inj hq)
  exact ystep hO (fun p l e R s m args below meth c ce sl Qf H locs _ hx hb k => lv_bipush (v := Int32.ofInt n) hx hb hd hv k) (hk hn)
theorem yE_sipush {K : jKm} {G : jCt} {d pc p : Nat} {n : Int} (hd : decode (kmC K) pc = .ok (.sipush n, 3)) (hp : p = pc + 3) (hn : ir n) (hv : (Int16.ofInt n).toInt32 = Int32.ofInt n) : yE K G d pc p 20 (yC n) := by
  subst hp
  intro z X hO L s v s' ls st hV hc hq hk
  obtain ⟨rfl, rfl⟩ := Prod.mk.inj (Option.some.inj hq)
  exact ystep hO (fun p l e R s m args below meth c ce sl Qf H locs _ hx hb k => lv_sipush (v := Int32.ofInt n) hx hb hd hv k) (hk hn)
theorem yE_iload_n {K : jKm} {G : jCt} {d pc p i : Nat} {k : Fin 4} (hd : decode (kmC K) pc = .ok (.iload_n k, 1)) (hi : (k : Nat) = i) (hp : p = pc + 1) (hm : (i, 20) ∈ G) : yE K G d pc p 20 (yV i) := by
  subst hp
  intro z X hO L s v s' ls st hV hc hq hk
  obtain ⟨rfl, rfl⟩ := Prod.mk.inj (Option.some.inj hq)
  exact ystep hO (fun p l e R s m args below meth c ce sl Qf H locs _ hx hb k => lv_iload_n hx hb hd hi (hV.2.2 _ hm).1 k) (hk (hV.2.2 _ hm).2)
theorem yE_iload {K : jKm} {G : jCt} {d pc p i : Nat} (hd : decode (kmC K) pc = .ok (.iload i, 2)) (hp : p = pc + 2) (hm : (i, 20) ∈ G) : yE K G d pc p 20 (yV i) := by
  subst hp
  intro z X hO L s v s' ls st hV hc hq hk
  obtain ⟨rfl, rfl⟩ := Prod.mk.inj (Option.some.inj hq)
  exact ystep hO (fun p l e R s m args below meth c ce sl Qf H locs _ hx hb k => lv_iload hx hb hd (hV.2.2 _ hm).1 k) (hk (hV.2.2 _ hm).2)
theorem yE_aload_n {K : jKm} {G : jCt} {d pc p i T : Nat} {k : Fin 4} (hd : decode (kmC K) pc = .ok (.aload_n k, 1)) (hi : (k : Nat) = i) (hp : p = pc + 1) (hm : (i, T) ∈ G) (hT : T < 20) : yE K G d pc p T (yV i) := by
  subst hp
  intro z X hO L s v s' ls st hV hc hq hk
  obtain ⟨rfl, rfl⟩ := Prod.mk.inj (Option.some.inj hq)
  have h := hk (hV.2.2 _ hm).2
  have h2 := (hV.2.2 _ hm).1
  dsimp only at h h2
  rw [jcvr hT] at h h2
  exact ystep hO (fun p l e R s m args below meth c ce sl Qf H locs _ hx hb k => lv_aload_n hx hb hd hi h2 k) h
theorem yCl_some {s : yS} {C : Nat} {k : Int} {vs : List Int} (h : yCl s C k = some vs) : 0 ≤ k ∧ s.1[k.toNat]? = some (C, vs) := by
  unfold yCl at h
  by_cases h0 : 0 ≤ k
  · rw [if_pos h0] at h
    cases hq : s.1[k.toNat]? with
    | none => rw [hq] at h; cases h
    | some q =>
      rw [hq] at h
      by_cases hc : q.1 = C
      · have h : some q.2 = some vs := by simpa [hc] using h
        refine ⟨h0, ?_⟩
        rw [← hc, ← Option.some.inj h]
      · simp [hc] at h
  · rw [if_neg h0] at h; cases h
theorem tkB_ok {T : Nat} {v : Int} (h : tkB T v = true) (hT : T < 20) : jtk T v := by
  unfold tkB at h
  simp only [Bool.and_eq_true, decide_eq_true_eq] at h
  exact (jtkr hT).mpr ⟨h.1, h.2.1, h.2.2⟩
theorem y_ad {z : jZ} {T : Nat} {k : Int} (hz : yWz z) (hT : T < 20) (h : jtk T k) : z.2.1 k = z.2.2.1.size + k.toNat := by
  obtain ⟨h0, h1, -⟩ := (jtkr hT).mp h
  have h1 : k < 144 := h1
  have := hz k.toNat (by omega)
  rwa [Int.toNat_of_nonneg h0] at this
theorem ySv_i {z : jZ} {C j : Nat} {v : Int} (h : yRf C j = false) : ySv z C j v = .int (Int32.ofInt v) := by
  unfold ySv; rw [h]; rfl
theorem ySv_r {z : jZ} {C j : Nat} {v : Int} (h : yRf C j = true) (h0 : 0 ≤ v) : ySv z C j v = .ref (z.2.1 v) := by
  unfold ySv; rw [h, if_pos rfl, if_neg (by omega)]
theorem yE_gr {K : jKm} {G : jCt} {d pc p1 p C i j T : Nat} {fin : Bool} {ji : Int} {o : yEx} (ho : yE K G d pc p1 C o) (hd : decode (kmC K) p1 = .ok (.getfield i, 3)) (hp : p = p1 + 3) (hF : jFd C j T fin) (hT : T < 20) (hw : Cond.fieldLink (kmY K).cls i (c_T C j).1 (c_T C j).2.1 (c_T C j).2.2.1 ∈ tG) : yE K G d pc p T (yGr C j T o) := by
  subst hp
  obtain ⟨hC, hN, hf, -⟩ := hF
  intro z X hO L s v s' ls st hV hc hq hk
  obtain ⟨⟨k, s1⟩, hq1, hq⟩ := Option.bind_eq_some_iff.mp hq
  obtain ⟨vs, hq2, hq⟩ := Option.bind_eq_some_iff.mp hq
  obtain ⟨w, hq3, hq⟩ := Option.bind_eq_some_iff.mp hq
  dsimp only at hq hq2 hq3
  by_cases hB : tkB T w = true
  · rw [if_pos hB] at hq
    obtain ⟨rfl, rfl⟩ := Prod.mk.inj (Option.some.inj hq)
    have htk := tkB_ok hB hT
    obtain ⟨k0, hA⟩ := yCl_some hq2
    refine ho z X hO L s k s1 ls st hV hc hq1 (fun hk1 => ?_)
    rw [jcvr (T := C) (x := k) (by omega)]
    obtain ⟨p, l, e, R, s0, m, args, below, meth, c, ce, sl, Qf⟩ := X
    obtain ⟨hz, hKs, hx, hb, -, hown, hts, -⟩ := yO_facts hO
    intro H locs hI hL g1 g2
    obtain ⟨cell, q1, q2, q3, -⟩ := hI.2.2.1 _ _ hA
    obtain ⟨q4, q5, q6⟩ := q3 hC
    obtain ⟨hS, hfc, kC, hkC, hkind⟩ := hKs.1.1.1 C _ (c_at hC)
    obtain ⟨cf, kf, fi, f, hi, hsl⟩ := hS j hN
    rw [y_ad (T := C) hz (by omega) hk1]
    refine W.getf hx hb hown (hts _ hw) hi (u_facts hfc hkC (u_lays hts (tG_lay C hC) hN) hi).1 q1 (by rw [q2]; exact fun h => by cases h) (v := ySv z C j w) ?_ rfl rfl hd ?_
    · have h := q6 j hN
      rw [List.getD_eq_getElem?_getD, hq3] at h
      rw [hsl]; exact h
    · have hw0 : 0 ≤ w := ((jtkr hT).mp htk).1
      have h := hk htk H locs hI hL g1 g2
      rw [jcvr hT] at h
      rw [ySv_r (by unfold yRf; rw [if_pos hC, hf]; exact decide_eq_true hT) hw0]
      exact h
  · rw [if_neg hB] at hq; cases hq
theorem yE_stv {K : jKm} {G : jCt} {d pc p1 p2 p n ix d2 : Nat} {i : yEx} (hd1 : decode (kmC K) pc = .ok (.getstatic ix, 3)) (hp1 : p1 = pc + 3) (hi : yE K G d2 p1 p2 20 i) (hd : decode (kmC K) p2 = .ok (.iaload, 1)) (hp : p = p2 + 1) (hn : n < 9) (hw : Cond.fieldLink (kmY K).cls ix RX6 (s_sname n) "[I" ∈ tG ∨ Cond.fieldLinkNest (kmY K).cls ix RX6 (s_sname n) "[I" RX6 ∈ nestW) (hd2 : d2 = d + 1) : yE K G d pc p 20 (yStv n i) := by
  subst hp; subst hd2; subst hp1
  intro z X hO L s v s' ls st hV hc hq hk
  obtain ⟨⟨x, s1⟩, hq1, hq⟩ := Option.bind_eq_some_iff.mp hq
  dsimp only at hq
  by_cases hin : 0 ≤ x ∧ x < s_slen n
  · rw [if_pos hin] at hq
    obtain ⟨rfl, rfl⟩ := Prod.mk.inj (Option.some.inj hq)
    obtain ⟨p, l, e, R, s0, m, args, below, meth, c, ce, sl, Qf⟩ := X
    obtain ⟨hz, hKs, hx, hb, -, hown, hts, -⟩ := yO_facts hO
    obtain ⟨a, cell, hZ, a1, a2, a3, a4, a5⟩ := hKs.1.2.2.2.1 n hn
    have hG := hi z _ hO L s x s1 ls (.ref a :: st) hV (by rw [cats_cons]; show 1 + cats st ≤ d + 1; omega) hq1 (fun hx1 => by
      intro H locs hI hL g1 g2
      have hr := jtk20.mp hx1
      have hcell : H[a]? = some cell := by rw [hI.2.1 a (Array.getElem?_eq_some_iff.mp a1).1]; exact a1
      refine W.iald (cc := kmC K) hx hb hcell a2 a3 (v := .int (Int32.ofInt (s_sv n x))) (j := Int32.ofInt x) ?_ ?_ rfl rfl hd ?_
      · rw [clamp32 hin.1 hr]
        rintro (q | q)
        · exact neg32 hin.1 hr q
        · have := hin; omega
      · rw [clamp32 hin.1 hr, a5 x.toNat (by have := hin; omega), Int.toNat_of_nonneg hin.1]
      · refine hk ?_ H locs hI hL g1 g2
        have h7 : ∀ n, n < 9 → ∀ j : Nat, j < (s_slen n).toNat → (-100 ≤ s_sv n j ∧ s_sv n j ≤ 100) := by decide +kernel
        have h8 := h7 n hn x.toNat (by have := hin; omega)
        rw [Int.toNat_of_nonneg hin.1] at h8
        exact ⟨by omega, by omega⟩)
    intro H locs hI hL g1 g2
    have hG2 := hG H locs hI hL g1 g2
    obtain ⟨cf, kf, fi, f, sa, scell, h1, h2, h3, h4, h5, h6, h7, h8⟩ := hZ
    have hsc : H[sa]? = some scell := by rw [hI.2.1 sa (Array.getElem?_eq_some_iff.mp h5).1]; exact h5
    rcases hw with hw | hw
    · exact W.gets hx hb hown (hts _ hw) h1 h2 h3 h4 hsc (fun e => by rw [e] at h6; cases h6) h7 rfl hd1 hG2
    · exact va_WgetsN hx hb hown (va_Nw.use rfl (hKs.1.2.2.1 _ hw)) h1 h2 h3 h4 hsc (fun e => by rw [e] at h6; cases h6) h7 rfl hd1 hG2
  · rw [if_neg hin] at hq; cases hq
/-- the length of a static row -/
theorem yE_slen {K : jKm} {G : jCt} {d pc p1 p n ix : Nat} {w : Int} (hd1 : decode (kmC K) pc = .ok (.getstatic ix, 3)) (hp1 : p1 = pc + 3) (hd : decode (kmC K) p1 = .ok (.arraylength, 1)) (hp : p = p1 + 1) (hn : n < 9) (hw : Cond.fieldLink (kmY K).cls ix RX6 (s_sname n) "[I" ∈ tG ∨ Cond.fieldLinkNest (kmY K).cls ix RX6 (s_sname n) "[I" RX6 ∈ nestW) (hv : w = s_slen n) : yE K G d pc p 20 (yC w) := by
  subst hp; subst hp1; subst hv
  intro z X hO L s v s' ls st hV hc hq hk
  obtain ⟨rfl, rfl⟩ := Prod.mk.inj (Option.some.inj hq)
  obtain ⟨p, l, e, R, s0, m, args, below, meth, c, ce, sl, Qf⟩ := X
  obtain ⟨hz, hKs, hx, hb, -, hown, hts, -⟩ := yO_facts hO
  obtain ⟨a, cell, hZ, a1, a2, a3, a4, a5⟩ := hKs.1.2.2.2.1 n hn
  intro H locs hI hL g1 g2
  have hcell : H[a]? = some cell := by rw [hI.2.1 a (Array.getElem?_eq_some_iff.mp a1).1]; exact a1
  have h9 : ∀ n, n < 9 → (0 ≤ s_slen n ∧ s_slen n < 100) := by decide +kernel
  have h9 := h9 n hn
  have hG2 := hk ⟨by omega, by omega⟩ H locs hI hL g1 g2
  obtain ⟨cf, kf, fi, f, sa, scell, h1, h2, h3, h4, h5, h6, h7, h8⟩ := hZ
  have hsc : H[sa]? = some scell := by rw [hI.2.1 sa (Array.getElem?_eq_some_iff.mp h5).1]; exact h5
  have hlen : cell.slots.size.toInt32 = Int32.ofInt (s_slen n) := a4.2
  have hB : W p l e R s0 m args below meth c H locs (R.cells - s.2.1) (R.slots - s.2.2) Qf (F0 m (pc + 3) ls (.ref a :: st)) := W.alen (cc := kmC K) hx hb hcell a2 hlen rfl rfl hd hG2
  rcases hw with hw | hw
  · exact W.gets hx hb hown (hts _ hw) h1 h2 h3 h4 hsc (fun e => by rw [e] at h6; cases h6) h7 rfl hd1 hB
  · exact va_WgetsN hx hb hown (va_Nw.use rfl (hKs.1.2.2.1 _ hw)) h1 h2 h3 h4 hsc (fun e => by rw [e] at h6; cases h6) h7 rfl hd1 hB
theorem yE_len {K : jKm} {G : jCt} {d pc p1 p A : Nat} {o : yEx} (ho : yE K G d pc p1 A o) (hd : decode (kmC K) p1 = .ok (.arraylength, 1)) (hp : p = p1 + 1) (hA : A < 13) (hA2 : 8 ≤ A) : yE K G d pc p 20 (yLen A o) := by
  subst hp
  intro z X hO L s v s' ls st hV hc hq hk
  obtain ⟨⟨k, s1⟩, hq1, hq⟩ := Option.bind_eq_some_iff.mp hq
  obtain ⟨vs, hq2, hq⟩ := Option.bind_eq_some_iff.mp hq
  dsimp only at hq hq2
  by_cases hlt : vs.length < 10000
  · rw [if_pos hlt] at hq
    obtain ⟨rfl, rfl⟩ := Prod.mk.inj (Option.some.inj hq)
    obtain ⟨k0, hAt⟩ := yCl_some hq2
    refine ho z X hO L s k s1 ls st hV hc hq1 (fun hk1 => ?_)
    rw [jcvr (T := A) (x := k) (by omega)]
    obtain ⟨p, l, e, R, s0, m, args, below, meth, c, ce, sl, Qf⟩ := X
    obtain ⟨hz, hKs, hx, hb, -, hown, hts, -⟩ := yO_facts hO
    intro H locs hI hL g1 g2
    obtain ⟨cell, q1, q2, -, q4⟩ := hI.2.2.1 _ _ hAt
    have q4 := q4 hA2
    rw [y_ad hz (by omega) hk1]
    refine W.alen hx hb (n := Int32.ofInt vs.length) q1 (by rw [q4]; exact hKs.1.2.1 A hA2 hA _ _) ?_ rfl rfl hd (hk ⟨by omega, by omega⟩ H locs hI hL g1 g2)
    rw [q4, arrV_size]; rfl
  · rw [if_neg hlt] at hq; cases hq
theorem yE_max {K : jKm} {G : jCt} {d pc p1 p2 p i d2 : Nat} {a b : yEx} (ha : yE K G d pc p1 20 a) (hb0 : yE K G d2 p1 p2 20 b) (hd : decode (kmC K) p2 = .ok (.invokestatic i, 3)) (hp : p = p2 + 3) (hw : Cond.methodLink (kmY K).cls i Lib.Math.max.name ∈ tG ∧ Cond.static Lib.Math.max.name ∈ tG ∧ Cond.initialized "java/lang/Math" ∈ tG ∧ Cond.code Lib.Math.max.name Lib.Math.max.code 2 (some .int) ∈ tG) (hr : 1 ≤ kmF K ∧ d + 13 ≤ kmW K) (hd2 : d2 = d + 1) : yE K G d pc p 20 (yBin max a b) := by
  subst hp; subst hd2
  intro z X hO L s v s' ls st hV hc hq hk
  obtain ⟨⟨x, s1⟩, hq1, hq⟩ := Option.bind_eq_some_iff.mp hq
  obtain ⟨⟨y, s2⟩, hq2, hq⟩ := Option.bind_eq_some_iff.mp hq
  obtain ⟨rfl, rfl⟩ := Prod.mk.inj (Option.some.inj hq)
  refine ha z X hO L s x s1 ls st hV hc hq1 (fun hx1 => ?_)
  refine hb0 z X hO L s1 y s2 ls _ hV (cats_push hc) hq2 (fun hy1 => ?_)
  have hx1 := jtk20.mp hx1
  have hy1 := jtk20.mp hy1
  obtain ⟨p, l, e, R, s0, m, args, below, meth, c, ce, sl, Qf⟩ := X
  obtain ⟨hz, hKs, hx, hb, hml, hown, hts, hf, hw', -⟩ := yO_facts hO
  intro H locs hI hL g1 g2
  refine va_mmax hx hb (hml.trans hV.1.symm) hown (hts _ hw.1) (hts _ hw.2.1) (hts _ hw.2.2.1) (hts _ hw.2.2.2) (Nat.le_trans hr.1 hf) ?_ (Nat.sub_le _ _) (Nat.sub_le _ _) hd ?_
  · have : cats st + 13 ≤ R.locals := by omega
    exact this
  · have h := hk (by have := hx1.1; have := hx1.2; have := hy1.1; have := hy1.2; constructor <;> omega) H locs hI hL g1 g2
    have e1 : (if Int32.ofInt x < Int32.ofInt y then Int32.ofInt y else Int32.ofInt x) = Int32.ofInt (max x y) := by
      by_cases h : x < y
      · rw [if_pos ((lt32 hx1 hy1).mpr h), Int.max_eq_right (by omega)]
      · rw [if_neg (fun q => h ((lt32 hx1 hy1).mp q)), Int.max_eq_left (by omega)]
    rw [e1]; exact h
theorem yE_min {K : jKm} {G : jCt} {d pc p1 p2 p i d2 : Nat} {a b : yEx} (ha : yE K G d pc p1 20 a) (hb0 : yE K G d2 p1 p2 20 b) (hd : decode (kmC K) p2 = .ok (.invokestatic i, 3)) (hp : p = p2 + 3) (hw : Cond.methodLink (kmY K).cls i Lib.Math.min.name ∈ tG ∧ Cond.static Lib.Math.min.name ∈ tG ∧ Cond.initialized "java/lang/Math" ∈ tG ∧ Cond.code Lib.Math.min.name Lib.Math.min.code 2 (some .int) ∈ tG) (hr : 1 ≤ kmF K ∧ d + 13 ≤ kmW K) (hd2 : d2 = d + 1) : yE K G d pc p 20 (yBin min a b) := by
  subst hp; subst hd2
  intro z X hO L s v s' ls st hV hc hq hk
  obtain ⟨⟨x, s1⟩, hq1, hq⟩ := Option.bind_eq_some_iff.mp hq
  obtain ⟨⟨y, s2⟩, hq2, hq⟩ := Option.bind_eq_some_iff.mp hq
  obtain ⟨rfl, rfl⟩ := Prod.mk.inj (Option.some.inj hq)
  refine ha z X hO L s x s1 ls st hV hc hq1 (fun hx1 => ?_)
  refine hb0 z X hO L s1 y s2 ls _ hV (cats_push hc) hq2 (fun hy1 => ?_)
  have hx1 := jtk20.mp hx1
  have hy1 := jtk20.mp hy1
  obtain ⟨p, l, e, R, s0, m, args, below, meth, c, ce, sl, Qf⟩ := X
  obtain ⟨hz, hKs, hx, hb, hml, hown, hts, hf, hw', -⟩ := yO_facts hO
  intro H locs hI hL g1 g2
  refine va_mmin hx hb (hml.trans hV.1.symm) hown (hts _ hw.1) (hts _ hw.2.1) (hts _ hw.2.2.1) (hts _ hw.2.2.2) (Nat.le_trans hr.1 hf) ?_ (Nat.sub_le _ _) (Nat.sub_le _ _) hd ?_
  · have : cats st + 13 ≤ R.locals := by omega
    exact this
  · have h := hk (by have := hx1.1; have := hx1.2; have := hy1.1; have := hy1.2; constructor <;> omega) H locs hI hL g1 g2
    have e1 : (if Int32.ofInt y < Int32.ofInt x then Int32.ofInt y else Int32.ofInt x) = Int32.ofInt (min x y) := by
      by_cases h : y < x
      · rw [if_pos ((lt32 hy1 hx1).mpr h), Int.min_eq_right (by omega)]
      · rw [if_neg (fun q => h ((lt32 hy1 hx1).mp q)), Int.min_eq_left (by omega)]
    rw [e1]; exact h
-- truths
theorem yN_and {K : jKm} {G : jCt} {d pc p1 t f : Nat} {a b : yCn} (ha : yN K G d pc p1 f a) (hb : yN K G d p1 t f b) : yN K G d pc t f (zAnd a b) := by
  intro z X hO L s b1 s' ls st hV hc hq hk
  obtain ⟨⟨x, s1⟩, hq1, hq⟩ := Option.bind_eq_some_iff.mp hq
  dsimp only at hq
  refine ha z X hO L s x s1 ls st hV hc hq1 ?_
  cases x with
  | true => exact hb z X hO L s1 b1 s' ls st hV hc hq hk
  | false =>
    obtain ⟨rfl, rfl⟩ := Prod.mk.inj (Option.some.inj hq)
    exact hk
theorem yE_goto {K : jKm} {G : jCt} {d pc p t T : Nat} {e : yEx} {off : Int} (h : yE K G d pc p T e) (hd : decode (kmC K) p = .ok (.goto off, 3)) (ht : (p : Int) + off = (t : Int)) : yE K G d pc t T e := by
  intro z X hO L s v s' ls st hV hc hq hk
  exact h z X hO L s v s' ls st hV hc hq (fun hv => ystep hO (fun p l e R s m args below meth c ce sl Qf H locs _ hx hb kk => lv_goto hx hb hd ht kk) (hk hv))
theorem yE_tern {K : jKm} {G : jCt} {d pc pa pb p T : Nat} {c : yCn} {a b : yEx} (hc : yN K G d pc pa pb c) (ha : yE K G d pa p T a) (hb : yE K G d pb p T b) : yE K G d pc p T (yTern c a b) := by
  intro z X hO L s v s' ls st hV hcs hq hk
  obtain ⟨⟨x, s1⟩, hq1, hq⟩ := Option.bind_eq_some_iff.mp hq
  dsimp only at hq
  refine hc z X hO L s x s1 ls st hV hcs hq1 ?_
  cases x with
  | true => exact ha z X hO L s1 v s' ls st hV hcs hq hk
  | false => exact hb z X hO L s1 v s' ls st hV hcs hq hk
theorem yN_icmp_gt_n {K : jKm} {G : jCt} {d d1 pc p1 p2 p3 tgt : Nat} {a b : yEx} {off : Int} (ha : yE K G d pc p1 20 a) (hb : yE K G d1 p1 p2 20 b) (hd : decode (kmC K) p2 = .ok (.if_icmp .gt off, 3)) (hp : p3 = p2 + 3) (ht : (p2 : Int) + off = (tgt : Int)) (hd1 : d1 = d + 1) : yN K G d pc p3 tgt (zR (fun x y => decide (x ≤ y)) a b) := by
  subst hp; subst hd1
  intro z X hO L s v s' ls st hV hc hq hk
  obtain ⟨⟨x, s1⟩, hq1, hq⟩ := Option.bind_eq_some_iff.mp hq
  obtain ⟨⟨y, s2⟩, hq2, hq⟩ := Option.bind_eq_some_iff.mp hq
  obtain ⟨rfl, rfl⟩ := Prod.mk.inj (Option.some.inj hq)
  refine ha z X hO L s x s1 ls st hV hc hq1 (fun hv1 => ?_)
  refine hb z X hO L s1 y s2 ls _ hV (cats_push hc) hq2 (fun hv2 => ?_)
  rw [jtk20] at hv1 hv2
  obtain ⟨p, l, e, R, s0, m, args, below, meth, c, ce, sl, Qf⟩ := X
  obtain ⟨hz, hKs, hx, hb, -⟩ := yO_facts hO
  intro H locs hI hL g1 g2
  dsimp only at hk
  refine lv_icmp_gt hx hb hd ht (fun q => ?_) (fun q => ?_)
  · have q := (lt32 hv2 hv1).mp q
    rw [if_neg (by simp; omega)] at hk
    exact hk H locs hI hL g1 g2
  · have q : ¬ (y < x) := fun h => q ((lt32 hv2 hv1).mpr h)
    rw [if_pos (by simp; omega)] at hk
    exact hk H locs hI hL g1 g2
theorem yN_icmp_ge_n {K : jKm} {G : jCt} {d d1 pc p1 p2 p3 tgt : Nat} {a b : yEx} {off : Int} (ha : yE K G d pc p1 20 a) (hb : yE K G d1 p1 p2 20 b) (hd : decode (kmC K) p2 = .ok (.if_icmp .ge off, 3)) (hp : p3 = p2 + 3) (ht : (p2 : Int) + off = (tgt : Int)) (hd1 : d1 = d + 1) : yN K G d pc p3 tgt (zR (fun x y => decide (x < y)) a b) := by
  subst hp; subst hd1
  intro z X hO L s v s' ls st hV hc hq hk
  obtain ⟨⟨x, s1⟩, hq1, hq⟩ := Option.bind_eq_some_iff.mp hq
  obtain ⟨⟨y, s2⟩, hq2, hq⟩ := Option.bind_eq_some_iff.mp hq
  obtain ⟨rfl, rfl⟩ := Prod.mk.inj (Option.some.inj hq)
  refine ha z X hO L s x s1 ls st hV hc hq1 (fun hv1 => ?_)
  refine hb z X hO L s1 y s2 ls _ hV (cats_push hc) hq2 (fun hv2 => ?_)
  rw [jtk20] at hv1 hv2
  obtain ⟨p, l, e, R, s0, m, args, below, meth, c, ce, sl, Qf⟩ := X
  obtain ⟨hz, hKs, hx, hb, -⟩ := yO_facts hO
  intro H locs hI hL g1 g2
  dsimp only at hk
  refine lv_icmp_ge hx hb hd ht (fun q => ?_) (fun q => ?_)
  · have q := (le32 hv2 hv1).mp q
    rw [if_neg (by simp; omega)] at hk
    exact hk H locs hI hL g1 g2
  · have q : ¬ (y ≤ x) := fun h => q ((le32 hv2 hv1).mpr h)
    rw [if_pos (by simp; omega)] at hk
    exact hk H locs hI hL g1 g2
theorem yN_if_eq_n {K : jKm} {G : jCt} {d pc p1 p3 tgt : Nat} {a : yEx} {off : Int} (ha : yE K G d pc p1 20 a) (hd : decode (kmC K) p1 = .ok (.ifCond .eq off, 3)) (hp : p3 = p1 + 3) (ht : (p1 : Int) + off = (tgt : Int)) : yN K G d pc p3 tgt (zTrue a) := by
  subst hp
  intro z X hO L s v s' ls st hV hc hq hk
  obtain ⟨⟨x, s1⟩, hq1, hq⟩ := Option.bind_eq_some_iff.mp hq
  obtain ⟨rfl, rfl⟩ := Prod.mk.inj (Option.some.inj hq)
  refine ha z X hO L s x s1 ls st hV hc hq1 (fun hv1 => ?_)
  rw [jtk20] at hv1
  have hv2 : ir 0 := ⟨by decide, by decide⟩
  obtain ⟨p, l, e, R, s0, m, args, below, meth, c, ce, sl, Qf⟩ := X
  obtain ⟨hz, hKs, hx, hb, -⟩ := yO_facts hO
  intro H locs hI hL g1 g2
  dsimp only at hk
  refine lv_if_eq hx hb hd ht (fun q => ?_) (fun q => ?_)
  · have q : x = 0 := (eq32 hv1 hv2).mp q
    rw [if_neg (by simp [q])] at hk
    exact hk H locs hI hL g1 g2
  · have q : ¬ x = 0 := fun h => q ((eq32 hv1 hv2).mpr h)
    rw [if_pos (by simp [q])] at hk
    exact hk H locs hI hL g1 g2
