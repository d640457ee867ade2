/-! the world in the heap; an activation; code that keeps a word -/
abbrev jZ : Type := va_G × (Int → Nat) × Heap × (Nat → ClassId)
abbrev jAct : Type := Program × Launch × Env × Room × State × MethodId × Array Value × List Frame × Method × Code × Nat × Nat × (State → Prop)
/-- a method: name, code, locals, frames and words of room below it, the kind of its answer, that as a type, the kinds of what it takes, their places, what else holds at its start -/
abbrev jKm : Type := MethodName × ByteArray × Nat × Nat × Nat × Nat × Option FieldType × List Nat × List Nat × (jZ → State → Prop)
abbrev kmY (K : jKm) : MethodName := K.1
abbrev kmC (K : jKm) : ByteArray := K.2.1
abbrev kmN (K : jKm) : Nat := K.2.2.1
abbrev kmF (K : jKm) : Nat := K.2.2.2.1
abbrev kmW (K : jKm) : Nat := K.2.2.2.2.1
abbrev kmR (K : jKm) : Nat := K.2.2.2.2.2.1
abbrev kmT (K : jKm) : Option FieldType := K.2.2.2.2.2.2.1
abbrev kmA (K : jKm) : List Nat := K.2.2.2.2.2.2.2.1
abbrev kmP (K : jKm) : List Nat := K.2.2.2.2.2.2.2.2.1
abbrev kmX (K : jKm) : jZ → State → Prop := K.2.2.2.2.2.2.2.2.2
abbrev jCt : Type := List (Nat × Nat)
theorem c_at {c : Nat} (h : c < 8) : vwCl[c]? = some (c_R c, c_T c, c_N c) := by
  match c, h with
  | 0, _ => rfl
  | 1, _ => rfl
  | 2, _ => rfl
  | 3, _ => rfl
  | 4, _ => rfl
  | 5, _ => rfl
  | 6, _ => rfl
  | 7, _ => rfl
def jtk (T : Nat) (v : Int) : Prop := if T = 21 then lr v else if T < 20 then 0 ≤ v ∧ v < s_NM ∧ s_kind v = T else if T = 22 then (v = 0 ∨ v = 1) else if T = 23 then v = 0 else if T = 24 then (v = 144 ∨ v = 145) else if T = 25 then (v = 146 ∨ v = 147) else if T = 27 then v = 0 else if T = 28 then v = 148 else ir v
def jcv (z : jZ) (T : Nat) (v : Int) : Value := if T = 21 then .long (Int64.ofInt v) else if T < 20 then .ref (z.2.1 v) else if T = 24 ∨ T = 25 ∨ T = 28 then .ref (z.2.1 v) else .int (Int32.ofInt v)
def jtks : List Nat → List Int → Prop
  | [], [] => True
  | T :: Ts, v :: vs => jtk T v ∧ jtks Ts vs
  | _, _ => False
def jcvs (z : jZ) : List Nat → List Int → List Value
  | T :: Ts, v :: vs => jcv z T v :: jcvs z Ts vs
  | _, _ => []
def jSv (z : jZ) (M : jMm) (k : Int) (j : Nat) : Value := if s_isr k j = true then .ref (z.2.1 (s_rf k j)) else .int (Int32.ofInt (M k j))
def jCell (z : jZ) (M : jMm) (k : Int) (H : Heap) : Prop := ∃ cell : Cell, H[z.2.1 k]? = some cell ∧ cell.vm = .none ∧
  (s_kind k < 8 → cell.cls = z.1.1 (s_kind k) ∧ ∀ j, j < c_N (s_kind k) → cell.slots[z.1.2 (s_kind k) j]? = some (jSv z M k j)) ∧
  (8 ≤ s_kind k → cell = arrV (z.2.2.2 (s_kind k)) (s_len k).toNat (jSv z M k))
def jI (z : jZ) (M : jMm) (H : Heap) : Prop := z.2.2.1.size ≤ H.size ∧ (∀ q : Nat, q < z.2.2.1.size → H[q]? = z.2.2.1[q]?) ∧ (∀ k : Int, 0 ≤ k → k < s_NM → jCell z M k H) ∧ ∀ k j, ir (M k j)
/-- the addresses are apart, and behind the start's -/
def jWz (z : jZ) : Prop := (∀ k h : Int, 0 ≤ k → k < s_NM → 0 ≤ h → h < s_NM → z.2.1 k = z.2.1 h → k = h) ∧ ∀ k : Int, 0 ≤ k → k < s_NM → z.2.2.1.size ≤ z.2.1 k
def jaty (c : Nat) : FieldType := if c = 9 then .array .int else if c = 10 then .object RX3 else if c = 11 then .object RX1 else if c = 12 then .object RX4 else .int
def jStat (z : jZ) (s : State) (n : Nat) : Prop := ∃ (a : Nat) (cell : Cell), va_Z RX6 (s_sname n) "[I" (.ref a) (fun q => z.2.2.1.size ≤ q) s z.2.2.1 ∧ z.2.2.1[a]? = some cell ∧ s.isArrayOf cell .int ∧ cell.vm ≠ .unknown ∧ (s_slen n ≤ (cell.slots.size : Int) ∧ cell.slots.size.toInt32 = Int32.ofInt (s_slen n)) ∧ ∀ j : Nat, (j : Int) < s_slen n → cell.slots[j]? = some (.int (Int32.ofInt (s_sv n j)))
/-- the two texts, at 144, 145 of the world's numbers; their bytes at 146, 147 -/
def tx_len : List Nat := [2, 5]
def tx_byt : List (List Int32) := [[117, 100], [115, 119, 98, 99, 102]]
def jStr (z : jZ) (s : State) : Prop := vk_S 2 tx_len tx_byt (fun i => z.2.1 (144 + i)) (fun i => z.2.1 (146 + i)) (fun q => z.2.2.1.size ≤ q) s z.2.2.1 ∧ vk_R RX5 45 "ud" (z.2.1 144) s ∧ vk_R RX5 55 "swbcf" (z.2.1 145) s ∧ va_Z "java/lang/String" "COMPACT_STRINGS" "Z" (.int 1) (fun q => z.2.2.1.size ≤ q) s z.2.2.1
def jK (z : jZ) (s : State) : Prop := va_K z.1 vwCl [] s ∧ (∀ c : Nat, 8 ≤ c → c < 13 → ArrOfT s (z.2.2.2 c) (jaty c)) ∧ (∀ w ∈ nestW, va_Nw w s) ∧ (∀ n : Nat, n < 9 → jStat z s n) ∧ jStr z s
def jG (z : jZ) (X : jAct) (pc : Nat) (ls : Array Slot) (st : List Value) (M : jMm) : Prop := ∀ (H : Heap) (locs : List Loc), jI z M H → (∀ q ∈ locs, z.2.2.1.size ≤ q.base) →
  W X.1 X.2.1 X.2.2.1 X.2.2.2.1 X.2.2.2.2.1 X.2.2.2.2.2.1 X.2.2.2.2.2.2.1 X.2.2.2.2.2.2.2.1 X.2.2.2.2.2.2.2.2.1 X.2.2.2.2.2.2.2.2.2.1 H locs X.2.2.2.2.2.2.2.2.2.2.1 X.2.2.2.2.2.2.2.2.2.2.2.1 X.2.2.2.2.2.2.2.2.2.2.2.2 (F0 X.2.2.2.2.2.1 pc ls st)
/-- an activation of K -/
def jO (K : jKm) (z : jZ) (X : jAct) : Prop := match X with
  | (p, _, _, R, s, m, args, _, _, c, ce, sl, _) => jWz z ∧ jK z s ∧ p.tables.exec = Jvm.exec ∧ c.code = kmC K ∧ c.maxLocals = kmN K ∧ s.vm.findClass (kmY K).cls = some m.cls ∧ (∀ w ∈ tG, w.before args s = true) ∧ kmF K ≤ R.frames ∧ kmW K ≤ R.locals ∧ ce ≤ R.cells ∧ sl ≤ R.slots ∧ kmX K z s
def jV (K : jKm) (z : jZ) (G : jCt) (L : jLo) (ls : Array Slot) : Prop := ls.size = kmN K ∧ lv_wf ls ∧ ∀ q ∈ G, ls[q.1]? = some (.val (jcv z q.2 (L q.1))) ∧ jtk q.2 (L q.1)
def cats (st : List Value) : Nat := (st.map fun v => v.category).sum
/-- code from pc to p lays the value of e -/
def jE (K : jKm) (G : jCt) (d pc p : Nat) (T : Nat) (e : jEx) : Prop := ∀ (z : jZ) (X : jAct), jO K z X → ∀ (L : jLo) (M : jMm) (Q : Int → jMm → Prop) (ls : Array Slot) (st : List Value), jV K z G L ls → cats st ≤ d → e L M Q → (∀ v M', jtk T v → Q v M' → jG z X p ls (jcv z T v :: st) M') → jG z X pc ls st M
def jEs (K : jKm) (G : jCt) (d pc p : Nat) (Ts : List Nat) (es : jXs) : Prop := ∀ (z : jZ) (X : jAct), jO K z X → ∀ (L : jLo) (M : jMm) (Q : List Int → jMm → Prop) (ls : Array Slot) (st : List Value), jV K z G L ls → cats st ≤ d → es L M Q → (∀ vs M', jtks Ts vs → Q vs M' → jG z X p ls ((jcvs z Ts vs).reverse ++ st) M') → jG z X pc ls st M
def jC (K : jKm) (G : jCt) (d pc t f : Nat) (c : jCn) : Prop := ∀ (z : jZ) (X : jAct), jO K z X → ∀ (L : jLo) (M : jMm) (T F : jMm → Prop) (ls : Array Slot) (st : List Value), jV K z G L ls → cats st ≤ d → c L M T F → (∀ M', T M' → jG z X t ls st M') → (∀ M', F M' → jG z X f ls st M') → jG z X pc ls st M
/-- the instruction at pc works as b -/
def jB (K : jKm) (d pc p : Nat) (T1 T2 T : Nat) (b : jBo) : Prop := ∀ (z : jZ) (X : jAct), jO K z X → ∀ (M : jMm) (Q : Int → Prop) (ls : Array Slot) (st : List Value) (x y : Int), ls.size = kmN K → cats st ≤ d → jtk T1 x → jtk T2 y → b x y Q → (∀ v, jtk T v → Q v → jG z X p ls (jcv z T v :: st) M) → jG z X pc ls (jcv z T2 y :: jcv z T1 x :: st) M
def jRi (T : Nat) : Instr := if T = 23 then .return_ else if T < 20 then .areturn else .ireturn
def jRs (z : jZ) (T : Nat) (v : Int) : List Value := if T = 23 then [] else [jcv z T v]
/-- code from pc to p does s -/
def jS (K : jKm) (G G' : jCt) (pc t : Nat) (s : jSt) : Prop := ∀ (z : jZ) (X : jAct), jO K z X → ∀ (L : jLo) (M : jMm) (N : jLo → jMm → Prop) (R : Int → jMm → Prop) (ls : Array Slot), jV K z G L ls → s L M N R → (∀ L' M' ls', jV K z G' L' ls' → N L' M' → jG z X t ls' [] M') → (∀ (pr : Nat) ls' v M', decode (kmC K) pr = .ok (jRi (kmR K), 1) → jtk (kmR K) v → R v M' → jG z X pr ls' (jRs z (kmR K) v) M') → jG z X pc ls [] M
