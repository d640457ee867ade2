/-! the words of the tables, the classes' fields -/
def c_R (c : Nat) : String := (vwCl.getD c ("", fun _ => ("", "", "", false), 0)).1
def c_T (c : Nat) : u_T := (vwCl.getD c ("", fun _ => ("", "", "", false), 0)).2.1
def c_N (c : Nat) : Nat := (vwCl.getD c ("", fun _ => ("", "", "", false), 0)).2.2
def tG : List Cond := lw_tbl.filter goodWord
def nestOk (w : Cond) : Bool := match w with | .methodLinkNest .. => true | .fieldLinkNest .. => true | _ => false
def nestW : List Cond := lw_tbl.filter nestOk
/-- what a called method must have among the words -/
abbrev jCl (y : MethodName) (cc : ByteArray) (nL : Nat) (rt : Option FieldType) (n : Nat) : Prop := Cond.initialized y.cls ∈ tG ∧ Cond.code y cc nL rt ∈ tG ∧ (y.cls ≠ "java/lang/invoke/MethodHandle" ∧ y.cls ≠ "java/lang/invoke/VarHandle") ∧ (parseMethodDescriptor y.desc).map (fun d => d.parameters.length) = some n
abbrev jFd (C j T : Nat) (fin : Bool) : Prop := C < 8 ∧ j < c_N C ∧ s_fty C j = T ∧ (c_T C j).2.2.2 = fin
theorem tGm {i : Nat} {w : Cond} (h : lw_tbl[i]? = some w) (g : goodWord w = true) : w ∈ tG := List.mem_filter.mpr ⟨List.mem_of_getElem? h, g⟩
theorem nWm {i : Nat} {w : Cond} (h : lw_tbl[i]? = some w) (g : nestOk w = true) : w ∈ nestW := List.mem_filter.mpr ⟨List.mem_of_getElem? h, g⟩
