/-! THE MEANING OF CODE as what it asks of its start (each word takes what must hold behind it), over one fixed world of cells; then: code that is laid like a word does what the word says. -/
abbrev jLo : Type := Nat → Int
abbrev jMm : Type := Int → Int → Int
abbrev jEx : Type := jLo → jMm → (Int → jMm → Prop) → Prop
abbrev jXs : Type := jLo → jMm → (List Int → jMm → Prop) → Prop
abbrev jCn : Type := jLo → jMm → (jMm → Prop) → (jMm → Prop) → Prop
abbrev jSt : Type := jLo → jMm → (jLo → jMm → Prop) → (Int → jMm → Prop) → Prop
abbrev jMd : Type := List Int → jMm → (Int → jMm → Prop) → Prop
abbrev jBo : Type := Int → Int → (Int → Prop) → Prop
def ir (x : Int) : Prop := -2147483648 ≤ x ∧ x ≤ 2147483647
def lr (x : Int) : Prop := -9223372036854775808 ≤ x ∧ x ≤ 9223372036854775807
def jup (L : jLo) (i : Nat) (v : Int) : jLo := fun j => if j = i then v else L j
def jwr (M : jMm) (k j v : Int) : jMm := fun a b => if a = k ∧ b = j then v else M a b
def jwR (M : jMm) (k j n : Int) (f : Int → Int) : jMm := fun a b => if a = k ∧ j ≤ b ∧ b < j + n then f b else M a b
-- numbers
def b_or (x y : Int) : Int := (Int32.ofInt x ||| Int32.ofInt y).toInt
def b_and (x y : Int) : Int := (Int32.ofInt x &&& Int32.ofInt y).toInt
def b_shl (x y : Int) : Int := (Int32.ofInt x <<< (Int32.ofInt y &&& 31)).toInt
def b_shr (x y : Int) : Int := (Int32.ofInt x >>> (Int32.ofInt y &&& 31)).toInt
def u_i2b (x : Int) : Int := (Int32.ofInt x).toInt8.toInt32.toInt
def u_i2s (x : Int) : Int := (Int32.ofInt x).toInt16.toInt32.toInt
def u_i2c (x : Int) : Int := ((Int32.ofInt x).toUInt32 % 65536).toInt32.toInt
def u_l2i (x : Int) : Int := (Int64.ofInt x).toInt32.toInt
def l_and (x y : Int) : Int := (Int64.ofInt x &&& Int64.ofInt y).toInt
def l_or (x y : Int) : Int := (Int64.ofInt x ||| Int64.ofInt y).toInt
def l_shr (x y : Int) : Int := (Int64.ofInt x >>> ((Int32.ofInt y).toInt64 &&& 63)).toInt
def l_shl (x y : Int) : Int := (Int64.ofInt x <<< ((Int32.ofInt y).toInt64 &&& 63)).toInt
def boAdd : jBo := fun x y Q => ir (x + y) ∧ Q (x + y)
def boSub : jBo := fun x y Q => ir (x - y) ∧ Q (x - y)
def boMul : jBo := fun x y Q => ir (x * y) ∧ Q (x * y)
def boDiv : jBo := fun x y Q => (0 ≤ x ∧ 0 < y) ∧ Q (x / y)
def boRem : jBo := fun x y Q => (0 ≤ x ∧ 0 < y) ∧ Q (x % y)
def boOr : jBo := fun x y Q => Q (b_or x y)
def boAnd : jBo := fun x y Q => Q (b_and x y)
def boShl : jBo := fun x y Q => Q (b_shl x y)
def boShr : jBo := fun x y Q => Q (b_shr x y)
def boMax : jBo := fun x y Q => Q (max x y)
def boMin : jBo := fun x y Q => Q (min x y)
def boLand : jBo := fun x y Q => Q (l_and x y)
def boLor : jBo := fun x y Q => Q (l_or x y)
def boLshr : jBo := fun x y Q => Q (l_shr x y)
def boLshl : jBo := fun x y Q => Q (l_shl x y)
def boLadd : jBo := fun x y Q => lr (x + y) ∧ Q (x + y)
-- words of value
def xC (n : Int) : jEx := fun _ M Q => Q n M
def xV (i : Nat) : jEx := fun L M Q => Q (L i) M
def xGf (o : jEx) (j : Int) : jEx := fun L M Q => o L M fun k M => Q (M k j) M
def xGr (o : jEx) (j : Int) : jEx := fun L M Q => o L M fun k M => Q (s_rf k j) M
def xAl (o i : jEx) : jEx := fun L M Q => o L M fun k M => i L M fun x M => (0 ≤ x ∧ x < s_len k) ∧ Q (M k x) M
def xAr (o i : jEx) : jEx := fun L M Q => o L M fun k M => i L M fun x M => (0 ≤ x ∧ x < s_len k) ∧ Q (s_rf k x) M
def xSt (n : Nat) (i : jEx) : jEx := fun L M Q => i L M fun x M => (0 ≤ x ∧ x < s_slen n) ∧ Q (s_sv n x) M
def xLen (o : jEx) : jEx := fun L M Q => o L M fun k M => Q (s_len k) M
def xBin (b : jBo) (a c : jEx) : jEx := fun L M Q => a L M fun x M => c L M fun y M => b x y fun v => Q v M
def xUn (u : Int → Int) (a : jEx) : jEx := fun L M Q => a L M fun x M => Q (u x) M
def xNeg (a : jEx) : jEx := fun L M Q => a L M fun x M => ir (-x) ∧ Q (-x) M
def xTern (c : jCn) (a b : jEx) : jEx := fun L M Q => c L M (fun M => a L M Q) (fun M => b L M Q)
def xsN : jXs := fun _ M Q => Q [] M
def xsC (e : jEx) (es : jXs) : jXs := fun L M Q => e L M fun v M => es L M fun vs M => Q (v :: vs) M
def xCall (f : jMd) (es : jXs) : jEx := fun L M Q => es L M fun vs M => f vs M Q
-- words of truth
def kR (r : Int → Int → Prop) (a b : jEx) : jCn := fun L M T F => a L M fun x M => b L M fun y M => (r x y → T M) ∧ (¬ r x y → F M)
def kZ (r : Int → Int → Prop) (a : jEx) : jCn := fun L M T F => a L M fun x M => (r x 0 → T M) ∧ (¬ r x 0 → F M)
def kAnd (a b : jCn) : jCn := fun L M T F => a L M (fun M => b L M T F) F
def kOr (a b : jCn) : jCn := fun L M T F => a L M T (fun M => b L M T F)
def kNot (a : jCn) : jCn := fun L M T F => a L M F T
-- words of deed
def tSkip : jSt := fun L M N _ => N L M
def tSeq (a b : jSt) : jSt := fun L M N R => a L M (fun L M => b L M N R) R
def tIf (c : jCn) (a b : jSt) : jSt := fun L M N R => c L M (fun M => a L M N R) (fun M => b L M N R)
def tSet (i : Nat) (e : jEx) : jSt := fun L M N _ => e L M fun v M => N (jup L i v) M
def tInc (i : Nat) (n : Int) : jSt := fun L M N _ => ir (L i + n) ∧ N (jup L i (L i + n)) M
def tPut (o : jEx) (j : Int) (e : jEx) : jSt := fun L M N _ => o L M fun k M => e L M fun v M => N L (jwr M k j v)
def tPutZ (o : jEx) (j : Int) (e : jEx) : jSt := fun L M N _ => o L M fun k M => e L M fun v M => (v = 0 ∨ v = 1) ∧ N L (jwr M k j v)
def tPutO (b : jBo) (o : jEx) (j : Int) (e : jEx) : jSt := fun L M N _ => o L M fun k M => e L M fun v M1 => b (M k j) v fun r => N L (jwr M1 k j r)
def tAst (o i e : jEx) : jSt := fun L M N _ => o L M fun k M => i L M fun x M => e L M fun v M => (0 ≤ x ∧ x < s_len k) ∧ N L (jwr M k x v)
def tAstO (b : jBo) (o i e : jEx) : jSt := fun L M N _ => o L M fun k M => i L M fun x M => (0 ≤ x ∧ x < s_len k) ∧ e L M fun v M1 => b (M k x) v fun r => N L (jwr M1 k x r)
def tDo (f : jMd) (es : jXs) : jSt := fun L M N _ => es L M fun vs M => f vs M fun _ M => N L M
def tRet (e : jEx) : jSt := fun L M _ R => e L M R
def tRetZ (e : jEx) : jSt := fun L M _ R => e L M fun v M => (v = 0 ∨ v = 1) ∧ R v M
def tRet0 : jSt := fun _ M _ R => R 0 M
def tWhN (c : jCn) (b : jSt) : Nat → jSt
  | 0 => fun _ _ _ _ => False
  | n + 1 => fun L M N R => c L M (fun M => b L M (fun L M => tWhN c b n L M N R) R) (fun M => N L M)
def tWh (c : jCn) (b : jSt) : jSt := fun L M N R => ∃ n, tWhN c b n L M N R
def tSwS (lo : Int) (ss : List jSt) (d : jSt) (v : Int) : jSt := match ss with
  | [] => d
  | s :: ss => fun L M N R => (v = lo → s L M N R) ∧ (¬ v = lo → tSwS (lo + 1) ss d v L M N R)
def tSw (lo : Int) (e : jEx) (ss : List jSt) (d : jSt) : jSt := fun L M N R => e L M fun v M => tSwS lo ss d v L M N R
def tCopy (a i b j n : jEx) : jSt := fun L M N _ => a L M fun k M => i L M fun x M => b L M fun h M => j L M fun y M => n L M fun z M => (0 ≤ x ∧ 0 ≤ y ∧ 0 ≤ z ∧ x + z ≤ s_len k ∧ y + z ≤ s_len h) ∧ N L (jwR M h y z (fun q => M k (q - y + x)))
-- a method
def jIn : List Nat → List Int → jLo
  | p :: ps, x :: xs => fun i => if i = p then x else jIn ps xs i
  | _, _ => fun _ => 0
def jMeth (ps : List Nat) (b : jSt) : jMd := fun xs M Q => b (jIn ps xs) M (fun _ _ => False) Q
