/-! what is asked has at most one answer -/
def dtE (e : jEx) : Prop := ∀ (L : jLo) (M : jMm), (∃ (v : Int) (M' : jMm), ∀ Q, e L M Q = Q v M') ∨ ∀ Q, e L M Q = False
def dtX (e : jXs) : Prop := ∀ (L : jLo) (M : jMm), (∃ (v : List Int) (M' : jMm), ∀ Q, e L M Q = Q v M') ∨ ∀ Q, e L M Q = False
def dtC (c : jCn) : Prop := ∀ (L : jLo) (M : jMm), (∃ M' : jMm, ∀ T F, c L M T F = T M') ∨ (∃ M' : jMm, ∀ T F, c L M T F = F M') ∨ ∀ T F, c L M T F = False
def dtS (s : jSt) : Prop := ∀ (L : jLo) (M : jMm), (∃ (L' : jLo) (M' : jMm), ∀ N R, s L M N R = N L' M') ∨ (∃ (v : Int) (M' : jMm), ∀ N R, s L M N R = R v M') ∨ ∀ N R, s L M N R = False
def dtM (f : jMd) : Prop := ∀ (xs : List Int) (M : jMm), (∃ (v : Int) (M' : jMm), ∀ Q, f xs M Q = Q v M') ∨ ∀ Q, f xs M Q = False
def dtB (b : jBo) : Prop := ∀ x y : Int, (∃ v : Int, ∀ Q, b x y Q = Q v) ∨ ∀ Q, b x y Q = False
theorem andT {c P : Prop} (h : c) : (c ∧ P) = P := propext ⟨And.right, fun q => ⟨h, q⟩⟩
theorem andF {c P : Prop} (h : ¬ c) : (c ∧ P) = False := propext ⟨fun q => h q.1, False.elim⟩
theorem selT {c A B : Prop} (h : c) : ((c → A) ∧ (¬ c → B)) = A := propext ⟨fun q => q.1 h, fun q => ⟨fun _ => q, fun n => absurd h n⟩⟩
theorem selF {c A B : Prop} (h : ¬ c) : ((c → A) ∧ (¬ c → B)) = B := propext ⟨fun q => q.2 h, fun q => ⟨fun n => absurd n h, fun _ => q⟩⟩
theorem dt_c {c : Int → Int → Prop} {g : Int → Int → Int} : dtB (fun x y Q => c x y ∧ Q (g x y)) := fun x y => by
  by_cases h : c x y
  · exact .inl ⟨g x y, fun Q => andT h⟩
  · exact .inr fun Q => andF h
theorem dt_p {g : Int → Int → Int} : dtB (fun x y Q => Q (g x y)) := fun x y => .inl ⟨g x y, fun _ => rfl⟩
theorem dt_boAdd : dtB boAdd := dt_c
theorem dt_boSub : dtB boSub := dt_c
theorem dt_boMul : dtB boMul := dt_c
theorem dt_boDiv : dtB boDiv := dt_c (c := fun x y => 0 ≤ x ∧ 0 < y)
theorem dt_boRem : dtB boRem := dt_c (c := fun x y => 0 ≤ x ∧ 0 < y)
theorem dt_boLadd : dtB boLadd := dt_c
theorem dt_boOr : dtB boOr := dt_p
theorem dt_boAnd : dtB boAnd := dt_p
theorem dt_boShl : dtB boShl := dt_p
theorem dt_boShr : dtB boShr := dt_p
theorem dt_boMax : dtB boMax := dt_p
theorem dt_boMin : dtB boMin := dt_p
theorem dt_boLand : dtB boLand := dt_p
theorem dt_boLor : dtB boLor := dt_p
theorem dt_boLshr : dtB boLshr := dt_p
theorem dt_boLshl : dtB boLshl := dt_p
theorem dtE_C {n : Int} : dtE (xC n) := fun L M => .inl ⟨n, M, fun _ => rfl⟩
theorem dtE_V {i : Nat} : dtE (xV i) := fun L M => .inl ⟨L i, M, fun _ => rfl⟩
theorem dtE_Stuck : dtE xStuck := fun _ _ => .inr fun _ => rfl
theorem dtE_1 {o : jEx} {g : Int → jMm → Int} (h : dtE o) : dtE (fun L M Q => o L M fun k M => Q (g k M) M) := fun L M => by
  rcases h L M with ⟨k, M1, e⟩ | e
  · exact .inl ⟨g k M1, M1, fun Q => e _⟩
  · exact .inr fun Q => e _
theorem dtE_Gf {o : jEx} {j : Int} (h : dtE o) : dtE (xGf o j) := dtE_1 (g := fun k M => M k j) h
theorem dtE_Gr {o : jEx} {j : Int} (h : dtE o) : dtE (xGr o j) := dtE_1 (g := fun k _ => s_rf k j) h
theorem dtE_Len {o : jEx} (h : dtE o) : dtE (xLen o) := dtE_1 (g := fun k _ => s_len k) h
theorem dtE_Un {o : jEx} {u : Int → Int} (h : dtE o) : dtE (xUn u o) := dtE_1 (g := fun k _ => u k) h
theorem dtE_1c {o : jEx} {c : Int → Prop} {g : Int → jMm → Int} (h : dtE o) : dtE (fun L M Q => o L M fun k M => c k ∧ Q (g k M) M) := fun L M => by
  rcases h L M with ⟨k, M1, e⟩ | e
  · by_cases hc : c k
    · exact .inl ⟨g k M1, M1, fun Q => (e _).trans (andT hc)⟩
    · exact .inr fun Q => (e _).trans (andF hc)
  · exact .inr fun Q => e _
theorem dtE_Neg {o : jEx} (h : dtE o) : dtE (xNeg o) := dtE_1c (c := fun x => ir (-x)) (g := fun k _ => -k) h
theorem dtE_St {n : Nat} {o : jEx} (h : dtE o) : dtE (xSt n o) := dtE_1c (c := fun x => 0 ≤ x ∧ x < s_slen n) (g := fun k _ => s_sv n k) h
theorem dtE_2c {o i : jEx} {c : Int → Int → Prop} {g : Int → Int → jMm → Int} (h : dtE o) (hi : dtE i) : dtE (fun L M Q => o L M fun k M => i L M fun x M => c k x ∧ Q (g k x M) M) := fun L M => by
  rcases h L M with ⟨k, M1, e⟩ | e
  · rcases hi L M1 with ⟨x, M2, e2⟩ | e2
    · by_cases hc : c k x
      · exact .inl ⟨g k x M2, M2, fun Q => (e _).trans ((e2 _).trans (andT hc))⟩
      · exact .inr fun Q => (e _).trans ((e2 _).trans (andF hc))
    · exact .inr fun Q => (e _).trans (e2 _)
  · exact .inr fun Q => e _
theorem dtE_Al {o i : jEx} (h : dtE o) (hi : dtE i) : dtE (xAl o i) := dtE_2c (c := fun k x => 0 ≤ x ∧ x < s_len k) (g := fun k x M => M k x) h hi
theorem dtE_Ar {o i : jEx} (h : dtE o) (hi : dtE i) : dtE (xAr o i) := dtE_2c (c := fun k x => 0 ≤ x ∧ x < s_len k) (g := fun k x _ => s_rf k x) h hi
theorem dtE_Tb {o i : jEx} (h : dtE o) (hi : dtE i) : dtE (xTb o i) := dtE_2c (c := fun k x => 0 ≤ x ∧ x < tLen k) (g := fun k x _ => tByte k x) h hi
theorem dtE_Bin {b : jBo} {x y : jEx} (hb : dtB b) (h : dtE x) (hi : dtE y) : dtE (xBin b x y) := fun L M => by
  rcases h L M with ⟨k, M1, e⟩ | e
  · rcases hi L M1 with ⟨x, M2, e2⟩ | e2
    · rcases hb k x with ⟨v, e3⟩ | e3
      · exact .inl ⟨v, M2, fun Q => (e _).trans ((e2 _).trans (e3 _))⟩
      · exact .inr fun Q => (e _).trans ((e2 _).trans (e3 _))
    · exact .inr fun Q => (e _).trans (e2 _)
  · exact .inr fun Q => e _
theorem dtE_Tern {c : jCn} {x y : jEx} (hc : dtC c) (h : dtE x) (hi : dtE y) : dtE (xTern c x y) := fun L M => by
  rcases hc L M with ⟨M1, e⟩ | ⟨M1, e⟩ | e
  · rcases h L M1 with ⟨x, M2, e2⟩ | e2
    · exact .inl ⟨x, M2, fun Q => (e _ _).trans (e2 _)⟩
    · exact .inr fun Q => (e _ _).trans (e2 _)
  · rcases hi L M1 with ⟨x, M2, e2⟩ | e2
    · exact .inl ⟨x, M2, fun Q => (e _ _).trans (e2 _)⟩
    · exact .inr fun Q => (e _ _).trans (e2 _)
  · exact .inr fun Q => e _ _
theorem dtX_N : dtX xsN := fun L M => .inl ⟨[], M, fun _ => rfl⟩
theorem dtX_C {x : jEx} {y : jXs} (h : dtE x) (hi : dtX y) : dtX (xsC x y) := fun L M => by
  rcases h L M with ⟨k, M1, e⟩ | e
  · rcases hi L M1 with ⟨x, M2, e2⟩ | e2
    · exact .inl ⟨k :: x, M2, fun Q => (e _).trans (e2 _)⟩
    · exact .inr fun Q => (e _).trans (e2 _)
  · exact .inr fun Q => e _
theorem dtE_Call {f : jMd} {y : jXs} (h : dtM f) (hi : dtX y) : dtE (xCall f y) := fun L M => by
  rcases hi L M with ⟨k, M1, e⟩ | e
  · rcases h k M1 with ⟨x, M2, e2⟩ | e2
    · exact .inl ⟨x, M2, fun Q => (e _).trans (e2 _)⟩
    · exact .inr fun Q => (e _).trans (e2 _)
  · exact .inr fun Q => e _
theorem dtC_R {r : Int → Int → Prop} {x y : jEx} (h : dtE x) (hi : dtE y) : dtC (kR r x y) := fun L M => by
  rcases h L M with ⟨k, M1, e⟩ | e
  · rcases hi L M1 with ⟨x, M2, e2⟩ | e2
    · by_cases hc : r k x
      · exact .inl ⟨M2, fun T F => (e _).trans ((e2 _).trans (selT hc))⟩
      · exact .inr (.inl ⟨M2, fun T F => (e _).trans ((e2 _).trans (selF hc))⟩)
    · exact .inr (.inr fun T F => (e _).trans (e2 _))
  · exact .inr (.inr fun T F => e _)
theorem dtC_Z {r : Int → Int → Prop} {x : jEx} (h : dtE x) : dtC (kZ r x) := fun L M => by
  rcases h L M with ⟨k, M1, e⟩ | e
  · by_cases hc : r k 0
    · exact .inl ⟨M1, fun T F => (e _).trans (selT hc)⟩
    · exact .inr (.inl ⟨M1, fun T F => (e _).trans (selF hc)⟩)
  · exact .inr (.inr fun T F => e _)
theorem dtC_And {a b : jCn} (h : dtC a) (hi : dtC b) : dtC (kAnd a b) := fun L M => by
  rcases h L M with ⟨M1, e⟩ | ⟨M1, e⟩ | e
  · rcases hi L M1 with ⟨M2, e2⟩ | ⟨M2, e2⟩ | e2
    · exact .inl ⟨M2, fun T F => (e _ _).trans (e2 _ _)⟩
    · exact .inr (.inl ⟨M2, fun T F => (e _ _).trans (e2 _ _)⟩)
    · exact .inr (.inr fun T F => (e _ _).trans (e2 _ _))
  · exact .inr (.inl ⟨M1, fun T F => e _ _⟩)
  · exact .inr (.inr fun T F => e _ _)
theorem dtC_Or {a b : jCn} (h : dtC a) (hi : dtC b) : dtC (kOr a b) := fun L M => by
  rcases h L M with ⟨M1, e⟩ | ⟨M1, e⟩ | e
  · exact .inl ⟨M1, fun T F => e _ _⟩
  · rcases hi L M1 with ⟨M2, e2⟩ | ⟨M2, e2⟩ | e2
    · exact .inl ⟨M2, fun T F => (e _ _).trans (e2 _ _)⟩
    · exact .inr (.inl ⟨M2, fun T F => (e _ _).trans (e2 _ _)⟩)
    · exact .inr (.inr fun T F => (e _ _).trans (e2 _ _))
  · exact .inr (.inr fun T F => e _ _)
theorem dtC_Not {a : jCn} (h : dtC a) : dtC (kNot a) := fun L M => by
  rcases h L M with ⟨M1, e⟩ | ⟨M1, e⟩ | e
  · exact .inr (.inl ⟨M1, fun T F => e _ _⟩)
  · exact .inl ⟨M1, fun T F => e _ _⟩
  · exact .inr (.inr fun T F => e _ _)
theorem dtS_Skip : dtS tSkip := fun L M => .inl ⟨L, M, fun _ _ => rfl⟩
theorem dtS_Ret0 : dtS tRet0 := fun L M => .inr (.inl ⟨0, M, fun _ _ => rfl⟩)
theorem dtS_Seq {a b : jSt} (h : dtS a) (hi : dtS b) : dtS (tSeq a b) := fun L M => by
  rcases h L M with ⟨L1, M1, e⟩ | ⟨v, M1, e⟩ | e
  · rcases hi L1 M1 with ⟨L2, M2, e2⟩ | ⟨v, M2, e2⟩ | e2
    · exact .inl ⟨L2, M2, fun T F => (e _ _).trans (e2 _ _)⟩
    · exact .inr (.inl ⟨v, M2, fun T F => (e _ _).trans (e2 _ _)⟩)
    · exact .inr (.inr fun T F => (e _ _).trans (e2 _ _))
  · exact .inr (.inl ⟨v, M1, fun T F => e _ _⟩)
  · exact .inr (.inr fun T F => e _ _)
theorem dtS_If {c : jCn} {a b : jSt} (hc : dtC c) (h : dtS a) (hi : dtS b) : dtS (tIf c a b) := fun L M => by
  rcases hc L M with ⟨M1, e⟩ | ⟨M1, e⟩ | e
  · rcases h L M1 with ⟨L2, M2, e2⟩ | ⟨v, M2, e2⟩ | e2
    · exact .inl ⟨L2, M2, fun T F => (e _ _).trans (e2 _ _)⟩
    · exact .inr (.inl ⟨v, M2, fun T F => (e _ _).trans (e2 _ _)⟩)
    · exact .inr (.inr fun T F => (e _ _).trans (e2 _ _))
  · rcases hi L M1 with ⟨L2, M2, e2⟩ | ⟨v, M2, e2⟩ | e2
    · exact .inl ⟨L2, M2, fun T F => (e _ _).trans (e2 _ _)⟩
    · exact .inr (.inl ⟨v, M2, fun T F => (e _ _).trans (e2 _ _)⟩)
    · exact .inr (.inr fun T F => (e _ _).trans (e2 _ _))
  · exact .inr (.inr fun T F => e _ _)
theorem dtS_Inc {i : Nat} {n : Int} : dtS (tInc i n) := fun L M => by
  by_cases h : ir (L i + n)
  · exact .inl ⟨_, _, fun N R => andT h⟩
  · exact .inr (.inr fun N R => andF h)
theorem dtS_1c {o : jEx} {c : Int → Prop} {g : jLo → Int → jMm → jLo × jMm} (h : dtE o) : dtS (fun L M N _ => o L M fun v M => c v ∧ N (g L v M).1 (g L v M).2) := fun L M => by
  rcases h L M with ⟨k, M1, e⟩ | e
  · by_cases hc : c k
    · exact .inl ⟨_, _, fun N R => (e _).trans (andT hc)⟩
    · exact .inr (.inr fun N R => (e _).trans (andF hc))
  · exact .inr (.inr fun N R => e _)
theorem dtS_Set {i : Nat} {o : jEx} (h : dtE o) : dtS (tSet i o) := fun L M => by
  rcases h L M with ⟨k, M1, e⟩ | e
  · exact .inl ⟨_, _, fun N R => e _⟩
  · exact .inr (.inr fun N R => e _)
theorem dtS_Put {o x : jEx} {j : Int} (h : dtE o) (hi : dtE x) : dtS (tPut o j x) := fun L M => by
  rcases h L M with ⟨k, M1, e⟩ | e
  · rcases hi L M1 with ⟨v, M2, e2⟩ | e2
    · exact .inl ⟨_, _, fun N R => (e _).trans (e2 _)⟩
    · exact .inr (.inr fun N R => (e _).trans (e2 _))
  · exact .inr (.inr fun N R => e _)
theorem dtS_PutZ {o x : jEx} {j : Int} (h : dtE o) (hi : dtE x) : dtS (tPutZ o j x) := fun L M => by
  rcases h L M with ⟨k, M1, e⟩ | e
  · rcases hi L M1 with ⟨v, M2, e2⟩ | e2
    · by_cases hc : v = 0 ∨ v = 1
      · exact .inl ⟨_, _, fun N R => (e _).trans ((e2 _).trans (andT hc))⟩
      · exact .inr (.inr fun N R => (e _).trans ((e2 _).trans (andF hc)))
    · exact .inr (.inr fun N R => (e _).trans (e2 _))
  · exact .inr (.inr fun N R => e _)
theorem dtS_PutO {b : jBo} {o x : jEx} {j : Int} (hb : dtB b) (h : dtE o) (hi : dtE x) : dtS (tPutO b o j x) := fun L M => by
  rcases h L M with ⟨k, M1, e⟩ | e
  · rcases hi L M1 with ⟨v, M2, e2⟩ | e2
    · rcases hb (M1 k j) v with ⟨r, e3⟩ | e3
      · exact .inl ⟨_, _, fun N R => (e _).trans ((e2 _).trans (e3 _))⟩
      · exact .inr (.inr fun N R => (e _).trans ((e2 _).trans (e3 _)))
    · exact .inr (.inr fun N R => (e _).trans (e2 _))
  · exact .inr (.inr fun N R => e _)
theorem dtS_Ast {o i x : jEx} (h : dtE o) (hi : dtE i) (hx : dtE x) : dtS (tAst o i x) := fun L M => by
  rcases h L M with ⟨k, M1, e⟩ | e
  · rcases hi L M1 with ⟨y, M2, e2⟩ | e2
    · rcases hx L M2 with ⟨v, M3, e3⟩ | e3
      · by_cases hc : 0 ≤ y ∧ y < s_len k
        · exact .inl ⟨_, _, fun N R => (e _).trans ((e2 _).trans ((e3 _).trans (andT hc)))⟩
        · exact .inr (.inr fun N R => (e _).trans ((e2 _).trans ((e3 _).trans (andF hc))))
      · exact .inr (.inr fun N R => (e _).trans ((e2 _).trans (e3 _)))
    · exact .inr (.inr fun N R => (e _).trans (e2 _))
  · exact .inr (.inr fun N R => e _)
theorem dtS_AstO {b : jBo} {o i x : jEx} (hb : dtB b) (h : dtE o) (hi : dtE i) (hx : dtE x) : dtS (tAstO b o i x) := fun L M => by
  rcases h L M with ⟨k, M1, e⟩ | e
  · rcases hi L M1 with ⟨y, M2, e2⟩ | e2
    · by_cases hc : 0 ≤ y ∧ y < s_len k
      · rcases hx L M2 with ⟨v, M3, e3⟩ | e3
        · rcases hb (M2 k y) v with ⟨r, e4⟩ | e4
          · exact .inl ⟨_, _, fun N R => (e _).trans ((e2 _).trans ((andT hc).trans ((e3 _).trans (e4 _))))⟩
          · exact .inr (.inr fun N R => (e _).trans ((e2 _).trans ((andT hc).trans ((e3 _).trans (e4 _)))))
        · exact .inr (.inr fun N R => (e _).trans ((e2 _).trans ((andT hc).trans (e3 _))))
      · exact .inr (.inr fun N R => (e _).trans ((e2 _).trans (andF hc)))
    · exact .inr (.inr fun N R => (e _).trans (e2 _))
  · exact .inr (.inr fun N R => e _)
theorem dtS_Do {f : jMd} {y : jXs} (h : dtM f) (hi : dtX y) : dtS (tDo f y) := fun L M => by
  rcases hi L M with ⟨k, M1, e⟩ | e
  · rcases h k M1 with ⟨x, M2, e2⟩ | e2
    · exact .inl ⟨_, _, fun N R => (e _).trans (e2 _)⟩
    · exact .inr (.inr fun N R => (e _).trans (e2 _))
  · exact .inr (.inr fun N R => e _)
theorem dtS_Ret {o : jEx} (h : dtE o) : dtS (tRet o) := fun L M => by
  rcases h L M with ⟨k, M1, e⟩ | e
  · exact .inr (.inl ⟨_, _, fun N R => e _⟩)
  · exact .inr (.inr fun N R => e _)
theorem dtS_RetZ {o : jEx} (h : dtE o) : dtS (tRetZ o) := fun L M => by
  rcases h L M with ⟨k, M1, e⟩ | e
  · by_cases hc : k = 0 ∨ k = 1
    · exact .inr (.inl ⟨_, _, fun N R => (e _).trans (andT hc)⟩)
    · exact .inr (.inr fun N R => (e _).trans (andF hc))
  · exact .inr (.inr fun N R => e _)
theorem dtS_RetB {o : jEx} (h : dtE o) : dtS (tRetB o) := fun L M => by
  rcases h L M with ⟨k, M1, e⟩ | e
  · by_cases hc : k = 0
    · exact .inr (.inl ⟨_, _, fun N R => (e _).trans (andT hc)⟩)
    · exact .inr (.inr fun N R => (e _).trans (andF hc))
  · exact .inr (.inr fun N R => e _)
theorem dtS_WhN {c : jCn} {b : jSt} (hc : dtC c) (hb : dtS b) : ∀ n : Nat, dtS (tWhN c b n)
  | 0 => fun L M => .inr (.inr fun _ _ => rfl)
  | n + 1 => fun L M => by
    rcases hc L M with ⟨M1, e⟩ | ⟨M1, e⟩ | e
    · rcases hb L M1 with ⟨L2, M2, e2⟩ | ⟨v, M2, e2⟩ | e2
      · rcases dtS_WhN hc hb n L2 M2 with ⟨L3, M3, e3⟩ | ⟨v, M3, e3⟩ | e3
        · exact .inl ⟨L3, M3, fun N R => (e _ _).trans ((e2 _ _).trans (e3 _ _))⟩
        · exact .inr (.inl ⟨v, M3, fun N R => (e _ _).trans ((e2 _ _).trans (e3 _ _))⟩)
        · exact .inr (.inr fun N R => (e _ _).trans ((e2 _ _).trans (e3 _ _)))
      · exact .inr (.inl ⟨v, M2, fun N R => (e _ _).trans (e2 _ _)⟩)
      · exact .inr (.inr fun N R => (e _ _).trans (e2 _ _))
    · exact .inl ⟨L, M1, fun N R => e _ _⟩
    · exact .inr (.inr fun N R => e _ _)
theorem dt_up {c : jCn} {b : jSt} (hc : dtC c) (hb : dtS b) : ∀ (n : Nat) (L : jLo) (M : jMm) (N : jLo → jMm → Prop) (R : Int → jMm → Prop), tWhN c b n L M N R → tWhN c b (n + 1) L M N R
  | 0, L, M, N, R, h => h.elim
  | n + 1, L, M, N, R, h => by
    have h : c L M (fun M => b L M (fun L M => tWhN c b n L M N R) R) (fun M => N L M) := h
    show c L M (fun M => b L M (fun L M => tWhN c b (n + 1) L M N R) R) (fun M => N L M)
    rcases hc L M with ⟨M1, e⟩ | ⟨M1, e⟩ | e
    · rw [e] at h ⊢
      rcases hb L M1 with ⟨L2, M2, e2⟩ | ⟨v, M2, e2⟩ | e2
      · rw [e2] at h ⊢
        exact dt_up hc hb n L2 M2 N R h
      · rw [e2] at h ⊢; exact h
      · rw [e2] at h; exact h.elim
    · rw [e] at h ⊢; exact h
    · rw [e] at h; exact h.elim
theorem dt_ups {c : jCn} {b : jSt} (hc : dtC c) (hb : dtS b) (n : Nat) : ∀ (k : Nat) (L : jLo) (M : jMm) (N : jLo → jMm → Prop) (R : Int → jMm → Prop), tWhN c b n L M N R → tWhN c b (n + k) L M N R
  | 0, _, _, _, _, h => h
  | k + 1, L, M, N, R, h => dt_up hc hb (n + k) L M N R (dt_ups hc hb n k L M N R h)
theorem dtS_Wh {c : jCn} {b : jSt} (hc : dtC c) (hb : dtS b) : dtS (tWh c b) := fun L M => by
  by_cases h : ∃ n : Nat, ¬ ∀ N R, tWhN c b n L M N R = False
  · obtain ⟨n, hn⟩ := h
    have key : ∀ (m : Nat) (N : jLo → jMm → Prop) (R : Int → jMm → Prop), tWhN c b m L M N R → tWhN c b (n + m) L M N R := fun m N R h => by
      rw [Nat.add_comm]; exact dt_ups hc hb m n L M N R h
    rcases dtS_WhN hc hb n L M with ⟨L1, M1, e⟩ | ⟨v, M1, e⟩ | e
    · refine .inl ⟨L1, M1, fun N R => propext ⟨?_, fun q => ⟨n, by rw [e]; exact q⟩⟩⟩
      rintro ⟨m, hm⟩
      have h1 := key m N R hm
      rcases dtS_WhN hc hb (n + m) L M with ⟨L2, M2, e2⟩ | ⟨v, M2, e2⟩ | e2
      · have h2 := dt_ups hc hb n m L M (fun L M => L = L1 ∧ M = M1) (fun _ _ => False) (by rw [e]; exact ⟨rfl, rfl⟩)
        rw [e2] at h1 h2
        obtain ⟨rfl, rfl⟩ := h2
        exact h1
      · have h2 := dt_ups hc hb n m L M (fun L M => L = L1 ∧ M = M1) (fun _ _ => False) (by rw [e]; exact ⟨rfl, rfl⟩)
        rw [e2] at h2; exact h2.elim
      · rw [e2] at h1; exact h1.elim
    · refine .inr (.inl ⟨v, M1, fun N R => propext ⟨?_, fun q => ⟨n, by rw [e]; exact q⟩⟩⟩)
      rintro ⟨m, hm⟩
      have h1 := key m N R hm
      rcases dtS_WhN hc hb (n + m) L M with ⟨L2, M2, e2⟩ | ⟨w, M2, e2⟩ | e2
      · have h2 := dt_ups hc hb n m L M (fun _ _ => False) (fun x M => x = v ∧ M = M1) (by rw [e]; exact ⟨rfl, rfl⟩)
        rw [e2] at h2; exact h2.elim
      · have h2 := dt_ups hc hb n m L M (fun _ _ => False) (fun x M => x = v ∧ M = M1) (by rw [e]; exact ⟨rfl, rfl⟩)
        rw [e2] at h1 h2
        obtain ⟨rfl, rfl⟩ := h2
        exact h1
      · rw [e2] at h1; exact h1.elim
    · exact absurd e hn
  · refine .inr (.inr fun N R => propext ⟨?_, False.elim⟩)
    rintro ⟨n, hn⟩
    exact h ⟨n, fun q => by rw [q] at hn; exact hn⟩
def dtL (ss : List jSt) : Prop := ∀ s ∈ ss, dtS s
theorem dtL_N : dtL [] := fun s h => absurd h List.not_mem_nil
theorem dtL_C {s : jSt} {ss : List jSt} (h : dtS s) (hi : dtL ss) : dtL (s :: ss) := fun x hx => by
  rcases List.mem_cons.mp hx with rfl | q
  · exact h
  · exact hi x q
theorem dtS_SwS {d : jSt} (hd : dtS d) {v : Int} : ∀ (ss : List jSt) (lo : Int), dtL ss → dtS (tSwS lo ss d v)
  | [], _, _ => hd
  | s :: ss, lo, hs => fun L M => by
    by_cases h : v = lo
    · rcases hs s List.mem_cons_self L M with ⟨L1, M1, e⟩ | ⟨w, M1, e⟩ | e
      · exact .inl ⟨_, _, fun N R => (selT h).trans (e _ _)⟩
      · exact .inr (.inl ⟨_, _, fun N R => (selT h).trans (e _ _)⟩)
      · exact .inr (.inr fun N R => (selT h).trans (e _ _))
    · rcases dtS_SwS hd (v := v) ss (lo + 1) (fun x hx => hs x (List.mem_cons_of_mem _ hx)) L M with ⟨L1, M1, e⟩ | ⟨w, M1, e⟩ | e
      · exact .inl ⟨_, _, fun N R => (selF h).trans (e _ _)⟩
      · exact .inr (.inl ⟨_, _, fun N R => (selF h).trans (e _ _)⟩)
      · exact .inr (.inr fun N R => (selF h).trans (e _ _))
theorem dtS_Sw {lo : Int} {e : jEx} {ss : List jSt} {d : jSt} (he : dtE e) (hs : dtL ss) (hd : dtS d) : dtS (tSw lo e ss d) := fun L M => by
  rcases he L M with ⟨k, M1, e1⟩ | e1
  · rcases dtS_SwS hd (v := k) ss lo hs L M1 with ⟨L2, M2, e2⟩ | ⟨w, M2, e2⟩ | e2
    · exact .inl ⟨_, _, fun N R => (e1 _).trans (e2 _ _)⟩
    · exact .inr (.inl ⟨_, _, fun N R => (e1 _).trans (e2 _ _)⟩)
    · exact .inr (.inr fun N R => (e1 _).trans (e2 _ _))
  · exact .inr (.inr fun N R => e1 _)
theorem dtS_Copy {a i b j n : jEx} (ha : dtE a) (hi : dtE i) (hb : dtE b) (hj : dtE j) (hn : dtE n) : dtS (tCopy a i b j n) := fun L M => by
  rcases ha L M with ⟨k, M1, e1⟩ | e1
  · rcases hi L M1 with ⟨x, M2, e2⟩ | e2
    · rcases hb L M2 with ⟨h, M3, e3⟩ | e3
      · rcases hj L M3 with ⟨y, M4, e4⟩ | e4
        · rcases hn L M4 with ⟨z, M5, e5⟩ | e5
          · by_cases hc : 0 ≤ x ∧ 0 ≤ y ∧ 0 ≤ z ∧ x + z ≤ s_len k ∧ y + z ≤ s_len h
            · exact .inl ⟨_, _, fun N R => (e1 _).trans ((e2 _).trans ((e3 _).trans ((e4 _).trans ((e5 _).trans (andT hc)))))⟩
            · exact .inr (.inr fun N R => (e1 _).trans ((e2 _).trans ((e3 _).trans ((e4 _).trans ((e5 _).trans (andF hc))))))
          · exact .inr (.inr fun N R => (e1 _).trans ((e2 _).trans ((e3 _).trans ((e4 _).trans (e5 _)))))
        · exact .inr (.inr fun N R => (e1 _).trans ((e2 _).trans ((e3 _).trans (e4 _))))
      · exact .inr (.inr fun N R => (e1 _).trans ((e2 _).trans (e3 _)))
    · exact .inr (.inr fun N R => (e1 _).trans (e2 _))
  · exact .inr (.inr fun N R => e1 _)
theorem dtM_of {ps : List Nat} {b : jSt} (h : dtS b) : dtM (jMeth ps b) := fun xs M => by
  rcases h (jIn ps xs) M with ⟨L1, M1, e⟩ | ⟨v, M1, e⟩ | e
  · exact .inr fun Q => e _ _
  · exact .inl ⟨v, M1, fun Q => e _ _⟩
  · exact .inr fun Q => e _ _
/-- what holds behind a call for every wish is its answer -/
theorem dt_eq {f : jMd} (hf : dtM f) {xs : List Int} {M M' : jMm} {v : Int} (h : ∀ Q : Int → jMm → Prop, Q v M' → f xs M Q) (Q : Int → jMm → Prop) : f xs M Q = Q v M' := by
  have h1 := h (fun x m => x = v ∧ m = M') ⟨rfl, rfl⟩
  rcases hf xs M with ⟨w, M1, e⟩ | e
  · rw [e] at h1
    obtain ⟨rfl, rfl⟩ := h1
    exact e Q
  · rw [e] at h1; exact h1.elim
theorem dt_ex {f : jMd} (hf : dtM f) {xs : List Int} {M : jMm} {P : Int → jMm → Prop} (h : f xs M P) : ∃ (v : Int) (M' : jMm), P v M' ∧ ∀ Q : Int → jMm → Prop, f xs M Q = Q v M' := by
  rcases hf xs M with ⟨w, M1, e⟩ | e
  · rw [e] at h; exact ⟨w, M1, h, e⟩
  · rw [e] at h; exact h.elim
