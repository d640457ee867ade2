/-! the day as it is reckoned: a ghost g in the places of the model's cells -/
def sm (f : Int → Int) : Nat → Int
  | 0 => 0
  | m + 1 => sm f m + f (m : Int)
theorem sm_congr {f h : Int → Int} : ∀ (m : Nat), (∀ p : Int, 0 ≤ p → p < m → f p = h p) → sm f m = sm h m
  | 0, _ => rfl
  | m + 1, e => by
    show sm f m + f m = sm h m + h m
    rw [sm_congr m (fun p h0 h1 => e p h0 (by omega)), e m (by omega) (by omega)]
theorem sm_upd {f h : Int → Int} {q : Int} : ∀ (m : Nat), 0 ≤ q → q < m → (∀ p : Int, 0 ≤ p → p < m → p ≠ q → h p = f p) → sm h m = sm f m - f q + h q
  | 0, h0, h1, _ => by omega
  | m + 1, h0, h1, e => by
    show sm h m + h m = sm f m + f m - f q + h q
    by_cases c : q = m
    · rw [sm_congr (f := h) (h := f) m (fun p a b => e p a (by omega) (by omega)), c]; omega
    · rw [sm_upd m h0 (by omega) (fun p a b => e p a (by omega)), e m (by omega) (by omega) (by omega)]; omega
theorem sm_nonneg {f : Int → Int} : ∀ (m : Nat), (∀ p : Int, 0 ≤ p → p < m → 0 ≤ f p) → 0 ≤ sm f m
  | 0, _ => Int.le_refl 0
  | m + 1, e => by
    show 0 ≤ sm f m + f m
    have := sm_nonneg m (fun p a b => e p a (by omega))
    have := e m (by omega) (by omega)
    omega
theorem sm_le {f : Int → Int} (c : Int) : ∀ (m : Nat), (∀ p : Int, 0 ≤ p → p < m → f p ≤ c) → sm f m ≤ c * m
  | 0, _ => by show (0 : Int) ≤ c * ((0 : Nat) : Int); simp
  | m + 1, e => by
    show sm f m + f m ≤ c * ((m + 1 : Nat) : Int)
    have := sm_le c m (fun p a b => e p a (by omega))
    have := e m (by omega) (by omega)
    have : c * ((m + 1 : Nat) : Int) = c * m + c := by rw [Int.natCast_add, Int.mul_add]; simp
    omega
theorem sm_zero {f : Int → Int} : ∀ (m : Nat), (∀ p : Int, 0 ≤ p → p < m → f p = 0) → sm f m = 0
  | 0, _ => rfl
  | m + 1, e => by
    show sm f m + f m = 0
    rw [sm_zero m (fun p a b => e p a (by omega)), e m (by omega) (by omega)]; rfl
theorem sm_pos {f : Int → Int} {q : Int} : ∀ (m : Nat), (∀ p : Int, 0 ≤ p → p < m → 0 ≤ f p) → 0 ≤ q → q < m → f q ≤ sm f m
  | 0, _, _, _ => by omega
  | m + 1, e, h0, h1 => by
    show f q ≤ sm f m + f m
    have a1 := e m (by omega) (by omega)
    by_cases c : q = m
    · have := sm_nonneg m (fun p a b => e p a (by omega)); rw [c]; omega
    · have := sm_pos m (fun p a b => e p a (by omega)) h0 (by omega : q < m); omega
theorem sm_add {f h : Int → Int} : ∀ (m : Nat), sm (fun p => f p + h p) m = sm f m + sm h m
  | 0 => rfl
  | m + 1 => by
    show sm (fun p => f p + h p) m + (f m + h m) = sm f m + f m + (sm h m + h m)
    rw [sm_add m]; omega
/-- what one of a kind weighs -/
def wt (k : Int) : Int := if k = 2 then 4 else if k = 3 then 1 else 2
theorem wt_le (k : Int) : 1 ≤ wt k ∧ wt k ≤ 4 := by unfold wt; split <;> (try split) <;> omega
abbrev gN (g : jMm) : Nat := (g 114 5).toNat
abbrev gOn (g : jMm) (p s : Int) : Prop := g 123 p = 2 ∧ g 125 p = s
abbrev gAt (g : jMm) (p s x y : Int) : Prop := (g 123 p = 2 ∧ g 125 p = s) ∧ g 126 p = x ∧ (g 127 p = y ∨ g 124 p = 2)
def gWhoN (g : jMm) (s x y : Int) : Nat → Int
  | 0 => -4
  | m + 1 => if gAt g m s x y then (m : Int) else gWhoN g s x y m
def gWho (g : jMm) (s x y : Int) : Int := gWhoN g s x y (gN g)
def gWeight (g : jMm) (s : Int) : Int := sm (fun p => if gOn g p s then wt (g 124 p) else 0) (gN g)
def gMany (g : jMm) (s : Int) : Int := sm (fun p => if gOn g p s ∧ g 126 p = g 116 (3 * s) - 1 then 1 else 0) (gN g)
def gThere (g : jMm) (f : Int) : Int := sm (fun p => if g 123 p = 3 ∧ g 128 p = f then 1 else 0) (gN g)
def gCnt (g : jMm) : Int := sm (fun p => if g 123 p = 1 then 1 else 0) (gN g)
/-- the waits that are counted ahead of a tick -/
def gSum (t : Int) (g : jMm) : Int := sm (fun p => if g 123 p = 1 then t - g 117 (3 * p) else g 133 p) (gN g)
abbrev gGoes (g : jMm) (s : Int) : Prop := g 134 s > 0 ∧ g 135 s = 0
abbrev gFl (g : jMm) (s : Int) : Int := if g 134 s = 1 then 1 else 0
abbrev gJam (g : jMm) (s : Int) : Prop := gMany g s > g 115 1 - gThere g (gFl g s)
-- who comes
def gArr (t : Int) (g : jMm) : jMm := fun a b => if a = 123 ∧ 0 ≤ b ∧ b < g 114 5 ∧ g 117 (3 * b) = t ∧ b ≠ g 114 17 then 1 else g a b
-- the change, a stair
def gChg (t : Int) (w : Int → Int) (s : Int) (g : jMm) : jMm := fun a b => if a = 134 ∧ b = s then w s else if g 134 s ≠ w s ∧ 0 ≤ b ∧ b < g 114 5 ∧ gOn g b s then (if w s = 0 then (if a = 123 then 4 else if a = 132 then t else g a b) else if a = 126 then g 116 (3 * s) - 1 - g 126 b else g a b) else g a b
-- a stair goes on
def gMove (t s : Int) (g : jMm) : jMm := fun a b => if 0 ≤ b ∧ b < g 114 5 ∧ gOn g b s then (if g 126 b = g 116 (3 * s) - 1 then (if a = 123 then 3 else if a = 128 then gFl g s else if a = 129 then t else g a b) else if a = 126 then g 126 b + 1 else g a b) else g a b
def gGo (t s : Int) : Nat → jMm → jMm
  | 0, g => g
  | m + 1, g => if gJam g s then jwr g 114 32 (g 114 32 + 1) else gGo t s m (gMove t s g)
def gWalk (s x : Int) (g : jMm) : jMm := if (gWho g s x 1 ≥ 0 ∧ g 124 (gWho g s x 1) = 1 ∧ g 127 (gWho g s x 1) = 1) ∧ gWho g s (x + 1) 1 < 0 then jwr g 126 (gWho g s x 1) (g 126 (gWho g s x 1) + 1) else g
def gWalks (s : Int) : Nat → jMm → jMm
  | 0, g => g
  | m + 1, g => gWalks s m (gWalk s m g)
def gStair (t s : Int) (g : jMm) : jMm := if gGoes g s then gWalks s (g 116 (3 * s) - 1).toNat (gGo t s (g 122 s).toNat g) else g
-- the first of those for whom c holds, by its key
def gFst (c : Int → Bool) (key : Int → Int) : Nat → Int
  | 0 => -4
  | m + 1 => if c m = true ∧ (gFst c key m < 0 ∨ key m < key (gFst c key m)) then (m : Int) else gFst c key m
def gLvP (f : Int) (g : jMm) : Int := gFst (fun p => decide (g 123 p = 3 ∧ g 128 p = f)) (fun p => g 129 p) (gN g)
def gLv (t f : Int) (g : jMm) : jMm := if gLvP f g ≥ 0 then jwr (jwr g 123 (gLvP f g) 4) 132 (gLvP f g) t else g
def gLvs (t f : Int) : Nat → jMm → jMm
  | 0, g => g
  | m + 1, g => gLvs t f m (gLv t f g)
def gLeave (t : Int) (g : jMm) : jMm := gLvs t 1 (g 115 2).toNat (gLvs t 0 (g 115 2).toNat g)
-- who steps on
def gGrN (g : jMm) (s : Int) : Nat → Bool
  | 0 => false
  | m + 1 => gGrN g s m || decide (gOn g m s ∧ g 126 m < 2 ∧ g 124 m ≠ 3)
def gMay (g : jMm) (p s y : Int) : Bool := decide ((g 114 16 = 0 ∨ y = (if g 124 p = 1 then 1 else 0)) ∧ (g 124 p ≠ 2 ∨ (y = 0 ∧ gWho g s 0 1 < 0)) ∧ (g 124 p ≠ 4 ∨ g 122 s = 1) ∧ (g 124 p ≠ 3 ∨ gGrN g s (gN g) = true))
def gBdP (s y : Int) (g : jMm) : Int := gFst (fun p => decide (g 123 p = 1 ∧ g 117 (3 * p + 1) = 1 - gFl g s) && gMay g p s y) (fun p => g 117 (3 * p)) (gN g)
def gPut (t s y p : Int) (g : jMm) : jMm := fun a b => if b = p then (if a = 123 then 2 else if a = 125 then s else if a = 126 then 0 else if a = 127 then y else if a = 130 then t else if a = 131 then s else if a = 133 then t - g 117 (3 * p) else g a b) else g a b
def gBd (t s y : Int) (g : jMm) : jMm := if gWho g s 0 y < 0 ∧ gBdP s y g ≥ 0 then gPut t s y (gBdP s y g) g else g
def gBoard (t s : Int) (g : jMm) : jMm := if gGoes g s then gBd t s 1 (gBd t s 0 g) else g
-- loads
def gEn (s : Int) (g : jMm) : Int := if g 134 s > 0 ∧ ¬ g 135 s > 0 then (if g 134 s = 1 then g 115 5 + gWeight g s else if g 115 5 - gWeight g s * g 115 6 / 10 < 0 then 0 else g 115 5 - gWeight g s * g 115 6 / 10) else 0
abbrev gTr (s : Int) (g : jMm) : Prop := ¬ g 135 s > 0 ∧ gWeight g s > g 115 3
def gLoad (s : Int) (g : jMm) : jMm := fun a b => if a = 114 ∧ b = 34 then g 114 34 + gEn s g else if a = 135 ∧ b = s then (if gTr s g then g 115 4 else if g 135 s > 0 then g 135 s - 1 else g 135 s) else if gTr s g then (if a = 114 ∧ b = 33 then g 114 33 + 1 else if g 122 s = 2 ∧ 0 ≤ b ∧ b < g 114 5 ∧ gOn g b s ∧ g 124 b = 1 then (if a = 124 then 0 else if a = 200 then 1 else g a b) else g a b) else g a b
-- all stairs
def gAll (f : Int → jMm → jMm) : Nat → jMm → jMm
  | 0, g => g
  | m + 1, g => f m (gAll f m g)
abbrev gK (g : jMm) : Nat := (g 114 1).toNat
def gChgs (c : Int) (w : Int → Int) (t : Int) (g : jMm) : jMm := if c = t ∧ t > 0 then gAll (gChg t w) (gK g) g else g
def gStairs (t : Int) (g : jMm) : jMm := gAll (gStair t) (gK g) g
def gBoards (t : Int) (g : jMm) : jMm := gAll (gBoard t) (gK g) g
def gLoads (g : jMm) : jMm := gAll gLoad (gK g) g
def gTick (c : Int) (w : Int → Int) (t : Int) (g : jMm) : jMm := gLoads (gBoards t (gLeave t (gStairs t (gChgs c w t (gArr t g)))))
def gBegin (P : jMm) (rule without : Int) (ways paces : Int → Int) : jMm := fun a b => if a = 114 then (if b = 1 ∨ b = 5 then P 114 b else if b = 16 then rule else if b = 17 then without else 0) else if a = 115 ∨ a = 116 ∨ a = 117 then P a b else if a = 122 then paces b else if a = 124 then P 117 (3 * b + 2) else if a = 130 ∨ a = 131 ∨ a = 132 then -4 else if a = 134 then ways b else 0
def gRun (c : Int) (w : Int → Int) (g : jMm) : Nat → jMm
  | 0 => g
  | m + 1 => gTick c w m (gRun c w g m)
/-! a loop that counts up -/
theorem up_rule {i : Nat} {E : jEx} {B : jSt} {L : jLo} {M : jMm} {N : jLo → jMm → Prop} {R : Int → jMm → Prop} (n a : Int) (I : Int → jLo → jMm → Prop) (ha : L i = a) (hn : a ≤ n) (hl : -2147483648 ≤ a) (hh : n ≤ 2147483647) (hI : I a L M)
    (hE : ∀ (j : Int) (L : jLo) (M : jMm) (Q : Int → jMm → Prop), I j L M → Q n M → E L M Q)
    (hB : ∀ (j : Int) (L : jLo) (M : jMm) (N1 : jLo → jMm → Prop), a ≤ j → j < n → L i = j → I j L M → (∀ (L' : jLo) (M' : jMm), L' i = j → I (j + 1) (jup L' i (j + 1)) M' → N1 L' M') → B L M N1 R)
    (hN : ∀ (L : jLo) (M : jMm), L i = n → I n L M → N L M) : tWh (kR (fun x y => x < y) (xV i) E) (tSeq B (tInc i 1)) L M N R := by
  refine wh_rule (fun k L M => ∃ j, L i = j ∧ a ≤ j ∧ j ≤ n ∧ I j L M ∧ k = (n - j).toNat) ?_ (k := (n - a).toNat) ⟨a, ha, Int.le_refl a, hn, hI, rfl⟩
  rintro k L M ⟨j, h1, h2, h3, h4, h5⟩ N' hN'
  refine hE j L M _ h4 ⟨fun hc => ?_, fun hc => ?_⟩
  · have hc : L i < n := hc
    refine hB j L M _ h2 (by omega) h1 h4 (fun L' M' e hI' => ?_)
    refine ⟨⟨by omega, by omega⟩, hN' ((n - (j + 1)).toNat) _ M' (by omega) ⟨j + 1, ?_, by omega, by omega, ?_, rfl⟩⟩
    · show (if i = i then L' i + 1 else L' i) = j + 1
      rw [if_pos rfl, e]
    · rw [e]; exact hI'
  · have hc : ¬ L i < n := hc
    have : j = n := by omega
    subst this
    exact hN L M h1 h4
theorem sq_ {a b : jSt} {L : jLo} {M : jMm} {N : jLo → jMm → Prop} {R : Int → jMm → Prop} (h : a L M (fun L M => b L M N R) R) : tSeq a b L M N R := h
theorem mt_ {ps : List Nat} {b : jSt} {xs : List Int} {M : jMm} {Q : Int → jMm → Prop} (h : b (jIn ps xs) M (fun _ _ => False) Q) : jMeth ps b xs M Q := h
theorem st_c {i : Nat} {v : Int} {L : jLo} {M : jMm} {N : jLo → jMm → Prop} {R : Int → jMm → Prop} (h : N (jup L i v) M) : tSet i (xC v) L M N R := h
theorem ixE {x n : Int} {P : Prop} (h0 : 0 ≤ x) (h1 : x < n) : ((0 ≤ x ∧ x < n) ∧ P) = P := propext ⟨fun h => h.2, fun h => ⟨⟨h0, h1⟩, h⟩⟩
theorem irE {x : Int} {P : Prop} (h0 : -2147483648 ≤ x) (h1 : x ≤ 2147483647) : (ir x ∧ P) = P := propext ⟨fun h => h.2, fun h => ⟨⟨h0, h1⟩, h⟩⟩
