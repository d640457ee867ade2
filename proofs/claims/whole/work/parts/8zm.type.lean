/-! pairs: type -/
theorem byte_r (y : Int) : 0 ≤ l_and y 255 ∧ l_and y 255 ≤ 255 ∧ u_l2i (l_and y 255) = l_and y 255 := by
  have key : ∀ a : Int64, 0 ≤ (a &&& Int64.ofInt 255).toInt ∧ (a &&& Int64.ofInt 255).toInt ≤ 255 := fun a => by
    have h1 : (a &&& Int64.ofInt 255).toBitVec.toNat ≤ 255 := by
      show (a.toBitVec &&& (Int64.ofInt 255).toBitVec).toNat ≤ 255
      rw [BitVec.toNat_and]
      exact Nat.and_le_right
    have h2 : (a &&& Int64.ofInt 255).toInt = ((a &&& Int64.ofInt 255).toBitVec.toNat : Int) := BitVec.toInt_eq_toNat_of_lt (by omega)
    omega
  have k := key (Int64.ofInt y)
  refine ⟨k.1, k.2, ?_⟩
  have k' : 0 ≤ l_and y 255 ∧ l_and y 255 ≤ 255 := k
  unfold u_l2i
  rw [Int64.toInt_toInt32]
  have e : (Int64.ofInt (l_and y 255)).toInt = l_and y 255 := by
    unfold l_and
    rw [Int64.ofInt_toInt]
  rw [e]
  generalize l_and y 255 = v at *
  have e2 : v % ((2 ^ 32 : Nat) : Int) = v := Int.emod_eq_of_lt k'.1 (by omega)
  unfold Int.bmod
  rw [e2]
  exact if_pos (by omega)
/-- byte k of a word -/
def bW (w k : Int) : Int := l_and (l_shr w (8 * k)) 255
theorem bW_id {w k : Int} : u_l2i (bW w k) = bW w k := (byte_r (l_shr w (8 * k))).2.2
theorem bL_ {w k : Int} {a : Nat} {e : jEx} {L : jLo} {M : jMm} (l1 : L a = w) (he : ∀ Q : Int → jMm → Prop, e L M Q = Q k M) (k0 : 0 ≤ k) (k8 : k < 8) (Q : Int → jMm → Prop) : xBin boLand (xBin boLshr (xV a) (xBin boMul (xC 8) e)) (xC 255) L M Q = Q (bW w k) M := by
  show e L M (fun y M1 => ir (8 * y) ∧ Q (l_and (l_shr (L a) (8 * y)) 255) M1) = _
  rw [he, l1]
  exact andT ⟨by omega, by omega⟩
theorem q_byteOf {w k : Int} {M : jMm} {Q : Int → jMm → Prop} (k0 : 0 ≤ k) (k8 : k < 8) : f_X6_byteOf [w, k] M Q = Q (bW w k) M := by
  unfold f_X6_byteOf
  rw [mt_e, un_ (bL_ (w := w) (k := k) rfl (fun Q => rfl) k0 k8), bW_id]
def tyB (w n : Int) : Prop := ∃ k, 0 ≤ k ∧ k < n ∧ bt 32 (bW w k) 126 = 0
theorem q_addB {b : Int} {M : jMm} {Q : Int → jMm → Prop} (h0 : 0 ≤ M 21 1) (h1 : M 21 1 < 80) : f_X5_add [21, b] M Q = Q 0 (jwr (jwr M 22 (M 21 1) b) 21 1 (M 21 1 + 1)) := by
  unfold f_X5_add
  have r : s_rf 21 0 = 22 := by decide +kernel
  have l : s_len 22 = 80 := by decide +kernel
  have e1 : jwr M 22 (M 21 1) b 21 1 = M 21 1 := jw0 (by omega)
  have i1 : ir (M 21 1 + 1) := ⟨by omega, by omega⟩
  apply propext
  simp [jMeth, jIn, jup, tSeq, tIf, tSkip, tSet, tInc, tPut, tPutZ, tPutO, tAst, tAstO, tDo, tRet, tRetZ, tRet0, kAnd, kOr, kNot, kZ, kR, xV, xC, xGf, xGr, xAl, xAr, xSt, xLen, xBin, xUn, xNeg, xTern, xCall, xsC, xsN, boAdd, boSub, boMul, boDiv, boRem, boMax, boMin, boOr, boAnd, boShl, boShr, r, l, h0, h1, e1, i1]
theorem rf_0_3 : s_rf 0 3 = 21 := by decide +kernel
theorem q_type {w n : Int} {M : jMm} {Q : Int → jMm → Prop} (T0 : 0 ≤ M 21 1) (T1 : M 21 1 ≤ 80) (h1 : bt 1 n 8 = 0 → Q (-1) M) (h2 : ¬ bt 1 n 8 = 0 → tyB w n → Q (-1) M) (h3 : ¬ bt 1 n 8 = 0 → ¬ tyB w n → n > 80 - M 21 1 → Q (-3) M)
    (h4 : ¬ bt 1 n 8 = 0 → ¬ tyB w n → ¬ n > 80 - M 21 1 → ∀ M', (∀ a b, (a ≠ 22 ∨ b < M 21 1) → (a ≠ 21 ∨ b ≠ 1) → M' a b = M a b) → M' 21 1 = M 21 1 + n → (∀ q, 0 ≤ q → q < n → M' 22 (M 21 1 + q) = bW w (n - 1 - q)) → Q (M 21 1 + n) M') : f_X6_type [0, w, n] M Q := by
  unfold f_X6_type
  refine mt_ (sq_ (if_pc (bt 1 n 8 = 0) (nz_pc (bw (fun Q => rfl) (fun Q => rfl) (fun Q => rfl))) (fun c => h1 c) (fun c => sk_ ?_)))
  replace h2 := h2 c
  replace h3 := h3 c
  replace h4 := h4 c
  obtain ⟨n1, n8⟩ := bt_0 c
  have en : ((n.toNat : Nat) : Int) = n := by omega
  refine sq_cut (fun L M1 => M1 = M ∧ L 0 = 0 ∧ L 1 = w ∧ L 3 = n ∧ ¬ tyB w n) (fun N1 hN1 => ?_) ?_
  · refine sq_ (st_c ?_)
    refine up0 n.toNat (fun j L M1 => M1 = M ∧ L 0 = 0 ∧ L 1 = w ∧ L 3 = n ∧ ∀ k : Int, 0 ≤ k → k < j → ¬ bt 32 (bW w k) 126 = 0) rfl (by omega) ⟨rfl, rfl, rfl, rfl, fun k _ _ => by omega⟩ ?_ ?_ ?_
    · rintro j L M1 Q1 ⟨rfl, l0, l1, l3, -⟩ hQ
      show Q1 (L 3) M1
      rw [l3, ← en]; exact hQ
    · rintro j L M1 N2 hj hi ⟨rfl, l0, l1, l3, hk⟩ hN
      refine if_pc (bt 32 (bW w j) 126 = 0) (nz_pc (bw (c2 (x0 := w) (x1 := j) (fun Q => by simp only [xV, l1]) (fun Q => by simp only [xV, hi]) (fun Q => q_byteOf (by omega) (by omega))) (fun Q => rfl) (fun Q => rfl))) (fun z => h2 ⟨j, by omega, by omega, z⟩) (fun z => sk_ (hN L M1 hi ⟨rfl, l0, l1, l3, fun k k0 k1 => ?_⟩))
      by_cases e : k = j
      · rw [e]; exact z
      · exact hk k k0 (by omega)
    · rintro L M1 - ⟨rfl, l0, l1, l3, hk⟩
      exact hN1 L M1 ⟨rfl, l0, l1, l3, fun ⟨k, k0, k1, k2⟩ => hk k k0 (by omega) k2⟩
  · rintro L M1 ⟨rfl, l0, l1, l3, ng⟩
    have x3 : ∀ Q : Int → jMm → Prop, xGr (xV 0) 3 L M1 Q = Q 21 M1 := gr_ (fun Q => by simp only [xV, l0]) rf_0_3
    refine sq_ (if_pc (n > 80 - M1 21 1) (kr_pc (fun Q => by simp only [xV, l3]) (bs_ (x := 80) (y := M1 21 1) (fun Q => rfl) (gf_ (k := 21) x3 rfl) ⟨by omega, by omega⟩)) (fun z => h3 ng z) (fun z => sk_ ?_))
    replace h4 := h4 ng z
    refine sq_cut (fun L M2 => L 0 = 0 ∧ (∀ a b, (a ≠ 22 ∨ b < M1 21 1) → (a ≠ 21 ∨ b ≠ 1) → M2 a b = M1 a b) ∧ M2 21 1 = M1 21 1 + n ∧ ∀ q, 0 ≤ q → q < n → M2 22 (M1 21 1 + q) = bW w (n - 1 - q)) (fun N1 hN1 => ?_) ?_
    · refine sq_ (st_v (v := n - 1) (bs_ (fun Q => by simp only [xV, l3]) (fun Q => rfl) ⟨by omega, by omega⟩) ?_)
      refine dn0 n.toNat (fun j L M2 => L 0 = 0 ∧ L 1 = w ∧ (∀ a b, (a ≠ 22 ∨ b < M1 21 1) → (a ≠ 21 ∨ b ≠ 1) → M2 a b = M1 a b) ∧ M2 21 1 = M1 21 1 + n - j ∧ ∀ q, 0 ≤ q → q < n - j → M2 22 (M1 21 1 + q) = bW w (n - 1 - q)) (by rw [en]; rfl) ⟨l0, l1, fun _ _ _ _ => rfl, by omega, fun q _ _ => by omega⟩ ?_ (by omega) ?_
      · rintro j L M2 N2 hj hi ⟨l0, l1, F, e1, hb⟩ hN
        have y3 : ∀ Q : Int → jMm → Prop, xGr (xV 0) 3 L M2 Q = Q 21 M2 := gr_ (fun Q => by simp only [xV, l0]) rf_0_3
        refine seqG (x := 21) (y := bW w j) y3 (c2 (x0 := w) (x1 := j) (fun Q => by simp only [xV, l1]) (fun Q => by simp only [xV, hi]) (fun Q => q_byteOf (by omega) (by omega))) ?_
        rw [q_addB (by omega) (by omega)]
        refine hN L _ hi ⟨l0, l1, fun a b z1 z2 => by rw [jw0 (by omega), jw0 (by omega)]; exact F a b z1 z2, by rw [jw1 ⟨rfl, rfl⟩]; omega, fun q q0 q1 => ?_⟩
        rw [jw0 (.inl (by decide))]
        by_cases e : M1 21 1 + q = M2 21 1
        · rw [jw1 ⟨rfl, e⟩]; congr 1; omega
        · rw [jw0 (.inr e)]; exact hb q q0 (by omega)
      · rintro L M2 - ⟨l0, l1, F, e1, hb⟩
        exact hN1 L M2 ⟨l0, F, by omega, fun q q0 q1 => hb q q0 (by omega)⟩
    · rintro L M2 ⟨l0, F, e1, hb⟩
      refine rt_ ?_
      rw [gf_ (k := 21) (v := M1 21 1 + n) (gr_ (k := 0) (fun Q => by simp only [xV, l0]) rf_0_3) e1]
      exact h4 M2 F e1 hb
theorem qa_type {w n : Int} {M : jMm} {Q : Int → jMm → Prop} (T0 : 0 ≤ M 114 8) (T1 : M 114 8 ≤ 80) (hn : ir n) (h1 : bt 1 n 8 = 0 → Q (-1) M) (h2 : ¬ bt 1 n 8 = 0 → tyB w n → Q (-1) M) (h3 : ¬ bt 1 n 8 = 0 → ¬ tyB w n → n > 80 - M 114 8 → Q (-3) M)
    (h4 : ¬ bt 1 n 8 = 0 → ¬ tyB w n → ¬ n > 80 - M 114 8 → ∀ M', (∀ a b, (a ≠ 118 ∨ b < M 114 8) → (a ≠ 114 ∨ b ≠ 8) → M' a b = M a b) → M' 114 8 = M 114 8 + n → (∀ q, 0 ≤ q → q < n → M' 118 (M 114 8 + q) = bW w (n - 1 - q)) → Q (M 114 8 + n) M') : f_X7_type [114, w, n] M Q := by
  unfold f_X7_type
  refine mt_ (sq_ (if_pc (bt 1 n 8 = 0) (nz_pc (bm (fun Q => rfl) (fun Q => rfl) (fun Q => rfl))) (fun c => h1 c) (fun c => sk_ ?_)))
  replace h2 := h2 c
  replace h3 := h3 c
  replace h4 := h4 c
  obtain ⟨n1, n8⟩ := bt_0 c
  have l118 : s_len 118 = 80 := mln118
  have en : ((n.toNat : Nat) : Int) = n := by omega
  refine sq_cut (fun L M1 => M1 = M ∧ L 0 = 114 ∧ L 1 = w ∧ L 3 = n ∧ ¬ tyB w n) (fun N1 hN1 => ?_) ?_
  · refine sq_ (st_c ?_)
    refine up0 n.toNat (fun j L M1 => M1 = M ∧ L 0 = 114 ∧ L 1 = w ∧ L 3 = n ∧ ∀ k : Int, 0 ≤ k → k < j → ¬ bt 32 (bW w k) 126 = 0) rfl (by omega) ⟨rfl, rfl, rfl, rfl, fun k _ _ => by omega⟩ ?_ ?_ ?_
    · rintro j L M1 Q1 ⟨rfl, l0, l1, l3, -⟩ hQ
      show Q1 (L 3) M1
      rw [l3, ← en]; exact hQ
    · rintro j L M1 N2 hj hi ⟨rfl, l0, l1, l3, hk⟩ hN
      refine if_pc (bt 32 (bW w j) 126 = 0) (nz_pc (bm (bL_ l1 (fun Q => by simp only [xV, hi]) (by omega) (by omega)) (fun Q => rfl) (fun Q => rfl))) (fun z => h2 ⟨j, by omega, by omega, z⟩) (fun z => sk_ (hN L M1 hi ⟨rfl, l0, l1, l3, fun k k0 k1 => ?_⟩))
      by_cases e : k = j
      · rw [e]; exact z
      · exact hk k k0 (by omega)
    · rintro L M1 - ⟨rfl, l0, l1, l3, hk⟩
      exact hN1 L M1 ⟨rfl, l0, l1, l3, fun ⟨k, k0, k1, k2⟩ => hk k k0 (by omega) k2⟩
  · rintro L M1 ⟨rfl, l0, l1, l3, ng⟩
    refine sq_ (if_pc (M1 114 8 + n > 80) (kr_pc (bn_add (gf_ (k := 114) (fun Q => by simp only [xV, l0]) rfl) (fun Q => by simp only [xV, l3]) ⟨by omega, by omega⟩) (fun Q => rfl)) (fun z => h3 ng (by omega)) (fun z => sk_ ?_))
    replace h4 := h4 ng (by omega)
    refine sq_cut (fun L M2 => L 0 = 114 ∧ (∀ a b, (a ≠ 118 ∨ b < M1 114 8) → (a ≠ 114 ∨ b ≠ 8) → M2 a b = M1 a b) ∧ M2 114 8 = M1 114 8 + n ∧ ∀ q, 0 ≤ q → q < n → M2 118 (M1 114 8 + q) = bW w (n - 1 - q)) (fun N1 hN1 => ?_) ?_
    · refine sq_ (st_v (v := n - 1) (bs_ (fun Q => by simp only [xV, l3]) (fun Q => rfl) ⟨by omega, by omega⟩) ?_)
      refine dn0 n.toNat (fun j L M2 => L 0 = 114 ∧ L 1 = w ∧ (∀ a b, (a ≠ 118 ∨ b < M1 114 8) → (a ≠ 114 ∨ b ≠ 8) → M2 a b = M1 a b) ∧ M2 114 8 = M1 114 8 + n - j ∧ ∀ q, 0 ≤ q → q < n - j → M2 118 (M1 114 8 + q) = bW w (n - 1 - q)) (by rw [en]; rfl) ⟨l0, l1, fun _ _ _ _ => rfl, by omega, fun q _ _ => by omega⟩ ?_ (by omega) ?_
      · rintro j L M2 N2 hj hi ⟨l0, l1, F, e1, hb⟩ hN
        refine sq_ (ast_ (k := 118) (x := M2 114 8) (v := bW w j) (gr_ (k := 114) (fun Q => by simp only [xV, l0]) mrf7) (gf_ (k := 114) (fun Q => by simp only [xV, l0]) rfl) (fun Q => ?_) (by omega) ?_)
        · refine (un_ (bL_ (w := w) (k := j) l1 (fun Q => by simp only [xV, hi]) (by omega) (by omega)) Q).trans ?_
          rw [bW_id]
        · show ir (jwr M2 118 (M2 114 8) (bW w j) (L 0) 8 + 1) ∧ N2 L (jwr (jwr M2 118 (M2 114 8) (bW w j)) (L 0) 8 (jwr M2 118 (M2 114 8) (bW w j) (L 0) 8 + 1))
          rw [l0, show jwr M2 118 (M2 114 8) (bW w j) 114 8 = M2 114 8 from jw0 (.inl (by decide))]
          refine ⟨⟨by omega, by omega⟩, hN L _ hi ⟨l0, l1, fun a b z1 z2 => by rw [jw0 (by omega), jw0 (by omega)]; exact F a b z1 z2, by rw [jw1 ⟨rfl, rfl⟩]; omega, fun q q0 q1 => ?_⟩⟩
          rw [jw0 (.inl (by decide))]
          by_cases e : M1 114 8 + q = M2 114 8
          · rw [jw1 ⟨rfl, e⟩]; congr 1; omega
          · rw [jw0 (.inr e)]; exact hb q q0 (by omega)
      · rintro L M2 - ⟨l0, l1, F, e1, hb⟩
        exact hN1 L M2 ⟨l0, F, by omega, fun q q0 q1 => hb q q0 (by omega)⟩
    · rintro L M2 ⟨l0, F, e1, hb⟩
      refine rt_ ?_
      rw [gf_ (k := 114) (v := M1 114 8 + n) (fun Q => by simp only [xV, l0]) e1]
      exact h4 M2 F e1 hb
/-- the tape changed, nothing else that counts -/
theorem Inv_tp {M M' : jMm} (I : Inv M) (h : ∀ a b, ¬ scr a b → (a ≠ 114 ∨ b ≠ 8) → (a ≠ 21 ∨ b ≠ 1) → a ≠ 22 → a ≠ 118 → M' a b = M a b) (ht : iTape M') : Inv M' := by
  have n : ∀ a b, ¬ scr a b → (a ≠ 114 ∨ b ≠ 8) → (a ≠ 21 ∨ b ≠ 1) → a ≠ 22 → a ≠ 118 → M' a b = M a b := h
  refine Inv_same I (fun b hb => n _ _ (by unfold scr; omega) (by omega) (by omega) (by omega) (by omega)) (fun b => ⟨n _ _ (by unfold scr; omega) (by omega) (by omega) (by omega) (by omega), n _ _ (by unfold scr; omega) (by omega) (by omega) (by omega) (by omega), n _ _ (by unfold scr; omega) (by omega) (by omega) (by omega) (by omega)⟩) (fun a b ha _ => n _ _ (by unfold scr; omega) (by omega) (by omega) (by omega) (by omega)) (iKept_eq I.2.1 (n _ _ (by unfold scr; omega) (by omega) (by omega) (by omega) (by omega)) (n _ _ (by unfold scr; omega) (by omega) (by omega) (by omega) (by omega)) (fun a b _ _ => n _ _ (by unfold scr; omega) (by omega) (by omega) (by omega) (by omega)) (fun b => n _ _ (by unfold scr; omega) (by omega) (by omega) (by omega) (by omega))) ht (fun s s0 s4 => iSheet_eq (I.2.2.2.1 s s0 s4) (fun b => n _ _ (by unfold scr; omega) (by omega) (by omega) (by omega) (by omega)) (fun b => n _ _ (by unfold scr; omega) (by omega) (by omega) (by omega) (by omega)) (n _ _ (by unfold scr; omega) (by omega) (by omega) (by omega) (by omega)) (n _ _ (by unfold scr; omega) (by omega) (by omega) (by omega) (by omega)) (fun i _ _ => n _ _ (by unfold scr; omega) (by omega) (by omega) (by omega) (by omega))) (.inl ⟨n _ _ (by unfold scr; omega) (by omega) (by omega) (by omega) (by omega), fun a b _ _ => n _ _ (by unfold scr; omega) (by omega) (by omega) (by omega) (by omega)⟩) (.inl (fun b _ _ => n _ _ (by unfold scr; omega) (by omega) (by omega) (by omega) (by omega)))
theorem y_type {w n : Int} (hn : ir n) : yPair Inv f_X6_type f_X7_type [w, n] := by
  intro M Q I hq
  obtain ⟨t0, t1, t2, t3⟩ := I.2.2.1
  refine q_type (by omega) (by omega) (fun c => ?_) (fun c c2 => ?_) (fun c c2 c3 => ?_) (fun c c2 c3 M1 F1 e1 b1 => ?_)
  · exact qa_type t0 t1 hn (fun _ => hq _ _ I) (fun z => absurd c z) (fun z => absurd c z) (fun z => absurd c z)
  · exact qa_type t0 t1 hn (fun z => absurd z c) (fun _ _ => hq _ _ I) (fun _ z => absurd c2 z) (fun _ z => absurd c2 z)
  · exact qa_type t0 t1 hn (fun z => absurd z c) (fun _ z => absurd z c2) (fun _ _ _ => hq _ _ I) (fun _ _ z => absurd (by omega) z)
  · rw [t2] at e1 b1 F1 c3 ⊢
    have e8 : M1 114 8 = M 114 8 := F1 _ _ (.inl (by decide)) (.inl (by decide))
    obtain ⟨n1, n8⟩ := bt_0 c
    refine qa_type (by omega) (by omega) hn (fun z => absurd z c) (fun _ z => absurd z c2) (fun _ _ z => by omega) (fun _ _ _ M2 F2 e2 b2 => ?_)
    rw [e8] at F2 e2 b2 ⊢
    refine hq _ _ (Inv_tp I (fun a b h h1 h2 h3 h4 => by rw [F2 a b (.inl h4) h1, F1 a b (.inl h3) h2]) ⟨by omega, by omega, ?_, fun i i0 i1 => ?_⟩)
    · rw [F2 _ _ (.inl (by decide)) (.inl (by decide)), e1, e2]
    · rw [F2 22 _ (.inl (by decide)) (.inl (by decide))]
      by_cases ci : i < M 114 8
      · rw [F2 118 _ (.inr ci) (.inl (by decide)), F1 22 _ (.inr ci) (.inl (by decide)), F1 118 _ (.inl (by decide)) (.inl (by decide))]
        exact t3 i i0 ci
      · have x := b1 (i - M 114 8) (by omega) (by omega)
        have y := b2 (i - M 114 8) (by omega) (by omega)
        rw [show M 114 8 + (i - M 114 8) = i by omega] at x y
        rw [x, y]
        refine ⟨rfl, ?_⟩
        have : ¬ bt 32 (bW w (n - 1 - (i - M 114 8))) 126 = 0 := fun z => c2 ⟨_, by omega, by omega, z⟩
        exact bt_0 this
