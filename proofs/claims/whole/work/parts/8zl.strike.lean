/-! pairs: strike; first, rules for words over rows -/
theorem gr_ {o : jEx} {k j v : Int} {L : jLo} {M : jMm} (ho : ∀ Q : Int → jMm → Prop, o L M Q = Q k M) (e : s_rf k j = v) (Q : Int → jMm → Prop) : xGr o j L M Q = Q v M := by
  show o L M (fun k M => Q (s_rf k j) M) = _
  rw [ho, e]
theorem gf_ {o : jEx} {k j v : Int} {L : jLo} {M : jMm} (ho : ∀ Q : Int → jMm → Prop, o L M Q = Q k M) (e : M k j = v) (Q : Int → jMm → Prop) : xGf o j L M Q = Q v M := by
  show o L M (fun k M => Q (M k j) M) = _
  rw [ho, e]
theorem ar_ {o i : jEx} {k x v : Int} {L : jLo} {M : jMm} (ho : ∀ Q : Int → jMm → Prop, o L M Q = Q k M) (hi : ∀ Q : Int → jMm → Prop, i L M Q = Q x M) (h : 0 ≤ x ∧ x < s_len k) (e : s_rf k x = v) (Q : Int → jMm → Prop) : xAr o i L M Q = Q v M := by
  show o L M (fun k M => i L M fun x M => (0 ≤ x ∧ x < s_len k) ∧ Q (s_rf k x) M) = _
  rw [ho, hi, e]; exact ixE h.1 h.2
theorem al_ {o i : jEx} {k x v : Int} {L : jLo} {M : jMm} (ho : ∀ Q : Int → jMm → Prop, o L M Q = Q k M) (hi : ∀ Q : Int → jMm → Prop, i L M Q = Q x M) (h : 0 ≤ x ∧ x < s_len k) (e : M k x = v) (Q : Int → jMm → Prop) : xAl o i L M Q = Q v M := by
  show o L M (fun k M => i L M fun x M => (0 ≤ x ∧ x < s_len k) ∧ Q (M k x) M) = _
  rw [ho, hi, e]; exact ixE h.1 h.2
theorem bs_ {a b : jEx} {x y : Int} {L : jLo} {M : jMm} (ha : ∀ Q : Int → jMm → Prop, a L M Q = Q x M) (hb : ∀ Q : Int → jMm → Prop, b L M Q = Q y M) (hi : ir (x - y)) (Q : Int → jMm → Prop) : xBin boSub a b L M Q = Q (x - y) M := by
  show a L M (fun x M => b L M fun y M => ir (x - y) ∧ Q (x - y) M) = _
  rw [ha, hb]; exact andT hi
theorem ast_ {o i e : jEx} {k x v : Int} {L : jLo} {M : jMm} {N : jLo → jMm → Prop} {R : Int → jMm → Prop} (ho : ∀ Q : Int → jMm → Prop, o L M Q = Q k M) (hi : ∀ Q : Int → jMm → Prop, i L M Q = Q x M) (he : ∀ Q : Int → jMm → Prop, e L M Q = Q v M) (h : 0 ≤ x ∧ x < s_len k) (hN : N L (jwr M k x v)) : tAst o i e L M N R := by
  show o L M (fun k M => i L M fun x M => e L M fun v M => (0 ≤ x ∧ x < s_len k) ∧ N L (jwr M k x v))
  rw [ho, hi, he]; exact ⟨h, hN⟩
theorem un_ {a : jEx} {u : Int → Int} {x : Int} {L : jLo} {M : jMm} (ha : ∀ Q : Int → jMm → Prop, a L M Q = Q x M) (Q : Int → jMm → Prop) : xUn u a L M Q = Q (u x) M := by
  show a L M (fun x M => Q (u x) M) = _
  rw [ha]
theorem mn_ {a b : jEx} {x y : Int} {L : jLo} {M : jMm} (ha : ∀ Q : Int → jMm → Prop, a L M Q = Q x M) (hb : ∀ Q : Int → jMm → Prop, b L M Q = Q y M) (Q : Int → jMm → Prop) : xBin boMin a b L M Q = Q (min x y) M := by
  show a L M (fun x M => b L M fun y M => Q (min x y) M) = _
  rw [ha, hb]
theorem mx_ {a b : jEx} {x y : Int} {L : jLo} {M : jMm} (ha : ∀ Q : Int → jMm → Prop, a L M Q = Q x M) (hb : ∀ Q : Int → jMm → Prop, b L M Q = Q y M) (Q : Int → jMm → Prop) : xBin boMax a b L M Q = Q (max x y) M := by
  show a L M (fun x M => b L M fun y M => Q (max x y) M) = _
  rw [ha, hb]
theorem mt_e {ps : List Nat} {e : jEx} {xs : List Int} {M : jMm} {Q : Int → jMm → Prop} : jMeth ps (tRet e) xs M Q = e (jIn ps xs) M Q := rfl
theorem ca3 {f : jMd} {e0 e1 e2 : jEx} {x0 x1 x2 : Int} {L : jLo} {M : jMm} {Q : Int → jMm → Prop} (h0 : ∀ Q : Int → jMm → Prop, e0 L M Q = Q x0 M) (h1 : ∀ Q : Int → jMm → Prop, e1 L M Q = Q x1 M) (h2 : ∀ Q : Int → jMm → Prop, e2 L M Q = Q x2 M) (h : f [x0, x1, x2] M Q) : xCall f (xsC e0 (xsC e1 (xsC e2 xsN))) L M Q := by
  show e0 L M (fun v0 M1 => e1 L M1 (fun v1 M2 => e2 L M2 (fun v2 M3 => f [v0, v1, v2] M3 Q)))
  rw [h0, h1, h2]; exact h
theorem ca4 {f : jMd} {e0 e1 e2 e3 : jEx} {x0 x1 x2 x3 : Int} {L : jLo} {M : jMm} {Q : Int → jMm → Prop} (h0 : ∀ Q : Int → jMm → Prop, e0 L M Q = Q x0 M) (h1 : ∀ Q : Int → jMm → Prop, e1 L M Q = Q x1 M) (h2 : ∀ Q : Int → jMm → Prop, e2 L M Q = Q x2 M) (h3 : ∀ Q : Int → jMm → Prop, e3 L M Q = Q x3 M) (h : f [x0, x1, x2, x3] M Q) : xCall f (xsC e0 (xsC e1 (xsC e2 (xsC e3 xsN)))) L M Q := by
  show e0 L M (fun v0 M1 => e1 L M1 (fun v1 M2 => e2 L M2 (fun v2 M3 => e3 L M3 (fun v3 M4 => f [v0, v1, v2, v3] M4 Q))))
  rw [h0, h1, h2, h3]; exact h
/-- a row from p on, up to e, one down -/
def shf (M : jMm) (p e k q : Int) : Int := if p ≤ q ∧ q < e then M k (q + 1) else M k q
theorem shf_y {M : jMm} {p e k q : Int} (h : p ≤ q ∧ q < e) : shf M p e k q = M k (q + 1) := if_pos h
theorem shf_n {M : jMm} {p e k q : Int} (h : ¬ (p ≤ q ∧ q < e)) : shf M p e k q = M k q := if_neg h
theorem shf_e {M : jMm} {p e e' k q : Int} (h : (p ≤ q ∧ q < e) ↔ (p ≤ q ∧ q < e')) : shf M p e k q = shf M p e' k q := by
  by_cases c : p ≤ q ∧ q < e
  · rw [shf_y c, shf_y (h.mp c)]
  · rw [shf_n c, shf_n (fun z => c (h.mpr z))]
def ex (w i : Int) : Int := if w < i then 1 else 0
theorem q_remove {p : Int} {M : jMm} {Q : Int → jMm → Prop} (p0 : 0 ≤ p) (p1 : p < M 1 4) (n14 : M 1 4 ≤ 14) (hq : ∀ M', (∀ a b, (a < 7 ∨ 9 < a) → (a ≠ 1 ∨ b ≠ 4) → M' a b = M a b) → M' 1 4 = M 1 4 - 1 → (∀ w q, 0 ≤ w → w < 3 → M' (7 + w) q = shf M p (M 1 4 - 1) (7 + w) q) → Q 0 M') : f_X2_removePerson [1, p] M Q := by
  unfold f_X2_removePerson
  have i1 : ir (p + 1) := ⟨by omega, by omega⟩
  refine mt_ (sq_ (sq_ (st_v (v := p + 1) (bn_add (fun Q => rfl) (fun Q => rfl) i1) ?_)))
  refine up_rule (M 1 4) (p + 1) (fun j L M1 => L 0 = 1 ∧ (∀ a b, (a < 7 ∨ 9 < a) → M1 a b = M a b) ∧ ∀ w q, 0 ≤ w → w < 3 → M1 (7 + w) q = shf M p (j - 1) (7 + w) q) rfl (by omega) (by omega) (by omega) ⟨rfl, fun _ _ _ => rfl, fun w q _ _ => (shf_n (by omega)).symm⟩ ?_ ?_ ?_
  · rintro j L M1 Q1 ⟨l0, F, -⟩ hQ
    show Q1 (M1 (L 0) 4) M1
    rw [l0, F 1 4 (by omega)]; exact hQ
  · rintro j L M1 N1 hj1 hj2 hi ⟨l0, F, hs⟩ hN
    refine sq_ (st_c ?_)
    refine up0 3 (fun i L M2 => L 0 = 1 ∧ L 2 = j ∧ (∀ a b, (a < 7 ∨ 9 < a) → M2 a b = M a b) ∧ ∀ w q, 0 ≤ w → w < 3 → M2 (7 + w) q = shf M p (j - 1 + ex w i) (7 + w) q) rfl (by decide) ⟨l0, hi, F, fun w q w0 w3 => ?_⟩ (fun _ _ _ _ _ h => h) ?_ ?_
    · rw [hs w q w0 w3, show ex w ((0 : Nat) : Int) = 0 from if_neg (by omega)]
      exact shf_e (by omega)
    · rintro i L M2 N2 hi3 li ⟨l0, l2, F, hs⟩ hN2
      obtain ⟨k1, k2, k3, k4, k5, k6, k7, k8, k9, k10⟩ := pl_ (d := 1) (w := i) (.inl rfl) (by omega) (by omega)
      have k8' : s_rf 6 i = 7 + i := k8
      have k10' : s_len (7 + i) = 14 := k10
      have k5' : s_len 6 = 3 := k5
      have k2' : s_rf 1 1 = 6 := k2
      have ho : ∀ Q : Int → jMm → Prop, xAr (xGr (xV 0) 1) (xV 3) L M2 Q = Q (7 + i) M2 := ar_ (gr_ (fun Q => by simp only [xV, l0]) k2') (fun Q => by simp only [xV, li]) (by omega) k8'
      have val : M2 (7 + i) j = M (7 + i) j := by
        rw [hs i j (by omega) (by omega), show ex i (i : Int) = 0 from if_neg (by omega)]
        exact shf_n (by omega)
      refine ast_ (k := 7 + i) (x := j - 1) (v := M (7 + i) j) ho (bs_ (x := j) (y := 1) (fun Q => by simp only [xV, l2]) (fun Q => rfl) ⟨by omega, by omega⟩) (al_ ho (fun Q => by simp only [xV, l2]) (by omega) val) (by omega) (hN2 L _ li ⟨l0, l2, fun a b z => by rw [jw0 (by omega)]; exact F a b z, fun w q w0 w3 => ?_⟩)
      by_cases e : w = i
      · subst e
        have x1 : ex i ((i + 1 : Nat) : Int) = 1 := if_pos (by omega)
        have x0 : ex i (i : Int) = 0 := if_neg (by omega)
        rw [x1]
        by_cases e2 : q = j - 1
        · rw [jw1 ⟨rfl, e2⟩, shf_y (by omega), e2, show j - 1 + 1 = j by omega]
        · rw [jw0 (.inr e2), hs _ q w0 w3, x0]
          exact shf_e (by omega)
      · rw [jw0 (.inl (by omega)), hs w q w0 w3]
        have : ex w (i : Int) = ex w ((i + 1 : Nat) : Int) := by
          unfold ex
          by_cases c : w < i
          · rw [if_pos c, if_pos (by omega)]
          · rw [if_neg c, if_neg (by omega)]
        rw [this]
    · rintro L M2 - ⟨l0, l2, F, hs⟩
      refine hN L M2 l2 ⟨l0, F, fun w q w0 w3 => ?_⟩
      rw [hs w q w0 w3, show ex w ((3 : Nat) : Int) = 1 from if_pos (by omega)]
      exact shf_e (by omega)
  · rintro L M1 - ⟨l0, F, hs⟩
    have e4 : M1 1 4 = M 1 4 := F 1 4 (by omega)
    refine sq_ ?_
    show ir (M1 (L 0) 4 - 1) ∧ Q 0 (jwr M1 (L 0) 4 (M1 (L 0) 4 - 1))
    rw [l0, e4]
    refine ⟨⟨by omega, by omega⟩, hq _ (fun a b z z' => by rw [jw0 z']; exact F a b z) (jw1 ⟨rfl, rfl⟩) (fun w q w0 w3 => by rw [jw0 (by omega)]; exact hs w q w0 w3)⟩
def sh3 (M : jMm) (p e q : Int) : Int := if p ≤ q ∧ q < e then M 117 (q + 3) else M 117 q
theorem qa_strike {p : Int} {M : jMm} {Q : Int → jMm → Prop} (p0 : 0 ≤ p) (p1 : p < M 114 5) (n14 : M 114 5 ≤ 14) (hq : ∀ M', (∀ a b, a ≠ 117 → (a ≠ 114 ∨ b ≠ 5) → M' a b = M a b) → M' 114 5 = M 114 5 - 1 → (∀ q, M' 117 q = sh3 M (3 * p) (3 * (M 114 5 - 1)) q) → Q (M 114 5 - 1) M') : f_X7_strike [114, p] M Q := by
  unfold f_X7_strike
  have in1 : ir (M 114 5 - 1) := ⟨by omega, by omega⟩
  have cb : ¬ bt 0 p (M 114 5 - 1) = 0 := by unfold bt; rw [if_pos (by omega)]; decide
  refine mt_ (sq_ (if_pc (bt 0 p (M 114 5 - 1) = 0) (nz_pc (c2 (x0 := 114) (x1 := p) (fun Q => rfl) (fun Q => rfl) (fun Q => by rw [q_X7_isOne, andT in1]))) (fun z => absurd z cb) (fun _ => sk_ (sq_ ?_))))
  refine ⟨in1, ?_⟩
  show tSeq _ _ _ (jwr M 114 5 (M 114 5 - 1)) _ _
  generalize hM1 : jwr M 114 5 (M 114 5 - 1) = M1
  have m1 : ∀ a b, (a ≠ 114 ∨ b ≠ 5) → M1 a b = M a b := fun a b h => by rw [← hM1, jw0 h]
  have e5 : M1 114 5 = M 114 5 - 1 := by rw [← hM1, jw1 ⟨rfl, rfl⟩]
  clear hM1
  refine sq_ (sq_ (st_v (v := 3 * p) (bn_mul (fun Q => rfl) (fun Q => rfl) ⟨by omega, by omega⟩) ?_))
  refine up_rule (3 * (M 114 5 - 1)) (3 * p) (fun j L M2 => L 0 = 114 ∧ (∀ a b, a ≠ 117 → M2 a b = M1 a b) ∧ ∀ q, M2 117 q = sh3 M (3 * p) j q) rfl (by omega) (by omega) (by omega) ⟨rfl, fun _ _ _ => rfl, fun q => by rw [m1 _ _ (.inl (by decide))]; exact (if_neg (by omega)).symm⟩ ?_ ?_ ?_
  · rintro j L M2 Q1 ⟨l0, F, -⟩ hQ
    rw [bn_mul (x := 3) (y := M 114 5 - 1) (fun Q => rfl) (gf_ (k := 114) (fun Q => by simp only [xV, l0]) (by rw [F _ _ (by decide), e5])) ⟨by omega, by omega⟩]
    exact hQ
  · rintro j L M2 N1 hj1 hj2 hi ⟨l0, F, hs⟩ hN
    have ho : ∀ Q : Int → jMm → Prop, xGr (xV 0) 6 L M2 Q = Q 117 M2 := gr_ (fun Q => by simp only [xV, l0]) mrf6
    have l117 := mln117
    have val : M2 117 (j + 3) = M 117 (j + 3) := by rw [hs]; exact if_neg (by omega)
    refine ast_ (k := 117) (x := j) (v := M 117 (j + 3)) ho (fun Q => by simp only [xV, hi]) (al_ ho (bn_add (x := j) (y := 3) (fun Q => by simp only [xV, hi]) (fun Q => rfl) ⟨by omega, by omega⟩) (by omega) val) (by omega) (hN L _ hi ⟨l0, fun a b z => by rw [jw0 (.inl z)]; exact F a b z, fun q => ?_⟩)
    unfold sh3 at hs ⊢
    by_cases e : q = j
    · rw [jw1 ⟨rfl, e⟩, if_pos (by omega), e]
    · rw [jw0 (.inr e), hs]
      by_cases c : 3 * p ≤ q ∧ q < j
      · rw [if_pos c, if_pos (by omega)]
      · rw [if_neg c, if_neg (by omega)]
  · rintro L M2 - ⟨l0, F, hs⟩
    refine rt_ ?_
    show Q (M2 (L 0) 5) M2
    rw [l0, F _ _ (by decide), e5]
    exact hq M2 (fun a b h h' => by rw [F a b h, m1 a b h']) (by rw [F _ _ (by decide), e5]) hs
theorem y_strike {p : Int} : yPair Inv f_X6_strike f_X7_strike [p] := by
  intro M Q I hq
  obtain ⟨⟨pl, rl⟩, -⟩ := id I
  have n0 := pl.1.1.2.2.1
  have n14 := pl.1.1.2.2.2
  have r2 := rl.2.1
  have in1 : ir (M 114 5 - 1) := ⟨by omega, by omega⟩
  unfold f_X6_strike
  refine mt_ (sq_ (if_pc (bt 0 p (M 114 5 - 1) = 0) (nz_pc (c2 (x0 := 0) (x1 := p) (fun Q => rfl) (fun Q => rfl) (fun Q => by rw [q_X6_isPerson, r2, andT in1]))) (fun c => ?_) (fun c => ?_)))
  · show f_X7_strike [114, p] M _
    unfold f_X7_strike
    exact mt_ (sq_ (if_pc (bt 0 p (M 114 5 - 1) = 0) (nz_pc (c2 (x0 := 114) (x1 := p) (fun Q => rfl) (fun Q => rfl) (fun Q => by rw [q_X7_isOne, andT in1]))) (fun _ => hq _ _ I) (fun z => absurd c z)))
  · obtain ⟨p0, p1⟩ := bt_0 c
    refine sk_ (sq_ (seqG (x := 1) (y := p) (fun Q => by show Q (s_rf 0 0) M = _; rw [rf_0_0]) (fun Q => rfl) ?_))
    refine q_remove p0 (by omega) (by omega) (fun M1 F1 e14 s1 => sq_ (do1 ?_))
    show f_X6_tellAnew [0] M1 _
    rw [q_X6_tellAnew]
    rw [r2] at e14 s1
    generalize hM2 : jwr (jwr M1 0 8 0) 0 9 0 = M2
    have m2 : ∀ a b, (a ≠ 0 ∨ (b ≠ 8 ∧ b ≠ 9)) → M2 a b = M1 a b := fun a b h => by rw [← hM2, jw0 (by omega), jw0 (by omega)]
    have e08 : M2 0 8 = 0 := by rw [← hM2, jw0 (by omega), jw1 ⟨rfl, rfl⟩]
    have e09 : M2 0 9 = 0 := by rw [← hM2, jw1 ⟨rfl, rfl⟩]
    clear hM2
    refine rt_ ?_
    rw [gf_ (k := 1) (v := M 114 5 - 1) (gr_ (k := 0) (fun Q => rfl) rf_0_0) (by rw [m2 _ _ (.inl (by decide)), e14])]
    have F2 : ∀ a b, (a < 7 ∨ 9 < a) → (a ≠ 1 ∨ b ≠ 4) → (a ≠ 0 ∨ (b ≠ 8 ∧ b ≠ 9)) → M2 a b = M a b := fun a b h h' h'' => by rw [m2 a b h'', F1 a b h h']
    have n2 : M2 114 5 = M 114 5 := F2 _ _ (.inr (by decide)) (.inl (by decide)) (.inl (by decide))
    show f_X7_strike [114, p] M2 _
    refine qa_strike p0 (by omega) (by omega) (fun M3 F3 e35 s3 => ?_)
    rw [n2] at e35 s3 ⊢
    have lo : ∀ a b, (a < 7 ∨ 9 < a) → (a ≠ 1 ∨ b ≠ 4) → (a ≠ 0 ∨ (b ≠ 8 ∧ b ≠ 9)) → a ≠ 117 → (a ≠ 114 ∨ b ≠ 5) → M3 a b = M a b := fun a b h1 h2 h3 h4 h5 => by rw [F3 a b h4 h5, F2 a b h1 h2 h3]
    have b7 : ∀ b, M2 117 b = M 117 b := fun b => F2 _ _ (.inr (by decide)) (.inl (by decide)) (.inl (by decide))
    have ky : ∀ x, 0 ≤ x → x < M 114 5 - 1 → ∃ y, 0 ≤ y ∧ y < M 114 5 ∧ (∀ u, 0 ≤ u → u < 3 → M3 117 (3 * x + u) = M 117 (3 * y + u)) ∧ M3 7 x = M 7 y ∧ M3 8 x = M 8 y ∧ M3 9 x = M 9 y := fun x x0 x1 => by
      have r : ∀ w, 0 ≤ w → w < 3 → M3 (7 + w) x = shf M p (M 114 5 - 1) (7 + w) x := fun w w0 w3 => by
        rw [F3 _ _ (by omega) (.inl (by omega)), m2 _ _ (.inl (by omega))]; exact s1 w x w0 w3
      by_cases c : p ≤ x
      · refine ⟨x + 1, by omega, by omega, fun u u0 u3 => ?_, ?_, ?_, ?_⟩
        · rw [s3]; unfold sh3; rw [if_pos (by omega), b7]; congr 1; omega
        · exact (r 0 (by decide) (by decide)).trans (shf_y (by omega))
        · exact (r 1 (by decide) (by decide)).trans (shf_y (by omega))
        · exact (r 2 (by decide) (by decide)).trans (shf_y (by omega))
      · refine ⟨x, by omega, by omega, fun u u0 u3 => ?_, ?_, ?_, ?_⟩
        · rw [s3]; unfold sh3; rw [if_neg (by omega), b7]
        · exact (r 0 (by decide) (by decide)).trans (shf_n (by omega))
        · exact (r 1 (by decide) (by decide)).trans (shf_n (by omega))
        · exact (r 2 (by decide) (by decide)).trans (shf_n (by omega))
    have l114 : ∀ b, b ≠ 5 → M3 114 b = M 114 b := fun b h => lo _ _ (.inr (by decide)) (.inl (by decide)) (.inl (by decide)) (by decide) (.inr h)
    have a5 : M3 115 = M 115 := funext fun b => lo _ _ (.inr (by decide)) (.inl (by decide)) (.inl (by decide)) (by decide) (.inl (by decide))
    have a6 : M3 116 = M 116 := funext fun b => lo _ _ (.inr (by decide)) (.inl (by decide)) (.inl (by decide)) (by decide) (.inl (by decide))
    have l1 : ∀ b, b ≠ 4 → M3 1 b = M 1 b := fun b h => lo _ _ (.inl (by decide)) (.inr h) (.inl (by decide)) (by decide) (.inl (by decide))
    have l3 : ∀ a b, 2 ≤ a → a < 7 → M3 a b = M a b := fun a b h h' => lo _ _ (.inl h') (.inl (by omega)) (.inl (by omega)) (by omega) (.inl (by omega))
    have e4' : M3 1 4 = M 114 5 - 1 := by rw [F3 _ _ (by decide) (.inl (by decide)), m2 _ _ (.inl (by decide)), e14]
    obtain ⟨⟨⟨k0, k3, -, -⟩, pp, ps, pset⟩, pw, pc, pr, pch⟩ := pl
    obtain ⟨r1, -, r3, r4, r5, r6, r7⟩ := rl
    refine hq _ _ (Inv_anew I ?_ ?_ ?_ ?_ ?_ (fun a b h => lo _ _ (by omega) (by omega) (by omega) (by omega) (by omega)))
    · unfold iPl gPl
      rw [l114 1 (by decide), l114 3 (by decide), l114 4 (by decide), e35, a5, a6]
      refine ⟨⟨⟨k0, k3, by omega, by omega⟩, fun x x0 x1 => ?_, ps, pset⟩, pw, pc, pr, pch⟩
      obtain ⟨y, y0, y1, h, -⟩ := ky x x0 x1
      have h0 := h 0 (by decide) (by decide)
      rw [show 3 * x + 0 = 3 * x by omega, show 3 * y + 0 = 3 * y by omega] at h0
      rw [h0, h 1 (by decide) (by decide), h 2 (by decide) (by decide)]
      exact pp y y0 y1
    · unfold pRel
      rw [l114 1 (by decide), l114 3 (by decide), l114 4 (by decide), e35, a5, a6, e4', l1 3 (by decide), l1 5 (by decide), l1 6 (by decide)]
      refine ⟨r1, rfl, r3, r4, fun j j0 j6 => ?_, fun s s0 s1 => ?_, fun x x0 x1 => ?_⟩
      · rw [lo 10 _ (.inr (by decide)) (.inl (by decide)) (.inl (by decide)) (by decide) (.inl (by decide))]; exact r5 j j0 j6
      · rw [l3 3 _ (by decide) (by decide), l3 4 _ (by decide) (by decide), l3 5 _ (by decide) (by decide)]; exact r6 s s0 s1
      · obtain ⟨y, y0, y1, h, q7, q8, q9⟩ := ky x x0 x1
        have h0 := h 0 (by decide) (by decide)
        rw [show 3 * x + 0 = 3 * x by omega, show 3 * y + 0 = 3 * y by omega] at h0
        rw [h0, h 1 (by decide) (by decide), h 2 (by decide) (by decide), q7, q8, q9]
        exact r7 y y0 y1
    · rw [F3 0 8 (by decide) (.inl (by decide))]; exact e08
    · rw [F3 0 9 (by decide) (.inl (by decide))]; exact e09
    · exact lo 0 2 (.inl (by decide)) (.inl (by decide)) (.inr (by decide)) (by decide) (.inl (by decide))
