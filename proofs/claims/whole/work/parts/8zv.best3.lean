/-! pairs: best -/
theorem j32 {L : jLo} {x y : Int} : jup (jup L 2 x) 3 y 2 = x := rfl
theorem sB_s {W : Int → Int} {B : Int} {m : Nat} : sB W B (m + 1) = min (sB W B m) (W m) := rfl
theorem rf_0_7 : s_rf 0 7 = 80 := by decide +kernel
theorem fl_d {i a N : Nat} (h : a < N) : ((i * N + a : Nat) : Int) / (N : Int) = i ∧ ((i * N + a : Nat) : Int) % (N : Int) = a := by
  have e : ((i * N + a : Nat) : Int) = (a : Int) + (i : Int) * (N : Int) := by
    rw [Int.natCast_add, Int.natCast_mul, Int.add_comm]
  have q : ((i * N + a : Nat) : Int) / (N : Int) = i := by
    rw [e, Int.add_mul_ediv_right _ _ (by omega), Int.ediv_eq_zero_of_lt (by omega) (by omega)]; omega
  refine ⟨q, ?_⟩
  rw [Int.emod_def, q, e, Int.mul_comm]; omega
def sF (M M' : jMm) : Prop := ∀ a b, (a < 54 ∨ 106 ≤ a) → (a ≠ 0 ∨ b < 9 ∨ 12 < b) → M' a b = M a b
theorem sF_tr {M M' M'' : jMm} (h : sF M M') (h' : sF M' M'') : sF M M'' := fun a b x y => (h' a b x y).trans (h a b x y)
theorem sF_o {d : Int} {M M' : jMm} (hd : d = 54 ∨ d = 80) (h : oFr d M M') : sF M M' := fun a b x _ => h a b (by omega)
theorem sF_wr {M : jMm} {j v : Int} (h : 9 ≤ j ∧ j ≤ 12) : sF M (jwr M 0 j v) := fun a b _ y => jw0 (by omega)
/-- the least sum without a change, as the program goes through them -/
theorem q_seek1 {t : Int} {N : Nat} {M : jMm} {L : jLo} {N1 : jLo → jMm → Prop} {R : Int → jMm → Prop} (pl : iPl M) (rl : pRel M M) (hN : gMn M = N) (l0 : L 0 = 0) (l1 : L 1 = t) (l2 : L 2 = 1000000) (h : ∀ L' M', L' 0 = 0 → L' 1 = t → L' 2 = sB (gWy M) 1000000 N → sF M M' → N1 L' M') : (tSeq (tSet 3 (xC 0)) (tWh (kR (fun x y => x < y) (xV 3) (xSt 7 (xGf (xGr (xV 0) 0) 3))) (tSeq (tSeq (tDo f_X0_loadAllDay (xsC (xGr (xV 0) 6) (xsC (xGr (xV 0) 0) (xsC (xV 3) (xsN))))) (tSeq (tDo f_X0_runWaits (xsC (xGr (xV 0) 6) (xsC (xC 0) (xsC (xV 2) (xsN))))) (tSet 2 (xBin boMin (xV 2) (xGf (xGr (xV 0) 6) 12))))) (tInc 3 1)))) L M N1 R := by
  have k0 := pl.1.1.1
  have k3 := pl.1.1.2.1
  have mb := mn_b k0 k3
  change 1 ≤ gMn M ∧ gMn M ≤ 27 at mb
  have hd : isDay 54 := .inr (.inl rfl)
  refine sq_ (st_c ?_)
  refine up0 N (fun j L M1 => L 0 = 0 ∧ L 1 = t ∧ L 2 = sB (gWy M) 1000000 j ∧ sF M M1) rfl (by omega) ⟨l0, l1, l2, fun _ _ _ _ => rfl⟩ ?_ ?_ (fun L' M' _ z => h L' M' z.1 z.2.1 z.2.2.1 z.2.2.2)
  · rintro j L M1 Q1 ⟨l0, -, -, F⟩ hQ
    show (0 ≤ M1 (s_rf (L 0) 0) 3 ∧ M1 (s_rf (L 0) 0) 3 < s_slen 7) ∧ Q1 (s_sv 7 (M1 (s_rf (L 0) 0) 3)) M1
    rw [l0, rf_0_0, F _ _ (by omega) (by omega), rl.1, sv7.2.2.2.2]
    refine ⟨by omega, ?_⟩
    change Q1 (gMn M) M1
    rw [hN]; exact hQ
  · rintro j L M1 N2 hj hi ⟨l0, l1, l2, F⟩ hN2
    refine sq_ (do3e (x0 := 54) (x1 := 1) (x2 := j) (fun Q => by simp only [xGr, xV, l0, rf_0_6]) (fun Q => by simp only [xGr, xV, l0, rf_0_0]) (fun Q => by simp only [xV, hi]) ?_)
    have rl1 : pRel M1 M := pRel_eq rl (fun a b h h0 => F _ _ (by omega) (by omega)) (fun _ _ => rfl) (fun _ => ⟨rfl, rfl, rfl⟩)
    refine pd_allDay hd pl.1 rl1 (by omega) (fun M2 B h10 F2 => ?_)
    have G := good_wy pl (j : Int)
    have Z := pdB_Z B pl.1 (c := 0) (w := tw M) h10 (fun z => absurd z (by decide))
    refine sq_ (do3e (x0 := 54) (x1 := 0) (x2 := L 2) (fun Q => by simp only [xGr, xV, l0, rf_0_6]) (fun Q => rfl) (fun Q => rfl) ?_)
    refine pd_runWaits (a := 0) hd G Z (by decide) (fun M3 F3 h12 => ?_)
    change M3 54 12 = gWy M j ∨ (L 2 ≤ M3 54 12 ∧ M3 54 12 ≤ gWy M j) at h12
    refine st_v (v := min (L 2) (gWy M j)) (fun Q => ?_) (hN2 _ _ hi ⟨l0, l1, ?_, sF_tr F (sF_tr (sF_o (.inl rfl) F2) (sF_o (.inl rfl) F3))⟩)
    · refine (mn_ (x := L 2) (y := M3 54 12) (fun Q => rfl) (gf_ (k := 54) (gr_ (k := 0) (fun Q => by simp only [xV, l0]) rf_0_6) rfl) Q).trans ?_
      rw [show min (L 2) (M3 54 12) = min (L 2) (gWy M j) by omega]
    · exact j32.trans (by rw [sB_s, l2])
/-- what the search has found, with so many gone through -/
def skU (M : jMm) (t B : Int) (N k : Nat) (v : Int) (M1 : jMm) : Prop := v = sB (gWk M t) B k ∧ (v < B → M1 0 10 = gBs (gWk M t) k / (N : Int) ∧ M1 0 11 = gBs (gWk M t) k % (N : Int))
theorem skU_fr {M M1 M2 : jMm} {t B v : Int} {N k : Nat} (h : skU M t B N k v M1) (e : ∀ b, M2 0 b = M1 0 b) : skU M t B N k v M2 := ⟨h.1, fun z => by rw [e, e]; exact h.2 z⟩
theorem q_seek2 {t B : Int} {tn N j : Nat} {M M0 : jMm} {L : jLo} {N1 : jLo → jMm → Prop} {R : Int → jMm → Prop} (pl : iPl M) (rl : pRel M M) (hN : gMn M = N) (ht : t = tn) (t1 : 1 ≤ tn) (t99 : tn ≤ 99) (hj : j < N) (l0 : L 0 = 0) (l1 : L 1 = t) (l3 : L 3 = j) (F : sF M M0) (U : skU M t B N (j * N) (L 2) M0) (Z : pdZ 80 0 (tw M) (gBegin M (M 115 0) (-4) (wy j) (fun s => M 116 (3 * s + 2))) tn M0) (h : ∀ L' M', L' 0 = 0 → L' 1 = t → L' 3 = (j : Int) → sF M M' → skU M t B N ((j + 1) * N) (L' 2) M' → N1 L' M') : (tSeq (tSet 4 (xC 0)) (tWh (kAnd (kR (fun x y => x < y) (xV 4) (xSt 7 (xGf (xGr (xV 0) 0) 3))) (kR (fun x y => x < y) (xGf (xGr (xV 0) 7) 12) (xV 2))) (tSeq (tSeq (tDo f_X0_copyFrom (xsC (xGr (xV 0) 6) (xsC (xGr (xV 0) 7) (xsN)))) (tSeq (tDo f_X0_turnAt (xsC (xGr (xV 0) 6) (xsC (xV 1) (xsC (xV 4) (xsN))))) (tSeq (tDo f_X0_runWaits (xsC (xGr (xV 0) 6) (xsC (xV 1) (xsC (xV 2) (xsN))))) (tIf (kR (fun x y => x < y) (xGf (xGr (xV 0) 6) 12) (xV 2)) (tSeq (tSet 2 (xGf (xGr (xV 0) 6) 12)) (tSeq (tPut (xV 0) 10 (xV 3)) (tPut (xV 0) 11 (xV 4)))) tSkip)))) (tInc 4 1)))) L M0 N1 R := by
  have k0 := pl.1.1.1
  have k3 := pl.1.1.2.1
  have mb := mn_b k0 k3
  change 1 ≤ gMn M ∧ gMn M ≤ 27 at mb
  have hd : isDay 54 := .inr (.inl rfl)
  have he : isDay 80 := .inr (.inr rfl)
  have G0 := good_wy pl (j : Int)
  have eWk : ∀ a : Nat, a < N → gWk M t ((j * N + a : Nat) : Int) = gWb M t j a := fun a ha => by
    unfold gWk
    rw [hN, (fl_d ha).1, (fl_d ha).2]
  refine sq_ (st_c ?_)
  refine wh_rule (fun k L M1 => L 0 = 0 ∧ L 1 = t ∧ L 3 = j ∧ sF M M1 ∧ pdZ 80 0 (tw M) (gBegin M (M 115 0) (-4) (wy j) (fun s => M 116 (3 * s + 2))) tn M1 ∧ ∃ a : Nat, L 4 = a ∧ a ≤ N ∧ skU M t B N (j * N + a) (L 2) M1 ∧ k = N - a) ?_ (k := N) ⟨l0, l1, l3, F, Z, 0, rfl, by omega, U, rfl⟩
  clear F U Z l0 l1 l3
  rintro k L M1 ⟨l0, l1, l3, F, Z, a, l4, ha, U, hk⟩ N' hN'
  have eE : ∀ Q : Int → jMm → Prop, xSt 7 (xGf (xGr (xV 0) 0) 3) L M1 Q = Q (N : Int) M1 := fun Q => by
    show ((0 ≤ M1 (s_rf (L 0) 0) 3 ∧ M1 (s_rf (L 0) 0) 3 < s_slen 7) ∧ Q (s_sv 7 (M1 (s_rf (L 0) 0) 3)) M1) = _
    rw [l0, rf_0_0, F _ _ (by omega) (by omega), rl.1, sv7.2.2.2.2]
    rw [ixE k0 (by omega)]
    change Q (gMn M) M1 = _
    rw [hN]
  rw [an_pc (P := (a : Int) < N) (P' := M1 80 12 < L 2) (kr_pc (fun Q => by simp only [xV, l4]) eE) (fun _ => kr_pc (gf_ (k := 80) (gr_ (k := 0) (fun Q => by simp only [xV, l0]) rf_0_7) rfl) (fun Q => rfl))]
  have ok := ok_run (c := 0) G0.2 G0.1 tn (by omega)
  have e12 : M1 80 12 = gSum tn (gRun 0 (tw M) (gBegin M (M 115 0) (-4) (wy j) (fun s => M 116 (3 * s + 2))) tn) := Z.2.2.1
  refine ⟨fun c => ?_, fun c => ?_⟩
  · have d5 : M1 80 5 = gRun 0 (tw M) (gBegin M (M 115 0) (-4) (wy j) (fun s => M 116 (3 * s + 2))) tn 114 1 := Z.1.1.1.1
    have d6 : M1 80 6 = gRun 0 (tw M) (gBegin M (M 115 0) (-4) (wy j) (fun s => M 116 (3 * s + 2))) tn 114 5 := Z.1.1.1.2.1
    have v := ok.1.1
    refine sq_ (sq_ (seqG (x := 54) (y := 80) (gr_ (k := 0) (fun Q => by simp only [xV, l0]) rf_0_6) (gr_ (k := 0) (fun Q => by simp only [xV, l0]) rf_0_7) ?_))
    refine pd_copy hd he (by decide) (by omega) (by omega) (by omega) (by omega) (fun p p0 p1 => ?_) (fun M2 C F2 => ?_)
    · have := Z.1.1.2.2 p p0 (by omega)
      rw [this.2.2.2.2.2.2.2.2.2]
      exact (ok.2.1 p p0 (by omega)).1.2.2.2.2
    · rw [d5, d6] at C
      have Z2 := pdZ_copy Z ok.1 C
      refine sq_ (do3e (x0 := 54) (x1 := t) (x2 := a) (gr_ (k := 0) (fun Q => by simp only [xV, l0]) rf_0_6) (fun Q => by simp only [xV, l1]) (fun Q => by simp only [xV, l4]) ?_)
      rw [pd_turnAt, ht]
      have Z3 := pdZ_turn (a := (a : Int)) Z2 G0 (by omega) (by omega)
      have F3 : oFr 54 M1 (jwr (jwr M2 54 10 tn) 54 11 a) := fun x y z => by rw [jw0 (by omega), jw0 (by omega)]; exact F2 x y z
      generalize jwr (jwr M2 54 10 (tn : Int)) 54 11 (a : Int) = M3 at *
      have G := good_wb pl (a : Int) (j : Int)
      refine sq_ (do3e (x0 := 54) (x1 := tn) (x2 := L 2) (gr_ (k := 0) (fun Q => by simp only [xV, l0]) rf_0_6) (fun Q => by simp only [xV, l1, ht]) (fun Q => rfl) ?_)
      refine pd_runWaits hd G Z3 (by omega) (fun M4 F4 h12 => ?_)
      have eg : gW tn (wy a) (gBegin M (M 115 0) (-4) (wy j) (fun s => M 116 (3 * s + 2))) = gWk M t ((j * N + a : Nat) : Int) := by
        rw [eWk a (by omega), ht]; rfl
      rw [eg] at h12
      have F14 : oFr 54 M1 M4 := oFr_tr F3 F4
      have ZF : ∀ M5 : jMm, (∀ x y, 80 ≤ x → x < 106 → M5 x y = M4 x y) → pdZ 80 0 (tw M) (gBegin M (M 115 0) (-4) (wy j) (fun s => M 116 (3 * s + 2))) tn M5 := fun M5 e => pdZ_fr Z G0 (by omega) (fun x y x0 x1 => by rw [e x y x0 (by omega), F14 x y (by omega)])
      have r0 : ∀ y, M4 0 y = M1 0 y := fun y => F14 _ _ (by omega)
      refine if_pc (gWk M t ((j * N + a : Nat) : Int) < L 2) (fun T F => ?_) (fun c2 => ?_) (fun c2 => ?_)
      · refine (kr_pc (u := M4 54 12) (v := L 2) (gf_ (k := 54) (gr_ (k := 0) (fun Q => by simp only [xV, l0]) rf_0_6) rfl) (fun Q => rfl) T F).trans (pc_i ?_)
        show M4 54 12 < L 2 ↔ _
        omega
      · have e4 : M4 54 12 = gWk M t ((j * N + a : Nat) : Int) := by omega
        have up := sB_y (W := gWk M t) (B := B) (m := j * N + a) (by rw [← U.1]; exact c2)
        have q := fl_d (i := j) (a := a) (N := N) (by omega)
        refine sq_ (st_v (v := gWk M t ((j * N + a : Nat) : Int)) (gf_ (k := 54) (gr_ (k := 0) (fun Q => by simp only [xV, l0]) rf_0_6) e4) ?_)
        refine sq_ (pu (k := 0) (v := (j : Int)) (fun Q => by show Q (L 0) M4 = _; rw [l0]) (fun Q => by show Q (L 3) M4 = _; rw [l3]) ?_)
        refine pu (k := 0) (v := (a : Int)) (fun Q => by show Q (L 0) _ = _; rw [l0]) (fun Q => by show Q (L 4) _ = _; rw [l4]) ?_
        refine ⟨by rw [show jup L 2 (gWk M t ((j * N + a : Nat) : Int)) 4 = L 4 from rfl, l4]; exact ⟨by omega, by omega⟩, hN' (N - (a + 1)) _ _ (by omega) ⟨l0, l1, l3, sF_tr (sF_tr F (sF_o (.inl rfl) F14)) (sF_tr (sF_wr (by omega)) (sF_wr (by omega))), ZF _ (fun x y x0 x1 => by rw [jw0 (by omega), jw0 (by omega)]), a + 1, ?_, by omega, ⟨up.1.symm, fun _ => ?_⟩, rfl⟩⟩
        · show L 4 + 1 = ((a + 1 : Nat) : Int)
          rw [l4]; omega
        · rw [jw0 (by omega), jw1 ⟨rfl, rfl⟩, jw1 ⟨rfl, rfl⟩, show j * N + (a + 1) = j * N + a + 1 by omega, up.2.2, q.1, q.2]
          exact ⟨rfl, rfl⟩
      · have up := sB_n (W := gWk M t) (B := B) (m := j * N + a) (by rw [← U.1]; exact c2)
        refine sk_ ⟨by rw [l4]; exact ⟨by omega, by omega⟩, hN' (N - (a + 1)) _ _ (by omega) ⟨l0, l1, l3, sF_tr F (sF_o (.inl rfl) F14), ZF _ (fun _ _ _ _ => rfl), a + 1, ?_, by omega, ⟨?_, fun z => ?_⟩, rfl⟩⟩
        · show L 4 + 1 = ((a + 1 : Nat) : Int)
          rw [l4]; omega
        · show L 2 = sB (gWk M t) B (j * N + a + 1)
          rw [up.1]; exact U.1
        · show M4 0 10 = gBs (gWk M t) (j * N + a + 1) / (N : Int) ∧ M4 0 11 = gBs (gWk M t) (j * N + a + 1) % (N : Int)
          have z : L 2 < B := z
          rw [up.2 (by rw [← U.1]; exact z), r0, r0]; exact U.2 z
  · have sk := sB_skip (W := gWk M t) (B := B) (m := j * N + a) (N - a) (fun i i0 i1 => by
      obtain ⟨b, hb⟩ : ∃ b : Nat, i = j * N + b := ⟨i - j * N, by omega⟩
      subst hb
      rw [eWk b (by omega), ← U.1]
      have G := good_wb pl (b : Int) (j : Int)
      have mo := sum_mono (c := t) G tn (100 - tn) (by omega)
      rw [show tn + (100 - tn) = 100 by omega, run_pre (c := t) (c' := 0) (w := wy b) (w' := tw M) tn (fun i hi => ⟨by omega, by omega⟩), ← e12] at mo
      have : gWb M t j b = gSum ((100 : Nat) : Int) (gRun t (wy b) (gBegin M (M 115 0) (-4) (wy j) (fun s => M 116 (3 * s + 2))) 100) := rfl
      rw [this]
      by_cases z : (a : Int) < N
      · have : ¬ M1 80 12 < L 2 := fun y => c ⟨z, y⟩
        omega
      · omega)
    have ej : j * N + a + (N - a) = (j + 1) * N := by
      rw [Nat.add_mul]; omega
    rw [ej] at sk
    refine h L M1 l0 l1 l3 F ⟨?_, fun z => ?_⟩
    · rw [sk.1]; exact U.1
    · rw [sk.2 (by rw [← U.1]; exact z)]; exact U.2 z
theorem q_seek {t : Int} {tn : Nat} {M : jMm} {Q : Int → jMm → Prop} (pl : iPl M) (rl : pRel M M) (ht : t = tn) (t1 : 1 ≤ tn) (t99 : tn ≤ 99) (hq : ∀ M', sF M M' → M' 0 9 = t → M' 0 10 = gBk M t / gMn M → M' 0 11 = gBk M t % gMn M → M' 0 12 = gWb M t (gBk M t / gMn M) (gBk M t % gMn M) → Q 0 M') : f_X6_seekChange [0, t] M Q := by
  unfold f_X6_seekChange
  have k0 := pl.1.1.1
  have k3 := pl.1.1.2.1
  have mb := mn_b k0 k3
  change 1 ≤ gMn M ∧ gMn M ≤ 27 at mb
  have he : isDay 80 := .inr (.inr rfl)
  obtain ⟨N, hN⟩ : ∃ N : Nat, gMn M = N := ⟨(gMn M).toNat, (Int.toNat_of_nonneg (by omega)).symm⟩
  -- the least without a change, and where it is
  have m0 : ∃ i : Nat, i < N ∧ sB (gWy M) 1000000 N = gWy M i := by
    have r := bs_r (W := gWy M) N
    have c := sB_c (W := gWy M) (B := 1000000) N
    obtain ⟨i, hi⟩ : ∃ i : Nat, gBs (gWy M) N = i := ⟨(gBs (gWy M) N).toNat, (Int.toNat_of_nonneg (by omega)).symm⟩
    have wb := gW_b (c := 0) (good_wy pl (i : Int))
    change 0 ≤ gWy M i ∧ gWy M i ≤ 1400 at wb
    rw [hi] at c r
    refine ⟨i, by omega, ?_⟩
    omega
  have b0 : 0 ≤ sB (gWy M) 1000000 N ∧ sB (gWy M) 1000000 N ≤ 1400 := by
    obtain ⟨i, hi, e⟩ := m0
    rw [e]
    exact gW_b (c := 0) (good_wy pl (i : Int))
  have lt : sB (gWk M t) (sB (gWy M) 1000000 N + 1) (N * N) < sB (gWy M) 1000000 N + 1 := by
    obtain ⟨i, hi, e⟩ := m0
    have q := fl_d (i := i) (a := i) hi
    have le : i * N + i < N * N := by
      have : (i + 1) * N ≤ N * N := Nat.mul_le_mul_right N hi
      rw [Nat.add_mul] at this; omega
    have a := sB_le (W := gWk M t) (B := sB (gWy M) 1000000 N + 1) (N * N) (i * N + i) le
    have : gWk M t ((i * N + i : Nat) : Int) = gWy M i := by
      unfold gWk
      rw [hN, q.1, q.2, wb_same]
    omega
  refine mt_ (sq_ (st_c (sq_ (q_seek1 (t := t) pl rl hN rfl rfl rfl (fun L1 M1 l0 l1 l2 F1 => ?_)))))
  generalize sB (gWy M) 1000000 N = m at *
  refine sq_ ⟨by rw [l2]; exact ⟨by omega, by omega⟩, ?_⟩
  have l0' : jup L1 2 (L1 2 + 1) 0 = 0 := l0
  have l1' : jup L1 2 (L1 2 + 1) 1 = t := l1
  have l2' : jup L1 2 (L1 2 + 1) 2 = m + 1 := by show L1 2 + 1 = m + 1; rw [l2]
  generalize jup L1 2 (L1 2 + 1) = L2 at *
  refine sq_cut (fun L M' => L 0 = 0 ∧ L 1 = t ∧ sF M M' ∧ skU M t (m + 1) N (N * N) (L 2) M') (fun N1 hN1 => ?_) ?_
  · refine sq_ (st_c ?_)
    have e32 : jup L2 3 0 2 = m + 1 := l2'
    have u0 : skU M t (m + 1) N (0 * N) (jup L2 3 0 2) M1 := ⟨by rw [Nat.zero_mul, e32]; rfl, fun z => by rw [e32] at z; omega⟩
    refine up0 N (fun j L M2 => L 0 = 0 ∧ L 1 = t ∧ sF M M2 ∧ skU M t (m + 1) N (j * N) (L 2) M2) rfl (by omega) ⟨l0', l1', F1, u0⟩ ?_ ?_ (fun L M' _ z => hN1 L M' z)
    · rintro j L M2 Q1 ⟨l0, -, F, -⟩ hQ
      show (0 ≤ M2 (s_rf (L 0) 0) 3 ∧ M2 (s_rf (L 0) 0) 3 < s_slen 7) ∧ Q1 (s_sv 7 (M2 (s_rf (L 0) 0) 3)) M2
      rw [l0, rf_0_0, F _ _ (by omega) (by omega), rl.1, sv7.2.2.2.2]
      refine ⟨by omega, ?_⟩
      change Q1 (gMn M) M2
      rw [hN]; exact hQ
    · rintro j L M2 N2 hj hi ⟨l0, l1, F, U⟩ hN2
      refine sq_ (do3e (x0 := 80) (x1 := 1) (x2 := j) (gr_ (k := 0) (fun Q => by simp only [xV, l0]) rf_0_7) (gr_ (k := 0) (fun Q => by simp only [xV, l0]) rf_0_0) (fun Q => by simp only [xV, hi]) ?_)
      have rl1 : pRel M2 M := pRel_eq rl (fun a b h h0 => F _ _ (by omega) (by omega)) (fun _ _ => rfl) (fun _ => ⟨rfl, rfl, rfl⟩)
      refine pd_allDay he pl.1 rl1 (by omega) (fun M3 B h10 F3 => ?_)
      have G := good_wy pl (j : Int)
      have Z := pdB_Z B pl.1 (c := 0) (w := tw M) h10 (fun z => absurd z (by decide))
      refine sq_ (do3e (x0 := 80) (x1 := 0) (x2 := (tn : Int) - 1) (gr_ (k := 0) (fun Q => by simp only [xV, l0]) rf_0_7) (fun Q => rfl) (bs_ (fun Q => by simp only [xV, l1, ht]) (fun Q => rfl) ⟨by omega, by omega⟩) ?_)
      refine pd_run (a := 0) (b := tn) he G Z (by omega) (by omega) (fun M4 Z4 F4 => ?_)
      have F34 : oFr 80 M2 M4 := oFr_tr F3 F4
      exact q_seek2 (N1 := N2) pl rl hN ht t1 t99 hj l0 l1 hi (sF_tr F (sF_o (.inr rfl) F34)) (skU_fr U (fun b => F34 _ _ (by omega))) Z4 (fun L' M' a0 a1 a3 F' U' => hN2 L' M' a3 ⟨a0, a1, F', U'⟩)
  · rintro L M2 ⟨l0, l1, F, U⟩
    have e2 := U.1
    have fin := U.2 (by omega)
    have c := sB_c (W := gWk M t) (B := m + 1) (N * N)
    have eb : gBk M t = gBs (gWk M t) (N * N) := by
      rw [gBk_d, hN, ← Int.natCast_mul, Int.toNat_natCast]
    have ev : L 2 = gWk M t (gBk M t) := by
      rw [e2, eb]; omega
    refine sq_ (pu (k := 0) (v := L 2) (fun Q => by simp only [xV, l0]) (fun Q => rfl) (sq_ (pu (k := 0) (v := t) (fun Q => by simp only [xV, l0]) (fun Q => by simp only [xV, l1]) ?_)))
    refine hq _ (sF_tr F (sF_tr (sF_wr (by omega)) (sF_wr (by omega)))) (jw1 ⟨rfl, rfl⟩) ?_ ?_ ?_
    · rw [jw0 (by omega), jw0 (by omega), eb, hN]; exact fin.1
    · rw [jw0 (by omega), jw0 (by omega), eb, hN]; exact fin.2
    · rw [jw0 (by omega), jw1 ⟨rfl, rfl⟩, ev]; rfl
theorem y_best {t v : Int} : yPair Inv f_X6_best f_X7_best [t, v] := by
  intro M Q I hq
  obtain ⟨⟨pl, rl⟩, -⟩ := id I
  have r1 := rl.1
  unfold f_X6_best
  refine mt_ (sq_ (if_pc (bt 1 t 99 = 0 ∨ bt 0 v 2 = 0) (or_pc (nz_pc (bw (fun Q => rfl) (fun Q => rfl) (fun Q => rfl))) (fun _ => nz_pc (bw (fun Q => rfl) (fun Q => rfl) (fun Q => rfl)))) (fun c => ?_) (fun c => ?_)))
  · show f_X7_best [114, t, v] M _
    unfold f_X7_best
    exact mt_ (sq_ (if_pc (bt 1 t 99 = 0 ∨ bt 0 v 2 = 0) (or_pc (nz_pc (bm (fun Q => rfl) (fun Q => rfl) (fun Q => rfl))) (fun _ => nz_pc (bm (fun Q => rfl) (fun Q => rfl) (fun Q => rfl)))) (fun _ => hq _ _ I) (fun n => absurd c n)))
  have ca : ¬ bt 1 t 99 = 0 := fun z => c (.inl z)
  have cb : ¬ bt 0 v 2 = 0 := fun z => c (.inr z)
  obtain ⟨t1, t99⟩ := bt_0 ca
  obtain ⟨v0, v2⟩ := bt_0 cb
  refine sk_ (sq_ (if_pc (M 114 1 = 0) (kz_pc (gf_ (k := 1) (gr_ (k := 0) (fun Q => rfl) rf_0_0) r1)) (fun z => ?_) (fun z => ?_)))
  · show f_X7_best [114, t, v] M _
    unfold f_X7_best
    exact mt_ (sq_ (if_pc (bt 1 t 99 = 0 ∨ bt 0 v 2 = 0) (or_pc (nz_pc (bm (fun Q => rfl) (fun Q => rfl) (fun Q => rfl))) (fun _ => nz_pc (bm (fun Q => rfl) (fun Q => rfl) (fun Q => rfl)))) (fun n => absurd n c) (fun _ => sk_ (sq_ (if_pc (M 114 1 = 0) (kz_pc (fun Q => rfl)) (fun _ => hq _ _ I) (fun n => absurd z n))))))
  refine sk_ ?_
  refine sq_cut (fun L M1 => L 0 = 0 ∧ L 2 = v ∧ Inv M1 ∧ ansB M1 t v = ansB M t v ∧ (¬ M1 114 1 = 0) ∧ M1 0 10 = gBk M t / gMn M ∧ M1 0 11 = gBk M t % gMn M ∧ M1 0 12 = gWb M t (gBk M t / gMn M) (gBk M t % gMn M)) (fun N1 hN1 => ?_) ?_
  · refine if_pc (¬ M 0 9 = t) (kr_pc (fun Q => rfl) (fun Q => rfl)) (fun c9 => ?_) (fun c9 => ?_)
    · have e : ((t.toNat : Nat) : Int) = t := by omega
      refine do2 ?_
      show f_X6_seekChange [0, t] M _
      refine q_seek (tn := t.toNat) pl rl e.symm (by omega) (by omega) (fun M1 F h9 h10 h11 h12 => ?_)
      have n : ∀ a b, (a < 54 ∨ 106 ≤ a) → (a ≠ 0 ∨ b < 9 ∨ 12 < b) → M1 a b = M a b := F
      have pe : ∀ b, (b = 1 ∨ b = 3 ∨ b = 4 ∨ b = 5) → M1 114 b = M 114 b := fun b _ => n _ _ (by omega) (by omega)
      have ps : ∀ b, M1 115 b = M 115 b ∧ M1 116 b = M 116 b ∧ M1 117 b = M 117 b := fun b => ⟨n _ _ (by omega) (by omega), n _ _ (by omega) (by omega), n _ _ (by omega) (by omega)⟩
      have g := gBk_eq pe ps t
      have g2 := (gT_eq pe ps).2.2
      have ib : iBest M1 := fun _ => by
        rw [h9, h10, h11, h12, g.1, g.2, g2]
        exact ⟨t1, t99, rfl, rfl, rfl⟩
      refine hN1 _ M1 ⟨rfl, rfl, Inv_same I pe ps (fun a b ha h0 => n _ _ (by omega) (by omega)) (iKept_eq I.2.1 (n _ _ (by omega) (by omega)) (n _ _ (by omega) (by omega)) (fun a b _ _ => n _ _ (by omega) (by omega)) (fun b => n _ _ (by omega) (by omega))) (iTape_eq I.2.2.1 (n _ _ (by omega) (by omega)) (n _ _ (by omega) (by omega)) (fun b => n _ _ (by omega) (by omega)) (fun b => n _ _ (by omega) (by omega))) (fun s s0 s4 => iSheet_eq (I.2.2.2.1 s s0 s4) (fun b => n _ _ (by omega) (by omega)) (fun b => n _ _ (by omega) (by omega)) (n _ _ (by omega) (by omega)) (n _ _ (by omega) (by omega)) (fun i _ _ => n _ _ (by omega) (by omega))) (.inl ⟨n _ _ (by omega) (by omega), fun a b _ _ => n _ _ (by omega) (by omega)⟩) (.inr ib), ?_, ?_, h10, h11, h12⟩
      · unfold ansB
        rw [g.1, g.2, g2]
      · rw [pe 1 (by decide)]; exact z
    · have c9 : M 0 9 = t := Classical.not_not.mp c9
      obtain ⟨-, -, b1, b2, b3⟩ := I.2.2.2.2.2 (by omega)
      rw [c9] at b1 b2 b3
      exact sk_ (hN1 _ M ⟨rfl, rfl, I, rfl, z, b1, b2, b3⟩)
  · rintro L M1 ⟨l0, l2, I1, ea, nz, h10, h11, h12⟩
    have fin : ∀ u, u = ansB M t v → f_X7_best [114, t, v] M1 (fun b M2 => Q u b M2) := fun u hu => qa_best I1.1.1 ca cb nz (fun M2 F2 => by
      rw [ea, hu]; exact hq _ _ (Inv_fr I1 F2))
    unfold ansB at fin
    generalize f_X7_best = X7 at *
    refine sw_ (v := v) (fun Q => by simp only [xV, l2]) ?_
    by_cases c0 : v = 0
    · simp only [if_pos c0] at fin
      refine swY c0 (rt_ ?_)
      show X7 [114, t, v] M1 (fun b M2 => Q (M1 (L 0) 10) b M2)
      exact fin _ (by rw [l0]; exact h10)
    · simp only [if_neg c0] at fin
      refine swN c0 ?_
      by_cases d1 : v = 1
      · simp only [if_pos d1] at fin
        refine swY d1 (rt_ ?_)
        show X7 [114, t, v] M1 (fun b M2 => Q (M1 (L 0) 11) b M2)
        exact fin _ (by rw [l0]; exact h11)
      · simp only [if_neg d1] at fin
        refine swN d1 (swE (rt_ ?_))
        show X7 [114, t, v] M1 (fun b M2 => Q (M1 (L 0) 12) b M2)
        exact fin _ (by rw [l0]; exact h12)
