/-! pairs: best; the model, and the program's day from a change on -/
def gWk (P : jMm) (t k : Int) : Int := gWb P t (k / gMn P) (k % gMn P)
theorem gBk_d {P : jMm} {t : Int} : gBk P t = gBs (gWk P t) (gMn P * gMn P).toNat := rfl
theorem good_wb {P : jMm} (pl : iPl P) (a b : Int) : gGd (wy a) (gBegin P (P 115 0) (-4) (wy b) (fun s => P 116 (3 * s + 2))) := good pl pl.2.2.2.1 (fun _ _ _ => wy_r) (fun _ _ _ => wy_r) (fun s s0 s1 => pl.2.2.1 s s0 s1)
theorem jb1 {L : jLo} {x a b c d : Int} : jup (jup (jup (jup L 7 a) 8 b) 4 c) 5 d 4 = c := rfl
theorem jb2 {L : jLo} {x a b c d : Int} : jup (jup (jup (jup L 7 a) 8 b) 4 c) 5 d 5 = d := rfl
theorem bd_ {a b : jEx} {x y : Int} {L : jLo} {M : jMm} (ha : ∀ Q : Int → jMm → Prop, a L M Q = Q x M) (hb : ∀ Q : Int → jMm → Prop, b L M Q = Q y M) (h : 0 ≤ x ∧ 0 < y) (Q : Int → jMm → Prop) : xBin boDiv a b L M Q = Q (x / y) M := by
  show a L M (fun x M => b L M fun y M => (0 ≤ x ∧ 0 < y) ∧ Q (x / y) M) = _
  rw [ha, hb]; exact andT h
theorem br_ {a b : jEx} {x y : Int} {L : jLo} {M : jMm} (ha : ∀ Q : Int → jMm → Prop, a L M Q = Q x M) (hb : ∀ Q : Int → jMm → Prop, b L M Q = Q y M) (h : 0 ≤ x ∧ 0 < y) (Q : Int → jMm → Prop) : xBin boRem a b L M Q = Q (x % y) M := by
  show a L M (fun x M => b L M fun y M => (0 ≤ x ∧ 0 < y) ∧ Q (x % y) M) = _
  rw [ha, hb]; exact andT h
def ansB (P : jMm) (t v : Int) : Int := if v = 0 then gBk P t / gMn P else if v = 1 then gBk P t % gMn P else gWb P t (gBk P t / gMn P) (gBk P t % gMn P)
theorem qa_best {t v : Int} {M : jMm} {Q : Int → jMm → Prop} (pl : iPl M) (c1' : ¬ bt 1 t 99 = 0) (c2' : ¬ bt 0 v 2 = 0) (k1 : ¬ M 114 1 = 0) (hq : ∀ M', iFr M M' → Q (ansB M t v) M') : f_X7_best [114, t, v] M Q := by
  unfold f_X7_best
  have k0 := pl.1.1.1
  have k3 := pl.1.1.2.1
  have mb := mn_b k0 k3
  change 1 ≤ gMn M ∧ gMn M ≤ 27 at mb
  have nn : gMn M ≤ gMn M * gMn M ∧ gMn M * gMn M ≤ 729 := by
    have a : 1 * gMn M ≤ gMn M * gMn M := Int.mul_le_mul_of_nonneg_right mb.1 (by omega)
    have b : gMn M * gMn M ≤ 27 * 27 := Int.mul_le_mul mb.2 mb.2 (by omega) (by omega)
    omega
  unfold ansB at hq
  rw [gBk_d] at hq
  have hWk : ∀ k, gWb M t (k / gMn M) (k % gMn M) = gWk M t k := fun _ => rfl
  rw [hWk] at hq
  generalize hn : gMn M = n at *
  have em : (((n * n).toNat : Nat) : Int) = n * n := Int.toNat_of_nonneg (by omega)
  refine mt_ (sq_ (if_pc (bt 1 t 99 = 0 ∨ bt 0 v 2 = 0) (or_pc (nz_pc (bm (fun Q => rfl) (fun Q => rfl) (fun Q => rfl))) (fun _ => nz_pc (bm (fun Q => rfl) (fun Q => rfl) (fun Q => rfl)))) (fun z => (z.elim c1' c2').elim) (fun _ => ?_)))
  refine sk_ (sq_ (if_pc (M 114 1 = 0) (kz_pc (fun Q => rfl)) (fun z => absurd z k1) (fun _ => ?_)))
  refine sk_ (sq_ (st_v (v := n) (fun Q => ?_) (sq_ (st_c (sq_ (st_c (sq_ (sq_ (st_c ?_)))))))))
  · show f_X7_waysMany [114] M Q = _
    rw [q_many k0 k3, hn]
  refine up0 (n * n).toNat (fun j L M1 => L 0 = 114 ∧ L 1 = t ∧ L 2 = v ∧ L 3 = n ∧ iFr M M1 ∧ L 4 = gBs (gWk M t) j ∧ (0 < j → L 5 = gWk M t (gBs (gWk M t) j))) rfl (by rw [em]; omega) ⟨rfl, rfl, rfl, rfl, iFr_rfl, rfl, fun z => absurd z (by decide)⟩ ?_ ?_ ?_
  · rintro j L M1 Q1 ⟨l0, l1, l2, l3, -⟩ hQ
    show ir (L 3 * L 3) ∧ Q1 (L 3 * L 3) M1
    rw [l3, ← em]
    exact ⟨⟨by omega, by omega⟩, hQ⟩
  · rintro j L M1 N1 hj hi ⟨l0, l1, l2, l3, F, l4, l5⟩ hN
    have jn : (j : Int) < n * n := by omega
    have d0 : 0 ≤ (j : Int) / n := Int.ediv_nonneg (by omega) (by omega)
    have m0 : 0 ≤ (j : Int) % n := Int.emod_nonneg _ (by omega)
    have pe := iFr_eq F
    have pl1 := iPl_eq pl pe.1 pe.2
    refine sq_ (sq_ (do1 ?_))
    rw [l0]
    refine mo_asTold pl1 (fun M2 F2 hs h15 h16 h17 => ?_)
    refine sq_ (pu (k := 114) (v := t) (fun Q => by simp only [xV, l0]) (fun Q => by simp only [xV, l1]) ?_)
    refine sq_ (seqG (x := j / n) (y := 120) (bd_ (fun Q => by simp only [xV, hi]) (fun Q => by simp only [xV, l3]) ⟨by omega, by omega⟩) (fun Q => by simp only [xGr, xV, l0, mrf12]) ?_)
    refine mo_lays mln120 d0 (fun M3 F3 hw => ?_)
    refine sq_ (seqG (x := j % n) (y := 121) (br_ (fun Q => by simp only [xV, hi]) (fun Q => by simp only [xV, l3]) ⟨by omega, by omega⟩) (fun Q => by simp only [xGr, xV, l0, mrf13]) ?_)
    refine mo_lays mln121 m0 (fun M4 F4 hw4 => ?_)
    refine sq_ (do1 ?_)
    rw [l0]
    have F14 : iFr M M4 := fun a b z => by
      rw [F4 a b (by unfold scr at z; omega), F3 a b (by unfold scr at z; omega), jw0 (by unfold scr at z; omega), F2 a b (by unfold scr at z; omega) (by unfold scr at z; omega), F a b z]
    have G := good_wb pl ((j : Int) % n) ((j : Int) / n)
    have eW : gW t (wy ((j : Int) % n)) (gBegin M (M 115 0) (-4) (wy ((j : Int) / n)) (fun s => M 116 (3 * s + 2))) = gWk M t j := by
      unfold gWk gWb
      rw [hn]
    refine mo_would (c := t) (r := M 115 0) (wo := -4) (w := wy ((j : Int) % n)) (ways := wy ((j : Int) / n)) (paces := fun s => M 116 (3 * s + 2)) pl F14 ?_ ?_ ?_ (fun s s0 s3 => ⟨?_, hw4 s s0 s3, ?_⟩) G pl.2.2.2.1 (fun _ _ _ => wy_r) (fun s s0 s1 => pl.2.2.1 s s0 s1) (fun M5 S F15 _ => ?_)
    · rw [F4 _ _ (by decide), F3 _ _ (by decide), jw1 ⟨rfl, rfl⟩]
    · rw [F4 _ _ (by decide), F3 _ _ (by decide), jw0 (by decide), h16, (pe.2 0).1]
    · rw [F4 _ _ (by decide), F3 _ _ (by decide), jw0 (by decide), h17]
    · rw [F4 _ _ (by decide)]; exact hw s s0 s3
    · rw [F4 _ _ (by decide), F3 _ _ (by decide), jw0 (.inl (by decide)), (hs s s0 s3).2.2, (pe.2 _).2.1]
    · have sw : ∀ Q : Int → jMm → Prop, f_X7_waits [114] M5 Q = Q (gWk M t j) M5 := fun Q => by rw [mo_sumw G S, eW]
      clear eW S G
      generalize gWk M t = W at *
      refine sq_ (set1 (x := 114) (v := W j) l0 sw ?_)
      refine sq_ (set_tern (gBs W j < 0 ∨ W j < W (gBs W j)) (fun T F => ?_) ?_)
      · rcases bs_r (W := W) j with ⟨z1, z2⟩ | ⟨z1, z2, z3⟩
        · have : gBs W j < 0 := by omega
          apply propext
          simp [kOr, kR, kZ, xV, jup, l4, this]
        · have := l5 z1
          apply propext
          have z4 : ¬ gBs W j < 0 := by omega
          simp [-Int.not_lt, kOr, kR, kZ, xV, jup, l4, this, z4]
      · by_cases y : gBs W j < 0 ∨ W j < W (gBs W j)
        · have b1 : gBs W (j + 1) = j := gBs_y y
          rw [if_pos y]
          refine sq_ (st_v (v := (j : Int)) (fun Q => by simp [xTern, kZ, xV, jup, hi]) (st_v (v := W j) (fun Q => by simp [xTern, kZ, xV, jup]) (hN _ _ hi ⟨l0, l1, l2, l3, F15, (show _ = _ from rfl).trans b1.symm, fun _ => (show _ = W j from rfl).trans (by rw [b1])⟩)))
        · have b1 : gBs W (j + 1) = gBs W j := gBs_n y
          rw [if_neg y]
          have j0 : 0 < j := by
            rcases bs_r (W := W) j with ⟨z1, z2⟩ | ⟨z1, z2, z3⟩
            · exact absurd (.inl (by omega)) y
            · exact z1
          refine sq_ (st_v (v := gBs W j) (fun Q => by simp [xTern, kZ, xV, jup, l4]) (st_v (v := W (gBs W j)) (fun Q => by simp [xTern, kZ, xV, jup, l5 j0]) (hN _ _ hi ⟨l0, l1, l2, l3, F15, (show _ = _ from rfl).trans b1.symm, fun _ => (show _ = W (gBs W j) from rfl).trans (by rw [b1])⟩)))
  · rintro L M1 - ⟨l0, l1, l2, l3, F, l4, l5⟩
    have q := hq M1 F
    have j0 : 0 < (n * n).toNat := by omega
    have l5 := l5 j0
    have b := bs_r (W := gWk M t) (n * n).toNat
    refine rt_ ?_
    generalize gBs (gWk M t) (n * n).toNat = g at *
    generalize gWk M t g = wg at *
    refine tern_r (P := v = 0) (u := g / n) (v := if v = 1 then g % n else wg) (kz_pc (fun Q => by simp only [xV, l2])) (fun _ => bd_ (fun Q => by simp only [xV, l4]) (fun Q => by simp only [xV, l3]) ⟨by omega, by omega⟩) (fun _ => tern_ (P := v = 1) (kr_pc (fun Q => by simp only [xV, l2]) (fun Q => rfl)) (fun _ => br_ (fun Q => by simp only [xV, l4]) (fun Q => by simp only [xV, l3]) ⟨by omega, by omega⟩) (fun _ Q => by simp only [xV, l5])) q
/-- a day that has been run up to a tick turns there -/
theorem pdZ_turn {d a : Int} {t : Nat} {w' : Int → Int} {g : jMm} {M : jMm} (Z : pdZ d 0 w' g t M) (G : gGd w' g) (a0 : 0 ≤ a) (ht : t ≤ 100) : pdZ d t (wy a) g t (jwr (jwr M d 10 t) d 11 a) := by
  have er : gRun (t : Int) (wy a) g t = gRun 0 w' g t := run_pre t (fun i hi => ⟨by omega, by omega⟩)
  have ok := ok_run (c := 0) G.2 G.1 t ht
  unfold pdZ
  rw [er]
  obtain ⟨⟨⟨⟨d1, d2, d3, d4, d5, d6, d7, d8, d9, d10⟩, sf, sp⟩, X⟩, Li, h12, h10, -⟩ := Z
  have hk := ok.1.1.2.1
  have hn := ok.1.1.2.2.2.1
  have e : ∀ x y, (x ≠ d ∨ (y ≠ 10 ∧ y ≠ 11)) → jwr (jwr M d 10 t) d 11 a x y = M x y := fun x y h => by rw [jw0 (by omega), jw0 (by omega)]
  have e10 : jwr (jwr M d 10 t) d 11 a d 10 = t := by rw [jw0 (by omega), jw1 ⟨rfl, rfl⟩]
  have e11 : jwr (jwr M d 10 t) d 11 a d 11 = a := jw1 ⟨rfl, rfl⟩
  generalize jwr (jwr M d 10 t) d 11 a = M' at *
  have row : ∀ x, x ≠ d → M' x = M x := fun x h => funext fun y => e x y (.inl h)
  refine ⟨⟨⟨?_, fun s s0 s1 => ?_, fun p p0 p1 => ?_⟩, fun s s0 s1 => ?_⟩, ?_, ?_, e10, fun _ => ⟨by rw [e11]; exact a0, fun s _ _ => by rw [e11]⟩⟩
  · unfold pdD
    rw [e d 5 (.inr (by decide)), e d 6 (.inr (by decide)), e d 9 (.inr (by decide)), e d 13 (.inr (by decide)), e d 14 (.inr (by decide)), e d 15 (.inr (by decide)), row (d + 3) (by omega), row (d + 5) (by omega)]
    exact ⟨d1, d2, d3, d4, d5, d6, d7, d8, d9, d10⟩
  · have := sf s s0 s1
    unfold pdF at this ⊢
    rw [row (d + 20 + 2 * s) (by omega)]; exact this
  · have := sp p p0 p1
    unfold pdP at this ⊢
    rw [row (d + 6 + p) (by omega)]; exact this
  · have := X s s0 s1
    unfold pdX at this ⊢
    rw [row (d + 21 + 2 * s) (by omega)]; exact this
  · unfold pdL at Li ⊢
    rw [row (d + 4) (by omega), e d 7 (.inr (by decide)), e d 8 (.inr (by decide))]; exact Li
  · rw [e d 12 (.inr (by decide))]; exact h12
