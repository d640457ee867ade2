/-! pairs: stood -/
def fMt (f : Int → Int) (g : jMm) (i : Int) : Nat → Int
  | 0 => 1
  | m + 1 => if fMt f g i m = 1 ∧ f (i + m) = gThr g (10 * m + 9) then 1 else 0
theorem fm_01 {f : Int → Int} {g : jMm} {i : Int} : ∀ m : Nat, fMt f g i m = 0 ∨ fMt f g i m = 1
  | 0 => .inr rfl
  | m + 1 => by unfold fMt; split <;> simp
theorem fm_z {f : Int → Int} {g : jMm} {i : Int} {m : Nat} (h : fMt f g i m = 0) : ∀ k : Nat, fMt f g i (m + k) = 0
  | 0 => h
  | k + 1 => by
    show (if fMt f g i (m + k) = 1 ∧ _ then (1 : Int) else 0) = 0
    exact if_neg (fun z => absurd ((fm_z h k).symm.trans z.1) (by decide))
theorem fm_congr {f f' : Int → Int} {g : jMm} {i : Int} : ∀ m : Nat, (∀ q : Int, 0 ≤ q → q < m → f (i + q) = f' (i + q)) → fMt f g i m = fMt f' g i m
  | 0, _ => rfl
  | m + 1, h => by
    unfold fMt
    rw [fm_congr m (fun q a b => h q a (by omega)), h m (by omega) (by omega)]
theorem q_isFilm {d s i n : Int} {M g : jMm} {T B : Int} {Q : Int → jMm → Prop} (hd : isDay d) (S : pdS d M g) (ok : gOK T B g) (s0 : 0 ≤ s) (s4 : s < 4) (z16 : M (106 + 2 * s) 3 ≤ 16) (i0 : 0 ≤ i) (n1 : 1 ≤ n) (n10 : n ≤ 10) (iz : i + n ≤ M (106 + 2 * s) 3) : f_X6_isFilm [d, 106 + 2 * s, i, n] M Q = Q (fMt (M (107 + 2 * s)) g i n.toNat) M := by
  refine dt_eq dt_f_X6_isFilm (fun Q hq => ?_) Q
  unfold f_X6_isFilm
  obtain ⟨h1, h2, h3⟩ := row_ s0 s4
  have en : ((n.toNat : Nat) : Int) = n := by omega
  have hol : (if ((i ≥ 0 ∧ i ≤ M (106 + 2 * s) 3) ∧ n ≥ 0) ∧ n ≤ M (106 + 2 * s) 3 - i then (1 : Int) else 0) = 1 := if_pos (by omega)
  refine mt_ (sq_ (if_pc ((1 : Int) = 0) (nz_pc (c3 (x0 := 106 + 2 * s) (x1 := i) (x2 := n) (fun Q => rfl) (fun Q => rfl) (fun Q => rfl) (fun Q => by rw [q_holds (by omega) z16, hol]))) (fun z => absurd z (by decide)) (fun _ => sk_ (sq_ (sq_ (st_c ?_))))))
  refine up0 n.toNat (fun j L M1 => M1 = M ∧ L 0 = d ∧ L 1 = 106 + 2 * s ∧ L 2 = i ∧ L 3 = n ∧ fMt (M (107 + 2 * s)) g i j = 1) rfl (by omega) ⟨rfl, rfl, rfl, rfl, rfl, rfl⟩ ?_ ?_ ?_
  · rintro j L M1 Q1 ⟨rfl, -, -, -, l3, -⟩ hQ
    show Q1 (L 3) M1
    rw [l3, ← en]; exact hQ
  · rintro j L M1 N1 hj hi ⟨rfl, l0, l1, l2, l3, hf⟩ hN
    have jn : (j : Int) < n := by omega
    have e1 : ∀ Q1 : Int → jMm → Prop, xAl (xGr (xV 1) 0) (xBin boAdd (xV 2) (xV 4)) L M1 Q1 = Q1 (M1 (107 + 2 * s) (i + j)) M1 := fun Q1 => by
      show xBin boAdd (xV 2) (xV 4) L M1 (fun x M2 => (0 ≤ x ∧ x < s_len (s_rf (L 1) 0)) ∧ Q1 (M2 (s_rf (L 1) 0) x) M2) = _
      rw [bn_add (x := i) (y := j) (fun Q => by show Q (L 2) M1 = _; rw [l2]) (fun Q => by show Q (L 4) M1 = _; rw [hi]) ⟨by omega, by omega⟩, l1, h2, h3]
      exact propext ⟨fun h => h.2, fun h => ⟨by omega, h⟩⟩
    have e2 : ∀ Q1 : Int → jMm → Prop, xCall f_X0_countThrough (xsC (xV 0) (xsC (xBin boAdd (xBin boMul (xC 10) (xV 4)) (xC 9)) xsN)) L M1 Q1 = Q1 (gThr g (10 * j + 9)) M1 := c2 (x0 := d) (x1 := 10 * j + 9) (fun Q => by show Q (L 0) M1 = _; rw [l0]) (bn_add (x := 10 * j) (y := 9) (bn_mul (x := 10) (y := j) (fun Q => rfl) (fun Q => by show Q (L 4) M1 = _; rw [hi]) ⟨by omega, by omega⟩) (fun Q => rfl) ⟨by omega, by omega⟩) (fun Q => pd_countThrough hd S ok)
    refine if_pc (M1 (107 + 2 * s) (i + j) ≠ gThr g (10 * j + 9)) (kr_pc (r := fun x y => x ≠ y) e1 e2) (fun c => ?_) (fun c => sk_ (hN L M1 hi ⟨rfl, l0, l1, l2, l3, ?_⟩))
    · have z : fMt (M1 (107 + 2 * s)) g i (j + 1) = 0 := if_neg (fun z => c z.2)
      have zz := fm_z z (n.toNat - (j + 1))
      rw [show j + 1 + (n.toNat - (j + 1)) = n.toNat by omega] at zz
      rw [zz] at hq
      exact ⟨.inl rfl, hq⟩
    · exact if_pos ⟨hf, Classical.not_not.mp c⟩
  · rintro L M1 - ⟨rfl, -, -, -, -, hf⟩
    rw [hf] at hq
    exact ⟨.inr rfl, hq⟩
theorem gOr_z {h : Int → Int} : ∀ m : Nat, b_or (gOr h m) 0 = gOr h m
  | 0 => by show b_or 0 0 = 0; decide
  | m + 1 => by
    show (Int32.ofInt (gOr h (m + 1)) ||| Int32.ofInt 0).toInt = _
    have e0 : Int32.ofInt 0 = 0 := rfl
    rw [e0, Int32.or_zero]
    show (Int32.ofInt (b_or (gOr h m) (if h m = 1 then b_shl 1 m else 0))).toInt = b_or (gOr h m) (if h m = 1 then b_shl 1 m else 0)
    rw [b_or_of]
    rfl
/-- the day with a stair that stands -/
def sdB (P : jMm) (q : Int) : jMm := gBegin P (P 115 0) (-4) (fun x => if x = q then 0 else P 116 (3 * x + 1)) (fun x => P 116 (3 * x + 2))
def sdW (P : jMm) (q x : Int) : Int := if x = q then 0 else tw P x
def gSd (P : jMm) (q : Int) : jMm := if q = 3 then gDay P else gRun (P 114 3) (sdW P q) (sdB P q) 100
theorem good_sd {P : jMm} (pl : iPl P) (q : Int) : gGd (sdW P q) (sdB P q) := good pl pl.2.2.2.1 (fun s s0 s3 => by
  unfold sdW
  split
  · decide
  · exact (iPl_G pl).2 s s0 s3) (fun s s0 s3 => by
  show 0 ≤ (if s = q then 0 else P 116 (3 * s + 1)) ∧ (if s = q then 0 else P 116 (3 * s + 1)) ≤ 2
  split
  · decide
  · exact pl.2.1 s s0 s3) (fun s s0 s1 => pl.2.2.1 s s0 s1)
theorem ok_sd {P : jMm} (pl : iPl P) (q : Int) : gOK 100 1200 (gSd P q) := by
  unfold gSd
  split
  · exact ok_day pl
  · exact ok_run (c := P 114 3) (good_sd pl q).2 (good_sd pl q).1 100 (by decide)
theorem sd_eq {M M' : jMm} (e : ∀ b, (b = 1 ∨ b = 3 ∨ b = 4 ∨ b = 5) → M' 114 b = M 114 b) (es : ∀ b, M' 115 b = M 115 b ∧ M' 116 b = M 116 b ∧ M' 117 b = M 117 b) (q : Int) : gSd M' q = gSd M q := by
  have g := gT_eq e es
  unfold gSd gDay sdB
  rw [g.1, e 3 (by decide), (es 0).1, begin_eq (e 1 (by decide)) (e 5 (by decide)) es (by funext x; rw [(es _).2.1]) (by funext x; exact (es _).2.1)]
  have w : sdW M' q = sdW M q := by funext x; unfold sdW; rw [g.2.1]
  rw [w, g.2.1]
def hSd (f : Int → Int) (P : jMm) (i n q : Int) : Int := fMt f (gSd P q) i n.toNat
def aSd (f : Int → Int) (P : jMm) (i n : Int) : Int := b_or (gOr (hSd f P i n) (P 114 1).toNat) (if hSd f P i n 3 = 1 then b_shl 1 3 else 0)
theorem mo_thr2 {M M' : jMm} {q t : Int} {Q : Int → jMm → Prop} (pl : iPl M) (S : moS M' (gEnd (gSd M q))) : f_X7_throughBy [114, t] M' Q = Q (gThr (gSd M q) t) M' := by
  have ok := ok_sd pl q
  have a5 : gEnd (gSd M q) 114 5 = gSd M q 114 5 := gEnd_lo (by decide)
  rw [mo_throughBy S (by rw [a5]; exact ok.1.1.2.2.1) (by rw [a5]; exact ok.1.1.2.2.2.1), gThr_end]
def aStep (f : Int → Int) (P : jMm) (i n : Int) (j : Nat) : Int := if (j : Int) ≤ P 114 1 then gOr (hSd f P i n) j else if j ≤ 3 then gOr (hSd f P i n) (P 114 1).toNat else aSd f P i n
theorem aStep_lt {f : Int → Int} {P : jMm} {i n : Int} {j : Nat} (h : (j : Int) < P 114 1) : aStep f P i n (j + 1) = b_or (aStep f P i n j) (if hSd f P i n j = 1 then b_shl 1 j else 0) := by
  have x1 : aStep f P i n (j + 1) = gOr (hSd f P i n) (j + 1) := if_pos (by omega)
  have x2 : aStep f P i n j = gOr (hSd f P i n) j := if_pos (by omega)
  rw [x1, x2]
  rfl
theorem aStep_3 {f : Int → Int} {P : jMm} {i n : Int} (k0 : 0 ≤ P 114 1) (k3 : P 114 1 ≤ 3) : aStep f P i n (3 + 1) = b_or (aStep f P i n 3) (if hSd f P i n ((3 : Nat) : Int) = 1 then b_shl 1 ((3 : Nat) : Int) else 0) := by
  have x1 : aStep f P i n (3 + 1) = aSd f P i n := (if_neg (by omega)).trans (if_neg (by decide))
  have x2 : aStep f P i n 3 = gOr (hSd f P i n) (P 114 1).toNat := by
    unfold aStep
    by_cases e : ((3 : Nat) : Int) ≤ P 114 1
    · rw [if_pos e, show (P 114 1).toNat = 3 by omega]
    · rw [if_neg e, if_pos (by decide)]
  rw [x1, x2]
  rfl
theorem qa_stood {s l i n : Int} {M : jMm} {Q : Int → jMm → Prop} (pl : iPl M) (hi : ir i) (z16 : ∀ s, 0 ≤ s → s < 4 → M 141 s ≤ 16) (k1 : ffz M s l i n < 0 → Q (ffz M s l i n) M) (k2 : ¬ ffz M s l i n < 0 → ∀ M', iFr M M' → Q (aSd (fun q => M 142 (16 * s + q)) M i n) M') : f_X7_stood [114, s, l, i, n] M Q := by
  unfold f_X7_stood
  refine mt_ (qm_ffz hi k1 (fun d => ?_))
  obtain ⟨-, ⟨s0, s4⟩, -, ⟨n1, n10⟩, -, i0, iz⟩ := ffz_ok d
  have z := z16 s s0 s4
  have k0 := pl.1.1.1
  have k3 := pl.1.1.2.1
  have en : ((n.toNat : Nat) : Int) = n := by omega
  refine sq_ (st_c (sq_ (sq_ (st_c ?_))))
  refine up0 4 (fun j L M1 => L 0 = 114 ∧ L 1 = s ∧ L 3 = i ∧ L 4 = n ∧ iFr M M1 ∧ L 6 = aStep (fun q => M 142 (16 * s + q)) M i n j) rfl (by decide) ⟨rfl, rfl, rfl, rfl, iFr_rfl, ?_⟩ (fun _ _ _ _ _ h => h) ?_ ?_
  · show 0 = aStep _ M i n 0
    unfold aStep
    rw [if_pos (by omega)]
    rfl
  · rintro j L M1 N1 hj hi7 ⟨l0, l1, l3, l4, F, l6⟩ hN
    have pe := iFr_eq F
    have pl1 := iPl_eq pl pe.1 pe.2
    have j0 : (0 : Int) ≤ j := by omega
    refine if_pc ((j : Int) = 3 ∨ (j : Int) < M 114 1) (or_pc (kr_pc (r := fun x y => x = y) (u := (j : Int)) (v := 3) (fun Q => by show Q (L 7) M1 = _; rw [hi7]) (fun Q => rfl)) (fun _ => kr_pc (r := fun x y => x < y) (u := (j : Int)) (v := M 114 1) (fun Q => by show Q (L 7) M1 = _; rw [hi7]) (fun Q => by show Q (M1 (L 0) 1) M1 = _; rw [l0, pe.1 1 (by decide)]))) (fun c => ?_) (fun c => sk_ (hN L M1 hi7 ⟨l0, l1, l3, l4, F, ?_⟩))
    · refine sq_ (do1 ?_)
      rw [l0]
      refine mo_asTold pl1 (fun M2 F2 hs h15 h16 h17 => ?_)
      refine sq_cut (fun L' M3 => L' = L ∧ (∀ a b, a ≠ 120 → a ≠ 121 → M3 a b = M2 a b) ∧ ∀ x, 0 ≤ x → x < 3 → M3 120 x = (if x = j then 0 else M 116 (3 * x + 1)) ∧ M3 121 x = sdW M j x) (fun N2 hN2 => ?_) ?_
      · have t0 : ∀ x, 0 ≤ x → x < 3 → M2 120 x = M 116 (3 * x + 1) ∧ M2 121 x = tw M x := fun x x0 x3 => ⟨by rw [(hs x x0 x3).1, (pe.2 _).2.1], by rw [(hs x x0 x3).2.1, (gT_eq pe.1 pe.2).2.1]⟩
        refine if_pc ((j : Int) < 3) (kr_pc (r := fun x y => x < y) (u := (j : Int)) (v := 3) (fun Q => by show Q (L 7) M2 = _; rw [hi7]) (fun Q => rfl)) (fun c3 => ?_) (fun c3 => sk_ (hN2 L M2 ⟨rfl, fun _ _ _ _ => rfl, fun x x0 x3 => ?_⟩))
        · have k := hN2 L (jwr (jwr M2 120 j 0) 121 j 0) ⟨rfl, fun a b h1 h2 => by rw [jw0 (.inl h2), jw0 (.inl h1)], fun x x0 x3 => ?_⟩
          · show (0 ≤ L 7 ∧ L 7 < s_len (s_rf (L 0) 12)) ∧ (0 ≤ L 7 ∧ L 7 < s_len (s_rf (L 0) 13)) ∧ N2 L (jwr (jwr M2 (s_rf (L 0) 12) (L 7) 0) (s_rf (L 0) 13) (L 7) 0)
            rw [l0, hi7, mrf12, mrf13, mln120, mln121]
            exact ⟨⟨j0, c3⟩, ⟨j0, c3⟩, k⟩
          · unfold sdW
            by_cases e : x = j
            · rw [if_pos e, if_pos e, jw0 (.inl (by decide)), jw1 ⟨rfl, e⟩, jw1 ⟨rfl, e⟩]; exact ⟨rfl, rfl⟩
            · rw [if_neg e, if_neg e, jw0 (.inl (by decide)), jw0 (.inr e), jw0 (.inr e), jw0 (.inl (by decide))]; exact t0 x x0 x3
        · unfold sdW
          rw [if_neg (by omega), if_neg (by omega)]; exact t0 x x0 x3
      · rintro L' M3 ⟨rfl, F3, hx⟩
        refine sq_ (do1 ?_)
        rw [l0]
        have F13 : iFr M M3 := fun a b n => by
          rw [F3 a b (by unfold scr at n; omega) (by unfold scr at n; omega), F2 a b (by unfold scr at n; omega) (by unfold scr at n; omega), F a b n]
        have fin : ∀ M4, moS M4 (gEnd (gSd M j)) → iFr M M4 → (tSeq (tSet 8 (xC 1)) (tSeq (tSeq (tSet 9 (xC 0)) (tWh (kR (fun x y => x < y) (xV 9) (xV 4)) (tSeq (tSet 8 (xTern (kAnd (kZ (fun x y => x ≠ y) (xV 8)) (kR (fun x y => x = y) (xAl (xGr (xV 0) 42) (xBin boAdd (xBin boAdd (xBin boMul (xC 16) (xV 1)) (xV 3)) (xV 9))) (xCall f_X7_throughBy (xsC (xV 0) (xsC (xBin boAdd (xBin boMul (xC 10) (xV 9)) (xC 9)) xsN))))) (xC 1) (xC 0))) (tInc 9 1)))) (tSet 6 (xBin boOr (xV 6) (xTern (kZ (fun x y => x ≠ y) (xV 8)) (xBin boShl (xC 1) (xV 7)) (xC 0)))))) L' M4 N1 Q := fun M4 S F4 => by
          refine sq_ (st_c (sq_ (sq_ (st_c ?_))))
          refine up0 n.toNat (fun m L M5 => M5 = M4 ∧ (∀ x, x ≠ 8 → x ≠ 9 → L x = L' x) ∧ L 8 = fMt (fun q => M 142 (16 * s + q)) (gSd M j) i m) rfl (by omega) ⟨rfl, fun x h8 h9 => by simp [jup, h8, h9], rfl⟩ ?_ ?_ ?_
          · rintro m L M5 Q1 ⟨rfl, le, -⟩ hQ
            show Q1 (L 4) M5
            rw [le 4 (by decide) (by decide), l4, ← en]; exact hQ
          · rintro m L M5 N3 hm hi9 ⟨rfl, le, l8⟩ hN3
            have mn : (m : Int) < n := by omega
            have a0 : L 0 = 114 := (le 0 (by decide) (by decide)).trans l0
            have a1 : L 1 = s := (le 1 (by decide) (by decide)).trans l1
            have a3 : L 3 = i := (le 3 (by decide) (by decide)).trans l3
            have ei : ∀ Q1 : Int → jMm → Prop, xAl (xGr (xV 0) 42) (xBin boAdd (xBin boAdd (xBin boMul (xC 16) (xV 1)) (xV 3)) (xV 9)) L M5 Q1 = Q1 (M 142 (16 * s + (i + m))) M5 := fun Q1 => by
              show xBin boAdd (xBin boAdd (xBin boMul (xC 16) (xV 1)) (xV 3)) (xV 9) L M5 (fun x M6 => (0 ≤ x ∧ x < s_len (s_rf (L 0) 42)) ∧ Q1 (M6 (s_rf (L 0) 42) x) M6) = _
              rw [bn_add (x := 16 * s + i) (y := m) (bn_add (x := 16 * s) (y := i) (bn_mul (x := 16) (y := s) (fun Q => rfl) (fun Q => by show Q (L 1) M5 = _; rw [a1]) ⟨by omega, by omega⟩) (fun Q => by show Q (L 3) M5 = _; rw [a3]) ⟨by omega, by omega⟩) (fun Q => by show Q (L 9) M5 = _; rw [hi9]) ⟨by omega, by omega⟩, a0, mrf42, mln142, F4 142 _ (by unfold scr; omega), show 16 * s + i + m = 16 * s + (i + m) by omega]
              exact propext ⟨fun h => h.2, fun h => ⟨by omega, h⟩⟩
            have ev : ∀ Q1 : Int → jMm → Prop, xCall f_X7_throughBy (xsC (xV 0) (xsC (xBin boAdd (xBin boMul (xC 10) (xV 9)) (xC 9)) xsN)) L M5 Q1 = Q1 (gThr (gSd M j) (10 * m + 9)) M5 := c2 (x0 := 114) (x1 := 10 * m + 9) (fun Q => by show Q (L 0) M5 = _; rw [a0]) (bn_add (x := 10 * m) (y := 9) (bn_mul (x := 10) (y := m) (fun Q => rfl) (fun Q => by show Q (L 9) M5 = _; rw [hi9]) ⟨by omega, by omega⟩) (fun Q => rfl) ⟨by omega, by omega⟩) (fun Q => mo_thr2 pl S)
            have f1 := fm_01 (f := fun q => M 142 (16 * s + q)) (g := gSd M j) (i := i) m
            have eq : (L 8 ≠ 0 ∧ M 142 (16 * s + (i + m)) = gThr (gSd M j) (10 * m + 9)) = (fMt (fun q => M 142 (16 * s + q)) (gSd M j) i m = 1 ∧ (fun q => M 142 (16 * s + q)) (i + m) = gThr (gSd M j) (10 * m + 9)) := propext ⟨fun h => ⟨by omega, h.2⟩, fun h => ⟨by omega, h.2⟩⟩
            refine set_tern (L 8 ≠ 0 ∧ M 142 (16 * s + (i + m)) = gThr (gSd M j) (10 * m + 9)) (an_pc (kz_pc (r := fun x y => x ≠ y) (fun Q => rfl)) (fun _ => kr_pc (r := fun x y => x = y) ei ev)) (hN3 _ _ hi9 ⟨rfl, fun x h8 h9 => by simp [jup, h8, h9]; exact le x h8 h9, ?_⟩)
            show (if L 8 ≠ 0 ∧ M 142 (16 * s + (i + m)) = gThr (gSd M j) (10 * m + 9) then (1 : Int) else 0) = fMt (fun q => M 142 (16 * s + q)) (gSd M j) i (m + 1)
            by_cases y : L 8 ≠ 0 ∧ M 142 (16 * s + (i + m)) = gThr (gSd M j) (10 * m + 9)
            · rw [if_pos y]; exact (if_pos (eq.mp y)).symm
            · rw [if_neg y]; exact (if_neg (fun z => y (eq.mpr z))).symm
          · rintro L M5 - ⟨rfl, le, l8⟩
            have hh : L 8 = hSd (fun q => M 142 (16 * s + q)) M i n j := l8
            have h01 := fm_01 (f := fun q => M 142 (16 * s + q)) (g := gSd M j) (i := i) n.toNat
            change hSd (fun q => M 142 (16 * s + q)) M i n j = 0 ∨ hSd (fun q => M 142 (16 * s + q)) M i n j = 1 at h01
            refine st_v (v := b_or (L' 6) (if hSd (fun q => M 142 (16 * s + q)) M i n j = 1 then b_shl 1 j else 0)) (fun Q => ?_) (hN _ _ ((le 7 (by decide) (by decide)).trans hi7) ⟨(le 0 (by decide) (by decide)).trans l0, (le 1 (by decide) (by decide)).trans l1, (le 3 (by decide) (by decide)).trans l3, (le 4 (by decide) (by decide)).trans l4, F4, ?_⟩)
            · rcases h01 with h | h
              · rw [h] at hh
                rw [h]
                simp [xBin, boOr, xTern, kZ, xV, xC, hh, le 6 (by decide) (by decide)]
              · rw [h] at hh
                rw [h]
                simp [xBin, boOr, boShl, xTern, kZ, xV, xC, hh, le 6 (by decide) (by decide), le 7 (by decide) (by decide), hi7]
            · show b_or (L' 6) _ = aStep _ M i n (j + 1)
              rw [l6]
              by_cases jk : (j : Int) < M 114 1
              · exact (aStep_lt jk).symm
              · have j3 : j = 3 := by omega
                subst j3
                exact (aStep_3 k0 k3).symm
        by_cases c3 : (j : Int) = 3
        · have j3 : j = 3 := by omega
          subst j3
          refine mo_would (c := M 114 3) (r := M 115 0) (wo := -4) (w := tw M) (ways := fun s => M 116 (3 * s + 1)) (paces := fun s => M 116 (3 * s + 2)) pl F13 ?_ ?_ ?_ (fun x x0 x3 => ⟨?_, ?_, ?_⟩) (iPl_G pl) pl.2.2.2.1 (fun s s0 s3 => pl.2.1 s s0 s3) (fun s s0 s1 => pl.2.2.1 s s0 s1) (fun M4 S F14 _ => fin M4 S F14)
          · rw [F3 _ _ (by decide) (by decide), h15, pe.1 3 (by decide)]
          · rw [F3 _ _ (by decide) (by decide), h16, (pe.2 0).1]
          · rw [F3 _ _ (by decide) (by decide), h17]
          · rw [(hx x x0 x3).1, if_neg (by omega)]
          · rw [(hx x x0 x3).2]; unfold sdW; rw [if_neg (by omega)]
          · rw [F3 _ _ (by decide) (by decide), (hs x x0 x3).2.2, (pe.2 _).2.1]
        · have G := good_sd pl (j : Int)
          have e : gSd M j = gRun (M 114 3) (sdW M j) (sdB M j) 100 := if_neg c3
          refine mo_would (c := M 114 3) (r := M 115 0) (wo := -4) (w := sdW M j) (ways := fun x => if x = j then 0 else M 116 (3 * x + 1)) (paces := fun s => M 116 (3 * s + 2)) pl F13 ?_ ?_ ?_ (fun x x0 x3 => ⟨(hx x x0 x3).1, (hx x x0 x3).2, ?_⟩) G pl.2.2.2.1 (fun x x0 x3 => ?_) (fun s s0 s1 => pl.2.2.1 s s0 s1) (fun M4 S F14 _ => fin M4 (by rw [e]; exact S) F14)
          · rw [F3 _ _ (by decide) (by decide), h15, pe.1 3 (by decide)]
          · rw [F3 _ _ (by decide) (by decide), h16, (pe.2 0).1]
          · rw [F3 _ _ (by decide) (by decide), h17]
          · rw [F3 _ _ (by decide) (by decide), (hs x x0 x3).2.2, (pe.2 _).2.1]
          · show 0 ≤ (if x = j then 0 else M 116 (3 * x + 1)) ∧ (if x = j then 0 else M 116 (3 * x + 1)) ≤ 2
            split
            · decide
            · exact pl.2.1 x x0 x3
    · show L 6 = aStep _ M i n (j + 1)
      rw [l6]
      unfold aStep
      by_cases e : (j : Int) ≤ M 114 1
      · have ej : (j : Int) = M 114 1 := by omega
        rw [if_pos e, if_neg (by omega), if_pos (by omega), show (M 114 1).toNat = j by omega]
      · rw [if_neg e, if_pos (by omega), if_neg (by omega), if_pos (by omega)]
  · rintro L M1 - ⟨l0, l1, l3, l4, F, l6⟩
    refine rt_ ?_
    show Q (L 6) M1
    have : aStep (fun q => M 142 (16 * s + q)) M i n 4 = aSd (fun q => M 142 (16 * s + q)) M i n := by
      unfold aStep
      rw [if_neg (by omega), if_neg (by decide)]
    rw [l6, this]
    exact k2 d M1 F
theorem y_stood {s l i n : Int} (hi : ir i) : yPair Inv f_X6_stood f_X7_stood [s, l, i, n] := by
  intro M Q I hq
  unfold f_X6_stood
  have hs := I.2.2.2.1
  obtain ⟨⟨pl, rl⟩, -⟩ := id I
  have k0 := pl.1.1.1
  have k3 := pl.1.1.2.1
  have r1 := rl.1
  have r16 : ∀ s, 0 ≤ s → s < 4 → M 141 s ≤ 16 := fun s s0 s4 => (hs s s0 s4).2.2.2.1
  refine mt_ (sq_ (q_ffz hs (sq_ (if_pc (ffz M s l i n < 0) (kz_pc (r := fun x y => x < y) (u := ffz M s l i n) (fun Q => rfl)) (fun d => rt_ ?_) (fun d => sk_ ?_)))))
  · show f_X7_stood [114, s, l, i, n] M (fun b M2 => Q (ffz M s l i n) b M2)
    exact qa_stood pl hi r16 (fun _ => hq _ _ I) (fun n => absurd d n)
  obtain ⟨-, ⟨s0, s4⟩, -, ⟨n1, n10⟩, el, i0, iz⟩ := ffz_ok d
  have z := r16 s s0 s4
  obtain ⟨g0, g1, g2, g3, g4⟩ := hs s s0 s4
  have hd : isDay 54 := .inr (.inl rfl)
  have hd28 : isDay 28 := .inl rfl
  have ek : (((M 114 1).toNat : Nat) : Int) = M 114 1 := by omega
  have pch := pl.2.2.2.2
  have fmE : ∀ (M1 : jMm) (g : jMm), (∀ b, M1 (107 + 2 * s) b = M (107 + 2 * s) b) → fMt (M1 (107 + 2 * s)) g i n.toNat = fMt (fun q => M 142 (16 * s + q)) g i n.toNat := fun M1 g h => fm_congr _ (fun q q0 q1 => by
    show M1 (107 + 2 * s) (i + q) = M 142 (16 * s + (i + q))
    rw [h, g4 (i + q) (by omega) (by omega)])
  refine sq_ (st_c (sq_ (sq_ (st_c ?_))))
  refine up0 (M 114 1).toNat (fun j L M1 => L 0 = 0 ∧ L 1 = s ∧ L 3 = i ∧ L 4 = n ∧ oFr 54 M M1 ∧ L 6 = gOr (hSd (fun q => M 142 (16 * s + q)) M i n) j) rfl (by omega) ⟨rfl, rfl, rfl, rfl, oFr_rfl, rfl⟩ ?_ ?_ ?_
  · rintro j L M1 Q1 ⟨l0, -, -, -, F, -⟩ hQ
    show Q1 (M1 (s_rf (L 0) 0) 3) M1
    rw [l0, rf_0_0, F _ _ (by omega), r1, ← ek]; exact hQ
  · rintro j L M1 N1 hj hi7 ⟨l0, l1, l3, l4, F, l6⟩ hN
    have j0 : (0 : Int) ≤ j := by omega
    have j1 : (j : Int) < M 114 1 := by omega
    have rl1 : pRel M1 M := pRel_eq rl (fun a b h h0 => F _ _ (by omega)) (fun _ _ => rfl) (fun _ => ⟨rfl, rfl, rfl⟩)
    refine sq_ (do3e (x0 := 54) (x1 := 1) (x2 := -1) (fun Q => by simp only [xGr, xV, l0, rf_0_6]) (fun Q => by simp only [xGr, xV, l0, rf_0_0]) (fun Q => rfl) ?_)
    refine pd_load (wo := -4) hd pl.1 rl1 (fun p p0 => by omega) (fun M2 B h10 h11 F2 => ?_)
    refine sq_ (seqG (x := 54) (y := j) (fun Q => by simp only [xGr, xV, l0, rf_0_6]) (fun Q => by simp only [xV, hi7]) ?_)
    refine pd_keepStanding hd pl.1 B j0 j1 (by omega) (by omega) (fun M3 B3 g10 g11 F3 => ?_)
    have G := good_sd pl (j : Int)
    have e : gSd M j = gRun (M 114 3) (sdW M j) (sdB M j) 100 := if_neg (by omega)
    have Z := pdB_Z B3 pl.1 (c := M 114 3) (w := sdW M j) (g10.trans h10) (fun c3 => ⟨g11.1, fun x x0 x1 => by
      rw [g11.2 x x0 (by omega), h11]
      unfold sdW tw
      by_cases ex : x = j
      · rw [if_pos ex, if_pos ex]
      · rw [if_neg ex, if_neg ex, if_pos c3]⟩)
    refine sq_ (do3e (x0 := 54) (x1 := 0) (x2 := 99) (fun Q => by simp only [xGr, xV, l0, rf_0_6]) (fun Q => rfl) (fun Q => rfl) ?_)
    refine pd_run (a := 0) (b := 100) hd G Z (by decide) (by decide) (fun M4 Z4 F4 => ?_)
    have F14 : oFr 54 M M4 := oFr_tr F (oFr_tr F2 (oFr_tr F3 F4))
    have S : pdS 54 M4 (gSd M j) := by rw [e]; exact Z4.1
    have e3 : M4 (106 + 2 * s) 3 = M 141 s := by rw [F14 _ _ (by omega), g1]
    have fe : fMt (M4 (107 + 2 * s)) (gSd M j) i n.toNat = hSd (fun q => M 142 (16 * s + q)) M i n j := fmE M4 _ (fun b => F14 _ _ (by omega))
    have h01 := fm_01 (f := fun q => M 142 (16 * s + q)) (g := gSd M j) (i := i) n.toNat
    change hSd (fun q => M 142 (16 * s + q)) M i n j = 0 ∨ hSd (fun q => M 142 (16 * s + q)) M i n j = 1 at h01
    have call : ∀ Q1 : Int → jMm → Prop, xCall f_X6_isFilm (xsC (xGr (xV 0) 6) (xsC (xAr (xGr (xV 0) 4) (xV 1)) (xsC (xV 3) (xsC (xV 4) xsN)))) L M4 Q1 = Q1 (hSd (fun q => M 142 (16 * s + q)) M i n j) M4 := fun Q1 => by
      show xGr (xV 0) 6 L M4 (fun v0 M5 => xAr (xGr (xV 0) 4) (xV 1) L M5 (fun v1 M6 => f_X6_isFilm [v0, v1, L 3, L 4] M6 Q1)) = _
      have e0 : ∀ Q2 : Int → jMm → Prop, xGr (xV 0) 6 L M4 Q2 = Q2 54 M4 := fun Q2 => by simp only [xGr, xV, l0, rf_0_6]
      rw [e0, rowE l0 l1 s0 s4, l3, l4, q_isFilm hd S (ok_sd pl j) s0 s4 (by omega) i0 n1 n10 (by omega), fe]
    refine if_pc (hSd (fun q => M 142 (16 * s + q)) M i n j ≠ 0) (kz_pc (r := fun x y => x ≠ y) call) (fun c => ?_) (fun c => sk_ (hN L M4 hi7 ⟨l0, l1, l3, l4, F14, ?_⟩))
    · refine st_v (v := b_or (L 6) (b_shl 1 j)) (fun Q => ?_) (hN _ M4 hi7 ⟨l0, l1, l3, l4, F14, ?_⟩)
      · show Q (b_or (L 6) (b_shl 1 (L 7))) M4 = _
        rw [hi7]
      · show b_or (L 6) (b_shl 1 j) = b_or (gOr (hSd (fun q => M 142 (16 * s + q)) M i n) j) (if hSd (fun q => M 142 (16 * s + q)) M i n j = 1 then b_shl 1 j else 0)
        rw [l6, if_pos (by omega)]
    · show L 6 = b_or (gOr (hSd (fun q => M 142 (16 * s + q)) M i n) j) (if hSd (fun q => M 142 (16 * s + q)) M i n j = 1 then b_shl 1 j else 0)
      rw [if_neg (by omega), gOr_z, l6]
  · rintro L M1 - ⟨l0, l1, l3, l4, F, l6⟩
    have I1 := Inv_fr I (iFr_o (.inl rfl) F)
    have pe := iFr_eq (iFr_o (.inl rfl) F)
    have gt1 := gT_eq pe.1 pe.2
    have gd1 : gDay M1 = gDay M := by unfold gDay; rw [gt1.1, gt1.2.1, pe.1 3 (by decide)]
    refine rt_ ?_
    show xTern (kZ (fun x y => x ≠ y) (xCall f_X6_isFilm (xsC (xCall f_X6_toldDay (xsC (xV 0) xsN)) (xsC (xAr (xGr (xV 0) 4) (xV 1)) (xsC (xV 3) (xsC (xV 4) xsN)))))) (xBin boOr (xV 6) (xC 8)) (xV 6) L M1 (fun v M2 => f_X7_stood [114, s, l, i, n] M2 (fun b M3 => Q v b M3))
    show f_X6_toldDay [L 0] M1 (fun v0 M2 => xAr (xGr (xV 0) 4) (xV 1) L M2 (fun v1 M3 => f_X6_isFilm [v0, v1, L 3, L 4] M3 (fun x M4 => (x ≠ 0 → f_X7_stood [114, s, l, i, n] M4 (fun b M5 => Q (b_or (L 6) 8) b M5)) ∧ (¬ x ≠ 0 → f_X7_stood [114, s, l, i, n] M4 (fun b M5 => Q (L 6) b M5)))))
    rw [l0]
    refine pd_toldDay I1 (fun M2 I2 Z2 F2 => ?_)
    have S2 : pdS 28 M2 (gDay M) := by rw [← gd1]; exact Z2.1
    have lo : ∀ a b, 106 ≤ a → M2 a b = M a b := fun a b h => by rw [F2 a b (by omega) (by omega), F a b (by omega)]
    rw [rowE l0 l1 s0 s4, l3, l4, q_isFilm hd28 S2 (ok_day pl) s0 s4 (by rw [lo _ _ (by omega)]; omega) i0 n1 n10 (by rw [lo _ _ (by omega)]; omega)]
    have e3 : fMt (M2 (107 + 2 * s)) (gDay M) i n.toNat = hSd (fun q => M 142 (16 * s + q)) M i n 3 := fmE M2 _ (fun b => lo _ _ (by omega))
    rw [e3]
    have h01 := fm_01 (f := fun q => M 142 (16 * s + q)) (g := gDay M) (i := i) n.toNat
    change hSd (fun q => M 142 (16 * s + q)) M i n 3 = 0 ∨ hSd (fun q => M 142 (16 * s + q)) M i n 3 = 1 at h01
    have ge : ∀ b, (b = 1 ∨ b = 3 ∨ b = 4 ∨ b = 5) → M2 114 b = M 114 b := fun b _ => lo _ _ (by decide)
    have gs : ∀ b, M2 115 b = M 115 b ∧ M2 116 b = M 116 b ∧ M2 117 b = M 117 b := fun b => ⟨lo _ _ (by decide), lo _ _ (by decide), lo _ _ (by decide)⟩
    have ffe : ffz M2 s l i n = ffz M s l i n := ffz_eq (lo _ _ (by decide)) (lo _ _ (by decide))
    have he : ∀ q, hSd (fun q => M2 142 (16 * s + q)) M2 i n q = hSd (fun q => M 142 (16 * s + q)) M i n q := fun q => by
      unfold hSd
      rw [sd_eq ge gs]
      exact fm_congr _ (fun q _ _ => lo _ _ (by decide))
    have ae : aSd (fun q => M2 142 (16 * s + q)) M2 i n = aSd (fun q => M 142 (16 * s + q)) M i n := by
      have hf : hSd (fun q => M2 142 (16 * s + q)) M2 i n = hSd (fun q => M 142 (16 * s + q)) M i n := funext he
      unfold aSd
      rw [hf, ge 1 (by decide)]
    have fin : ∀ v, v = aSd (fun q => M 142 (16 * s + q)) M i n → f_X7_stood [114, s, l, i, n] M2 (fun b M5 => Q v b M5) := fun v hv => qa_stood I2.1.1 hi (fun q q0 q4 => by rw [lo _ _ (by decide)]; exact r16 q q0 q4) (fun n => absurd n (by rw [ffe]; exact d)) (fun _ M5 F5 => by
      rw [ae, hv]; exact hq _ _ (Inv_fr I2 F5))
    have b8 : b_shl 1 3 = 8 := by decide
    rw [l6]
    refine ⟨fun c => fin _ ?_, fun c => fin _ ?_⟩
    · unfold aSd
      rw [if_pos (by omega), b8]
    · unfold aSd
      rw [if_neg (by omega), gOr_z]
