/-! pairs: film -/
theorem cst_all : ∀ v : Fin 15, u_i2b (v.val : Int) = v.val ∧ u_i2s (v.val : Int) = v.val := by decide +kernel
theorem cst_id {l v : Int} (v0 : 0 ≤ v) (v14 : v ≤ 14) : cst l v = v := by
  have := cst_all ⟨v.toNat, by omega⟩
  have e : ((v.toNat : Nat) : Int) = v := by omega
  dsimp only at this
  rw [e] at this
  unfold cst
  split
  · exact this.1
  · split
    · exact this.2
    · rfl
theorem moS_lo {M M' g : jMm} (S : moS M g) (h : ∀ a b, a ≤ 135 → M' a b = M a b) : moS M' g := by
  have e : ∀ a, a ≤ 135 → M' a = M a := fun a ha => funext fun b => h a b ha
  unfold moS moP at S ⊢
  rw [e 114 (by decide), e 115 (by decide), e 116 (by decide), e 117 (by decide), e 122 (by decide), e 123 (by decide), e 124 (by decide), e 125 (by decide), e 126 (by decide), e 127 (by decide), e 128 (by decide), e 129 (by decide), e 130 (by decide), e 131 (by decide), e 132 (by decide), e 133 (by decide), e 134 (by decide), e 135 (by decide)]
  exact S
theorem bn_add {a b : jEx} {x y : Int} {L : jLo} {M : jMm} (ha : ∀ Q : Int → jMm → Prop, a L M Q = Q x M) (hb : ∀ Q : Int → jMm → Prop, b L M Q = Q y M) (hi : ir (x + y)) (Q : Int → jMm → Prop) : xBin boAdd a b L M Q = Q (x + y) M := by
  show a L M (fun x M => b L M (fun y M => ir (x + y) ∧ Q (x + y) M)) = _
  rw [ha, hb]
  exact propext ⟨fun h => h.2, fun h => ⟨hi, h⟩⟩
theorem bn_mul {a b : jEx} {x y : Int} {L : jLo} {M : jMm} (ha : ∀ Q : Int → jMm → Prop, a L M Q = Q x M) (hb : ∀ Q : Int → jMm → Prop, b L M Q = Q y M) (hi : ir (x * y)) (Q : Int → jMm → Prop) : xBin boMul a b L M Q = Q (x * y) M := by
  show a L M (fun x M => b L M (fun y M => ir (x * y) ∧ Q (x * y) M)) = _
  rw [ha, hb]
  exact propext ⟨fun h => h.2, fun h => ⟨hi, h⟩⟩
theorem thr_b {g : jMm} {T B t : Int} (ok : gOK T B g) : 0 ≤ gThr g t ∧ gThr g t ≤ 14 := thr_le ok.1.1.2.2.1 ok.1.1.2.2.2.1 (gN g) (Nat.le_refl _)
theorem mo_thr {M M' : jMm} {t : Int} {Q : Int → jMm → Prop} (pl : iPl M) (S : moS M' (gEnd (gDay M))) : f_X7_throughBy [114, t] M' Q = Q (gThr (gDay M) t) M' := by
  have ok := ok_day pl
  have a5 : gEnd (gDay M) 114 5 = gDay M 114 5 := gEnd_lo (by decide)
  rw [mo_throughBy S (by rw [a5]; exact ok.1.1.2.2.1) (by rw [a5]; exact ok.1.1.2.2.2.1), gThr_end]
/-- whether a sheet takes a film -/
def ffz (M : jMm) (s l i n : Int) : Int := if (bt 0 s 3 = 0 ∨ bt 0 l 2 = 0) ∨ bt 1 n 10 = 0 then -1 else fz M s l i n
theorem ffz_ok {M : jMm} {s l i n : Int} (h : ¬ ffz M s l i n < 0) : (¬ ((bt 0 s 3 = 0 ∨ bt 0 l 2 = 0) ∨ bt 1 n 10 = 0)) ∧ (0 ≤ s ∧ s < 4) ∧ (0 ≤ l ∧ l ≤ 2) ∧ (1 ≤ n ∧ n ≤ 10) ∧ M 140 s = l ∧ 0 ≤ i ∧ i + n ≤ M 141 s := by
  unfold ffz at h
  by_cases c : (bt 0 s 3 = 0 ∨ bt 0 l 2 = 0) ∨ bt 1 n 10 = 0
  · rw [if_pos c] at h; exact absurd (by decide) h
  · rw [if_neg c] at h
    have a := bt_0 (fun z => c (.inl (.inl z)))
    have b := bt_0 (fun z => c (.inl (.inr z)))
    have d := bt_0 (fun z => c (.inr z))
    have e := fz_ok h
    exact ⟨c, by omega, b, d, e.2.1, e.2.2.1, e.2.2.2⟩
theorem ffz_eq {M M' : jMm} {s l i n : Int} (h : M' 140 s = M 140 s) (h' : M' 141 s = M 141 s) : ffz M' s l i n = ffz M s l i n := by unfold ffz fz; rw [h, h']
theorem q_ffz {s l i n : Int} {M : jMm} (hs : ∀ s, 0 ≤ s → s < 4 → iSheet M s) {N : jLo → jMm → Prop} {R : Int → jMm → Prop} (h : N (jup (jIn [0, 1, 2, 3, 4] [0, s, l, i, n]) 5 (ffz M s l i n)) M) : tSet 5 (xTern (kZ (fun x y => x ≠ y) (xCall f_X6_isBetween (xsC (xV 4) (xsC (xC 1) (xsC (xC 10) xsN))))) (xCall f_X6_refuse (xsC (xV 0) (xsC (xV 1) (xsC (xV 2) (xsC (xV 3) (xsC (xV 4) xsN)))))) (xC (-1))) (jIn [0, 1, 2, 3, 4] [0, s, l, i, n]) M N R := by
  refine set_sel (u := rfz M s l i n) (v := -1) (bt 1 n 10 ≠ 0) (kz_pc (r := fun x y => x ≠ y) (bw (fun Q => rfl) (fun Q => rfl) (fun Q => rfl))) (fun c Q => ?_) (fun _ Q => rfl) ?_
  · show f_X6_refuse [0, s, l, i, n] M Q = _
    have := bt_0 c
    rw [q_refuse hs (by omega)]
  · have e : (if bt 1 n 10 ≠ 0 then rfz M s l i n else -1) = ffz M s l i n := by
      unfold ffz rfz
      by_cases c : bt 1 n 10 = 0
      · rw [if_neg (fun z => z c), if_pos (.inr c)]
      · rw [if_pos c]
        by_cases d : bt 0 s 3 = 0 ∨ bt 0 l 2 = 0
        · rw [if_pos d, if_pos (.inl d)]
        · rw [if_neg d, if_neg (fun z => z.elim d c)]
    rw [e]; exact h
/-- the head of film and of stood in the model -/
theorem qm_ffz {s l i n : Int} {M : jMm} (hi : ir i) {N : jLo → jMm → Prop} {R : Int → jMm → Prop} {rest : jSt} (k1 : ffz M s l i n < 0 → R (ffz M s l i n) M) (k2 : ¬ ffz M s l i n < 0 → rest (jup (jIn [0, 1, 2, 3, 4] [114, s, l, i, n]) 5 (ffz M s l i n)) M N R) : tSeq (tIf (kOr (kOr (kNot (kZ (fun x y => x ≠ y) (xCall f_X7_isSheet (xsC (xV 1) xsN)))) (kNot (kZ (fun x y => x ≠ y) (xCall f_X7_isLane (xsC (xV 2) xsN))))) (kNot (kZ (fun x y => x ≠ y) (xCall f_X7_in (xsC (xUn (fun x => x) (xV 4)) (xsC (xC 1) (xsC (xC 10) xsN))))))) (tRet (xC (-1))) tSkip) (tSeq (tSet 5 (xCall f_X7_finds (xsC (xV 0) (xsC (xV 1) (xsC (xV 2) (xsC (xV 3) (xsC (xV 4) xsN))))))) (tSeq (tIf (kZ (fun x y => x < y) (xV 5)) (tRet (xV 5)) tSkip) rest)) (jIn [0, 1, 2, 3, 4] [114, s, l, i, n]) M N R := by
  refine sq_ (if_pc ((bt 0 s 3 = 0 ∨ bt 0 l 2 = 0) ∨ bt 1 n 10 = 0) (or_pc (or_pc (nz_pc (c1 (fun Q => rfl) (fun Q => qm_isSheet))) (fun _ => nz_pc (c1 (fun Q => rfl) (fun Q => qm_isLane)))) (fun _ => nz_pc (bm (fun Q => rfl) (fun Q => rfl) (fun Q => rfl)))) (fun c => rt_ ?_) (fun c => sk_ ?_))
  · have e : ffz M s l i n = -1 := by unfold ffz; rw [if_pos c]
    rw [e] at k1
    exact k1 (by decide)
  · have e : ffz M s l i n = fz M s l i n := by unfold ffz; rw [if_neg c]
    obtain ⟨s0, s1⟩ := bt_0 (fun z => c (.inl (.inl z)))
    obtain ⟨n0, n1⟩ := bt_0 (fun z => c (.inr z))
    refine sq_ (st_v (v := ffz M s l i n) (fun Q => by
      show f_X7_finds [114, s, l, i, n] M Q = _
      rw [qm_finds s0 (by omega) hi ⟨by omega, by omega⟩, e]) ?_)
    refine sq_ (if_pc (ffz M s l i n < 0) (kz_pc (r := fun x y => x < y) (u := ffz M s l i n) (fun Q => rfl)) (fun d => rt_ (k1 d)) (fun d => sk_ (k2 d)))
theorem qa_film {s l i n : Int} {M : jMm} {Q : Int → jMm → Prop} (pl : iPl M) (hi : ir i) (z16 : ∀ s, 0 ≤ s → s < 4 → M 141 s ≤ 16) (k1 : ffz M s l i n < 0 → Q (ffz M s l i n) M) (k2 : ¬ ffz M s l i n < 0 → ∀ M', (∀ a b, ¬ scr a b → (a ≠ 142 ∨ b < 16 * s + i ∨ 16 * s + i + n ≤ b) → M' a b = M a b) → (∀ j, 0 ≤ j → j < n → M' 142 (16 * s + i + j) = gThr (gDay M) (10 * j + 9)) → Q n M') : f_X7_film [114, s, l, i, n] M Q := by
  unfold f_X7_film
  refine mt_ (qm_ffz hi k1 (fun d => ?_))
  obtain ⟨-, ⟨s0, s4⟩, -, ⟨n1, n10⟩, -, i0, iz⟩ := ffz_ok d
  have z := z16 s s0 s4
  refine mo_days rfl pl (fun M1 S _ F => sq_ (sq_ (st_c ?_)))
  have en : ((n.toNat : Nat) : Int) = n := by omega
  refine up0 n.toNat (fun j L M2 => L 0 = 114 ∧ L 1 = s ∧ L 3 = i ∧ L 4 = n ∧ moS M2 (gEnd (gDay M)) ∧ (∀ a b, ¬ scr a b → (a ≠ 142 ∨ b < 16 * s + i ∨ 16 * s + i + n ≤ b) → M2 a b = M a b) ∧ ∀ q : Int, 0 ≤ q → q < j → M2 142 (16 * s + i + q) = gThr (gDay M) (10 * q + 9)) rfl (by omega) ⟨rfl, rfl, rfl, rfl, S, fun a b h _ => F a b h, fun q _ _ => by omega⟩ ?_ ?_ ?_
  · rintro j L M2 Q1 ⟨-, -, -, l4, -⟩ hQ
    show Q1 (L 4) M2
    rw [l4, ← en]; exact hQ
  · rintro j L M2 N1 hj hi6 ⟨l0, l1, l3, l4, S2, F2, hz⟩ hN
    have jn : (j : Int) < n := by omega
    have ev : ∀ Q1 : Int → jMm → Prop, xCall f_X7_throughBy (xsC (xV 0) (xsC (xBin boAdd (xBin boMul (xC 10) (xV 6)) (xC 9)) xsN)) L M2 Q1 = Q1 (gThr (gDay M) (10 * j + 9)) M2 := c2 (x0 := 114) (x1 := 10 * j + 9) (fun Q => by show Q (L 0) M2 = _; rw [l0]) (bn_add (x := 10 * j) (y := 9) (bn_mul (x := 10) (y := j) (fun Q => rfl) (fun Q => by show Q (L 6) M2 = _; rw [hi6]) ⟨by omega, by omega⟩) (fun Q => rfl) ⟨by omega, by omega⟩) (fun Q => mo_thr pl S2)
    have ei : ∀ Q1 : Int → jMm → Prop, xBin boAdd (xBin boAdd (xBin boMul (xC 16) (xV 1)) (xV 3)) (xV 6) L M2 Q1 = Q1 (16 * s + i + j) M2 := bn_add (x := 16 * s + i) (y := j) (bn_add (x := 16 * s) (y := i) (bn_mul (x := 16) (y := s) (fun Q => rfl) (fun Q => by show Q (L 1) M2 = _; rw [l1]) ⟨by omega, by omega⟩) (fun Q => by show Q (L 3) M2 = _; rw [l3]) ⟨by omega, by omega⟩) (fun Q => by show Q (L 6) M2 = _; rw [hi6]) ⟨by omega, by omega⟩
    show xBin boAdd (xBin boAdd (xBin boMul (xC 16) (xV 1)) (xV 3)) (xV 6) L M2 (fun x M3 => xCall f_X7_throughBy (xsC (xV 0) (xsC (xBin boAdd (xBin boMul (xC 10) (xV 6)) (xC 9)) xsN)) L M3 (fun v M4 => (0 ≤ x ∧ x < s_len (s_rf (L 0) 42)) ∧ N1 L (jwr M4 (s_rf (L 0) 42) x v)))
    rw [ei, ev, l0, mrf42, mln142]
    refine ⟨by omega, hN L _ hi6 ⟨l0, l1, l3, l4, moS_lo S2 (fun a b h => jw0 (.inl (by omega))), fun a b h h2 => by rw [jw0 (by omega)]; exact F2 a b h h2, fun q q0 q1 => ?_⟩⟩
    by_cases e : q = j
    · rw [e, jw1 ⟨rfl, rfl⟩]
    · rw [jw0 (.inr (by omega))]; exact hz q q0 (by omega)
  · rintro L M2 - ⟨l0, l1, l3, l4, S2, F2, hz⟩
    refine rt_ ?_
    show Q (L 4) M2
    rw [l4]
    exact k2 d M2 F2 (fun j j0 j1 => hz j j0 (by omega))
theorem y_film {s l i n : Int} (hi : ir i) : yPair Inv f_X6_film f_X7_film [s, l, i, n] := by
  intro M Q I hq
  unfold f_X6_film
  have hs := I.2.2.2.1
  have pl := I.1.1
  have r16 : ∀ s, 0 ≤ s → s < 4 → M 141 s ≤ 16 := fun s s0 s4 => (hs s s0 s4).2.2.2.1
  refine mt_ (sq_ (q_ffz hs (sq_ (if_pc (ffz M s l i n < 0) (kz_pc (r := fun x y => x < y) (u := ffz M s l i n) (fun Q => rfl)) (fun d => rt_ ?_) (fun d => sk_ ?_)))))
  · show f_X7_film [114, s, l, i, n] M (fun b M2 => Q (ffz M s l i n) b M2)
    exact qa_film pl hi r16 (fun _ => hq _ _ I) (fun n => absurd d n)
  · obtain ⟨-, ⟨s0, s4⟩, -, ⟨n1, n10⟩, el, i0, iz⟩ := ffz_ok d
    have z := r16 s s0 s4
    have sh := hs s s0 s4
    have ok := ok_day pl
    have hd : isDay 28 := .inl rfl
    refine sq_ (stc1 (pd_toldDay I (fun M1 I1 Z F => sq_ (sq_ (st_c ?_)))))
    have en : ((n.toNat : Nat) : Int) = n := by omega
    have g := gT_eq (P := M) (P' := M1) (fun b _ => F _ _ (by decide) (by omega)) (fun b => ⟨F _ _ (by decide) (by omega), F _ _ (by decide) (by omega), F _ _ (by decide) (by omega)⟩)
    have lo : ∀ a b, 54 ≤ a → M1 a b = M a b := fun a b h => F a b (by omega) (by omega)
    have sh1 := I1.2.2.2.1 s s0 s4
    refine up0 n.toNat (fun j L M2 => L 0 = 0 ∧ L 1 = s ∧ L 3 = i ∧ L 4 = n ∧ L 6 = 28 ∧ (∀ a b, (a ≠ 107 + 2 * s ∨ b < i ∨ i + n ≤ b) → M2 a b = M1 a b) ∧ ∀ q : Int, 0 ≤ q → q < j → M2 (107 + 2 * s) (i + q) = gThr (gDay M) (10 * q + 9)) rfl (by omega) ⟨rfl, rfl, rfl, rfl, rfl, fun _ _ _ => rfl, fun q _ _ => by omega⟩ ?_ ?_ ?_
    · rintro j L M2 Q1 ⟨-, -, -, l4, -⟩ hQ
      show Q1 (L 4) M2
      rw [l4, ← en]; exact hQ
    · rintro j L M2 N1 hj hi7 ⟨l0, l1, l3, l4, l6, F2, hz⟩ hN
      have jn : (j : Int) < n := by omega
      have Z2 : pdZ 28 (M 114 3) (tw M) (gT M) 100 M2 := pdZ_fr Z (iPl_G pl) (by decide) (fun a b h1 h2 => F2 a b (.inl (by omega)))
      have S2 : pdS 28 M2 (gDay M) := Z2.1
      have tb := thr_b (t := 10 * j + 9) ok
      refine do3e (x0 := 106 + 2 * s) (x1 := i + j) (x2 := gThr (gDay M) (10 * j + 9)) (rowE l0 l1 s0 s4) (bn_add (x := i) (y := j) (fun Q => by show Q (L 3) M2 = _; rw [l3]) (fun Q => by show Q (L 7) M2 = _; rw [hi7]) ⟨by omega, by omega⟩) (c2 (x0 := 28) (x1 := 10 * j + 9) (fun Q => by show Q (L 6) M2 = _; rw [l6]) (bn_add (x := 10 * j) (y := 9) (bn_mul (x := 10) (y := j) (fun Q => rfl) (fun Q => by show Q (L 7) M2 = _; rw [hi7]) ⟨by omega, by omega⟩) (fun Q => rfl) ⟨by omega, by omega⟩) (fun Q => pd_countThrough hd S2 ok)) ?_
      have e3 : M2 (106 + 2 * s) 3 = M 141 s := by rw [F2 _ _ (.inl (by omega)), lo _ _ (by omega), sh.2.1]
      refine q_put s0 s4 (by omega) (by omega) (by omega) ?_
      rw [cst_id tb.1 tb.2]
      refine hN L _ hi7 ⟨l0, l1, l3, l4, l6, fun a b h => by rw [jw0 (by omega)]; exact F2 a b h, fun q q0 q1 => ?_⟩
      by_cases e : q = j
      · rw [e, jw1 ⟨rfl, rfl⟩]
      · rw [jw0 (.inr (by omega))]; exact hz q q0 (by omega)
    · rintro L M2 - ⟨l0, l1, l3, l4, l6, F2, hz⟩
      have lo2 : ∀ a b, 54 ≤ a → a ≠ 107 + 2 * s → M2 a b = M a b := fun a b h h2 => by rw [F2 a b (.inl h2), lo a b h]
      have ge : ∀ b, (b = 1 ∨ b = 3 ∨ b = 4 ∨ b = 5) → M2 114 b = M 114 b := fun b _ => lo2 _ _ (by decide) (by omega)
      have gs : ∀ b, M2 115 b = M 115 b ∧ M2 116 b = M 116 b ∧ M2 117 b = M 117 b := fun b => ⟨lo2 _ _ (by decide) (by omega), lo2 _ _ (by decide) (by omega), lo2 _ _ (by decide) (by omega)⟩
      have gt := gT_eq ge gs
      have gd : gDay M2 = gDay M := by unfold gDay; rw [gt.1, gt.2.1, ge 3 (by decide)]
      have fe : ffz M2 s l i n = ffz M s l i n := ffz_eq (lo2 _ _ (by decide) (by omega)) (lo2 _ _ (by decide) (by omega))
      refine rt_ ?_
      show f_X7_film [114, s, l, i, n] M2 (fun b M3 => Q (L 4) b M3)
      rw [l4]
      refine qa_film (iPl_eq pl ge gs) hi (fun q q0 q4 => by rw [lo2 _ _ (by decide) (by omega)]; exact r16 q q0 q4) (fun n => absurd n (by rw [fe]; exact d)) (fun _ M3 F3 h3 => hq _ _ (Inv_sheet I1 s0 s4 (fun a b h e1 e2 e3 e4 e5 => by rw [F3 a b h (by omega), F2 a b (.inl e2)]) ?_))
      obtain ⟨g0, g1, g2, g3, g4⟩ := sh1
      have w : ∀ a b, ¬ scr a b → a ≠ 142 → a ≠ 107 + 2 * s → M3 a b = M1 a b := fun a b h h1 h2 => by rw [F3 a b h (.inl h1), F2 a b (.inl h2)]
      unfold iSheet
      rw [w 140 s (by unfold scr; omega) (by decide) (by omega), w 141 s (by unfold scr; omega) (by decide) (by omega), w (106 + 2 * s) 1 (by unfold scr; omega) (by omega) (by omega), w (106 + 2 * s) 2 (by unfold scr; omega) (by omega) (by omega), w (106 + 2 * s) 3 (by unfold scr; omega) (by omega) (by omega)]
      refine ⟨g0, g1, g2, g3, fun q q0 q1 => ?_⟩
      rw [F3 (107 + 2 * s) q (by unfold scr; omega) (.inl (by omega))]
      by_cases e : i ≤ q ∧ q < i + n
      · have a1 := h3 (q - i) (by omega) (by omega)
        have a2 := hz (q - i) (by omega) (by omega)
        rw [show 16 * s + i + (q - i) = 16 * s + q by omega] at a1
        rw [show i + (q - i) = q by omega] at a2
        rw [a1, a2, gd]
      · rw [F3 142 _ (by unfold scr; omega) (by omega), F2 142 _ (.inl (by omega)), F2 _ _ (by omega)]
        exact g4 q q0 q1
