/-! the program: board, weigh -/
theorem le_rule {i : Nat} {E : jEx} {B : jSt} {L : jLo} {M : jMm} {N : jLo → jMm → Prop} {R : Int → jMm → Prop} (e a : Int) (I : Int → jLo → jMm → Prop) (ha : L i = a) (hn : a ≤ e + 1) (hl : -2147483648 ≤ a) (hh : e + 1 ≤ 2147483647) (hI : I a L M)
    (hE : ∀ (j : Int) (L : jLo) (M : jMm) (Q : Int → jMm → Prop), I j L M → Q e M → E L M Q)
    (hB : ∀ (j : Int) (L : jLo) (M : jMm) (N1 : jLo → jMm → Prop), a ≤ j → j ≤ e → L i = j → I j L M → (∀ (L' : jLo) (M' : jMm), L' i = j → I (j + 1) (jup L' i (j + 1)) M' → N1 L' M') → B L M N1 R)
    (hN : ∀ (L : jLo) (M : jMm), L i = e + 1 → I (e + 1) L M → N L M) : tWh (kR (fun x y => x ≤ y) (xV i) E) (tSeq B (tInc i 1)) L M N R := by
  refine wh_rule (fun k L M => ∃ j, L i = j ∧ a ≤ j ∧ j ≤ e + 1 ∧ I j L M ∧ k = (e + 1 - j).toNat) ?_ (k := (e + 1 - a).toNat) ⟨a, ha, Int.le_refl a, hn, hI, rfl⟩
  rintro k L M ⟨j, h1, h2, h3, h4, h5⟩ N' hN'
  refine hE j L M _ h4 ⟨fun hc => ?_, fun hc => ?_⟩
  · have hc : L i ≤ e := hc
    refine hB j L M _ h2 (by omega) h1 h4 (fun L' M' e' hI' => ?_)
    refine ⟨⟨by omega, by omega⟩, hN' ((e + 1 - (j + 1)).toNat) _ M' (by omega) ⟨j + 1, ?_, by omega, by omega, ?_, rfl⟩⟩
    · show (if i = i then L' i + 1 else L' i) = j + 1
      rw [if_pos rfl, e']
    · rw [e']; exact hI'
  · have hc : ¬ L i ≤ e := hc
    have : j = e + 1 := by omega
    subst this
    exact hN L M h1 h4
theorem pd_board {d s t : Int} {M g : jMm} {Q : Int → jMm → Prop} (hd : isDay d) (S : pdS d M g) {B : Int} (ok : gOK (t + 1) B g) (Li : pdL d M g (t + 1)) (s0 : 0 ≤ s) (s1 : s < g 114 1) (hg : gGoes g s) (t0 : 0 ≤ t) (t1 : t ≤ 99) (hq : ∀ M', pdS d M' (gBoard t s g) → pdFr d M M' → Q 0 M') : f_X0_board [d, s, t] M Q := by
  unfold f_X0_board
  have hk := ok.1.1.2.1
  have s3 : s < 3 := by omega
  have hgb : gBoard t s g = gBd t s 1 (gBd t s 0 g) := by unfold gBoard; rw [if_pos hg]
  rw [hgb] at hq
  refine mt_ (sq_ (st_v (v := d + 20 + 2 * s) (fun Q => ?_) (sq_ (sq_ (st_c ?_)))))
  · simp only [xAr, xGr, xV, jIn, drf1 hd, dln2 hd, dfs hd s0 s3, s0, s3, reduceIte, Nat.reduceEqDiff, true_and, and_self]
  refine le_rule 1 0 (fun y L M' => L 0 = d ∧ L 1 = s ∧ L 2 = t ∧ L 3 = d + 20 + 2 * s ∧ pdFr d M M' ∧ ∃ h, pdS d M' h ∧ gOK (t + 1) B h ∧ gSame g h ∧ (∀ b, h 134 b = g 134 b) ∧ h = (if y = 0 then g else if y = 1 then gBd t s 0 g else gBd t s 1 (gBd t s 0 g))) rfl (by decide) (by decide) (by decide) ⟨rfl, rfl, rfl, rfl, pdFr_rfl, g, S, ok, gSame_rfl, fun _ => rfl, rfl⟩ (fun _ _ _ _ _ h => h) ?_ ?_
  · rintro y L M' N1 hy0 hy1 hi ⟨l0, l1, l2, l3, F, h, S1, ok1, sm1, h134, hw⟩ hN
    have y01 : y = 0 ∨ y = 1 := by omega
    have hn0 := ok1.1.1.2.2.1
    have hn := ok1.1.1.2.2.2.1
    have en := gN_eq hn0
    have s1' : s < h 114 1 := by rw [sm1.1 1 (by decide)]; exact s1
    have hw1 : h 134 s ≠ 0 := by rw [h134]; omega
    have Li1 : pdL d M' h (t + 1) := pdL_fr Li F sm1
    obtain ⟨bl, b3, b10⟩ := pd_bound S1 ok1 s0 s1'
    have X := S1.2 s s0 s1'
    have key : ∀ (L2 : jLo) M2, L2 4 = y → L2 0 = d → L2 1 = s → L2 2 = t → L2 3 = d + 20 + 2 * s → pdS d M2 (gBd t s y h) → pdFr d M' M2 → N1 L2 M2 := fun L2 M2 i4 i0 i1 i2 i3 S2 F2 => hN L2 M2 i4 ⟨i0, i1, i2, i3, pdFr_tr F F2, gBd t s y h, S2, ok_bd ok1 s0 s1' t0 t1 (by omega) (by omega) hw1, gSame_tr sm1 same_bd, fun b => by rw [bd_134, h134], by
      rw [hw]
      rcases y01 with rfl | rfl <;> rfl⟩
    have W := who_spot X hn0 (x := 0) (y := y) (by decide) (by omega) (by omega) (by omega)
    have who : ∀ Q, f_X1_who [d + 20 + 2 * s, 0, y] M' Q = Q (M' (d + 21 + 2 * s) (2 * 0 + y)) M' := fun Q => by
      rw [pd_who hd s0 s3 (by omega), if_pos (by omega)]
    have ftb : ∀ Q, f_X0_firstToBoard [d, d + 20 + 2 * s, y] M' Q = Q (if gBdP s y h < 0 then -1 else gBdP s y h) M' := fun Q => pd_firstToBoard hd S1 ok1 Li1 s0 s1' hw1 y01
    generalize hF : f_X0_firstToBoard = F0 at ftb ⊢
    refine sq_ (set_sel (u := if gBdP s y h < 0 then -1 else gBdP s y h) (v := -1) (M' (d + 21 + 2 * s) (2 * 0 + y) < 0) (fun T F => ?_) (fun c Q => ?_) (fun c Q => ?_) ?_)
    · simp only [kZ, xCall, xsC, xsN, xV, xC, l3, hi, who]
    · simp only [xCall, xsC, xsN, xV, l0, l3, hi, ftb]
    · rfl
    have hv : (if M' (d + 21 + 2 * s) (2 * 0 + y) < 0 then (if gBdP s y h < 0 then -1 else gBdP s y h) else -1) = if (gWho h s 0 y < 0 ∧ gBdP s y h ≥ 0) then gBdP s y h else -1 := by
      by_cases a : M' (d + 21 + 2 * s) (2 * 0 + y) < 0
      · have b : gWho h s 0 y < 0 := by omega
        by_cases c : gBdP s y h < 0
        · rw [if_pos a, if_pos c, if_neg (by omega)]
        · rw [if_pos a, if_neg c, if_pos (by omega)]
      · rw [if_neg a, if_neg (by omega)]
    rw [hv]
    unfold gBd at key
    by_cases cc : gWho h s 0 y < 0 ∧ gBdP s y h ≥ 0
    · rw [if_pos cc] at key
      rw [if_pos cc]
      rcases bdp_cases (g := h) (s := s) (y := y) hn0 with c' | ⟨c1, c2, c3, c4, c5⟩
      · omega
      generalize gBdP s y h = q at *
      have q14 : q < 14 := by omega
      have hfree : M' (d + 21 + 2 * s) (2 * 0 + y) = -1 := by omega
      have W1 := who_spot X hn0 (x := 0) (y := 1) (by decide) (by omega) (by decide) (by decide)
      have hbag : h 124 q = 2 → y = 0 ∧ M' (d + 21 + 2 * s) (2 * 0 + 1) = -1 := fun k2 => by
        have := (mayK.mp c5).2.1.resolve_left (fun z => z k2)
        exact ⟨this.1, by omega⟩
      have Sp := pdS_put (t := t) S1 ok1 s0 s1' y01 c1 c2 c3 hfree hbag
      obtain ⟨-, -, p3, p4, -⟩ := S1.1.2.2 q c1 c2
      have p9 : M' d 9 = gCnt h := S1.1.1.2.2.1
      have f5 := (S1.1.2.1 s s0 s1').2.2.2.2
      have wl := weight_le (g := h) (s := s) hn0 hn
      have wt1 := wt_le (h 124 q)
      have cn0 : 0 ≤ gCnt h := sm_nonneg _ (fun p _ _ => by split <;> omega)
      have cn1 : gCnt h ≤ 1 * (gN h : Nat) := sm_le 1 _ (fun p _ _ => by split <;> omega)
      have i9 : ir (M' d 9 - 1) := ⟨by omega, by omega⟩
      have i5 : ir (M' (d + 20 + 2 * s) 5 + wt (h 124 q)) := ⟨by omega, by omega⟩
      refine if_pc True (fun T F => ?_) (fun _ => ?_) (fun c => absurd trivial c)
      · simp [kZ, xV, jup, c1]
      have r9 : (jwr (jwr (jwr M' (d + 6 + q) 4 2) (d + 6 + q) 5 s) (d + 6 + q) 6 t) d 9 = M' d 9 := by rw [jw0 (by omega), jw0 (by omega), jw0 (by omega)]
      have r5 : (jwr (jwr (jwr (jwr M' (d + 6 + q) 4 2) (d + 6 + q) 5 s) (d + 6 + q) 6 t) d 9 (M' d 9 - 1)) (d + 20 + 2 * s) 5 = M' (d + 20 + 2 * s) 5 := by rw [jw0 (by omega), jw0 (by omega), jw0 (by omega), jw0 (by omega)]
      have r3 : (jwr (jwr (jwr (jwr M' (d + 6 + q) 4 2) (d + 6 + q) 5 s) (d + 6 + q) 6 t) d 9 (M' d 9 - 1)) (d + 6 + q) 3 = wt (h 124 q) := by rw [jw0 (by omega), jw0 (by omega), jw0 (by omega), jw0 (by omega)]; exact p4
      have rl : (jwr (jwr (jwr (jwr (jwr M' (d + 6 + q) 4 2) (d + 6 + q) 5 s) (d + 6 + q) 6 t) d 9 (M' d 9 - 1)) (d + 20 + 2 * s) 5 (M' (d + 20 + 2 * s) 5 + wt (h 124 q))) (d + 20 + 2 * s) 1 = h 116 (3 * s) := by rw [jw0 (by omega), jw0 (by omega), jw0 (by omega), jw0 (by omega), jw0 (by omega)]; exact bl
      have rl2 : (jwr (jwr (jwr (jwr (jwr (jwr M' (d + 6 + q) 4 2) (d + 6 + q) 5 s) (d + 6 + q) 6 t) d 9 (M' d 9 - 1)) (d + 20 + 2 * s) 5 (M' (d + 20 + 2 * s) 5 + wt (h 124 q))) (d + 21 + 2 * s) (2 * 0 + y) q) (d + 20 + 2 * s) 1 = h 116 (3 * s) := by rw [jw0 (by omega), jw0 (by omega), jw0 (by omega), jw0 (by omega), jw0 (by omega), jw0 (by omega)]; exact bl
      have r2 : (jwr (jwr (jwr (jwr (jwr (jwr M' (d + 6 + q) 4 2) (d + 6 + q) 5 s) (d + 6 + q) 6 t) d 9 (M' d 9 - 1)) (d + 20 + 2 * s) 5 (M' (d + 20 + 2 * s) 5 + wt (h 124 q))) (d + 21 + 2 * s) (2 * 0 + y) q) (d + 6 + q) 2 = h 124 q := by rw [jw0 (by omega), jw0 (by omega), jw0 (by omega), jw0 (by omega), jw0 (by omega), jw0 (by omega)]; exact p3
      have put : ∀ (M : jMm) (y' : Int) Q, M (d + 20 + 2 * s) 1 = h 116 (3 * s) → (y' = 0 ∨ y' = 1) → f_X1_put [d + 20 + 2 * s, 0, y', q] M Q = Q 0 (jwr M (d + 21 + 2 * s) (2 * 0 + y') q) := fun M y' Q e hy' => pd_put hd s0 s3 (by omega) (by decide) (by omega) (by omega) (by omega)
      simp only [tSeq, tSet, tPut, tPutO, tDo, tIf, tSkip, kR, xCall, xsC, xsN, xV, xC, xGf, xAr, xGr, boAdd, boSub, jup, l0, l1, l2, l3, hi, drf0 hd, dln1 hd, drr hd c1 q14, reduceIte, Nat.reduceEqDiff, c1, q14, r9, r5, r3, i9, i5, put _ y _ rl y01, r2, put _ 1 _ rl2 (.inr rfl), true_and, and_self]
      have hPt : ∀ M2, M2 = mPt d s t y q (wt (h 124 q)) (h 124 q) M' → pdFr d M' M2 := fun M2 e => by
        subst e
        have a7 : ∀ a b, (a ≠ d + 21 + 2 * s) → mPt d s t y q (wt (h 124 q)) (h 124 q) M' a b = (jwr (jwr (jwr (jwr (jwr M' (d + 6 + q) 4 2) (d + 6 + q) 5 s) (d + 6 + q) 6 t) d 9 (M' d 9 - 1)) (d + 20 + 2 * s) 5 (M' (d + 20 + 2 * s) 5 + wt (h 124 q))) a b := fun a b hab => mPt_rd (.inl hab)
        refine ⟨fun a b hab => ?_, fun b hb => ?_, fun b => ?_⟩
        · rw [a7 _ _ (by omega), jw0 (by omega), jw0 (by omega), jw0 (by omega), jw0 (by omega), jw0 (by omega)]
        · rw [a7 _ _ (by omega), jw0 (by omega), jw0 (by omega), jw0 (by omega), jw0 (by omega), jw0 (by omega)]
        · rw [a7 _ _ (by omega), jw0 (by omega), jw0 (by omega), jw0 (by omega), jw0 (by omega), jw0 (by omega)]
      refine ⟨fun k2 => key _ _ hi l0 l1 l2 l3 ?_ (hPt _ ?_), fun k2 => key _ _ hi l0 l1 l2 l3 ?_ (hPt _ ?_)⟩
      · unfold mPt at Sp; rw [if_pos k2] at Sp; exact Sp
      · unfold mPt; rw [if_pos k2]
      · unfold mPt at Sp; rw [if_neg k2] at Sp; exact Sp
      · unfold mPt; rw [if_neg k2]
    · rw [if_neg cc] at key
      rw [if_neg cc]
      refine if_pc False (fun T F => ?_) (fun c => c.elim) (fun _ => key _ _ hi l0 l1 l2 l3 S1 pdFr_rfl)
      simp [kZ, xV, jup]
  · rintro L M' hi ⟨-, -, -, -, F, h, S', -, -, -, hw⟩
    have hw : h = gBd t s 1 (gBd t s 0 g) := hw
    rw [← hw] at hq
    exact hq _ S' F
def mFall (d s j : Int) (g M : jMm) : jMm := fun a b => if (b = 2 ∨ b = 10) ∧ d + 6 ≤ a ∧ a < d + 6 + j ∧ gOn g (a - (d + 6)) s ∧ g 124 (a - (d + 6)) = 1 then (if b = 2 then 0 else 1) else M a b
theorem pd_fall {d s : Int} {M g : jMm} {Q : Int → jMm → Prop} (hd : isDay d) (hn0 : 0 ≤ g 114 5) (hn : g 114 5 ≤ 14) (e6 : M d 6 = g 114 5) (hp : ∀ p, 0 ≤ p → p < g 114 5 → M (d + 6 + p) 2 = g 124 p ∧ (M (d + 6 + p) 4 = 2 ↔ g 123 p = 2) ∧ (g 123 p = 2 → M (d + 6 + p) 5 = g 125 p)) (hq : Q 0 (mFall d s (g 114 5) g M)) : f_X0_letWalkersFall [d, s] M Q := by
  unfold f_X0_letWalkersFall
  have en := gN_eq hn0
  refine mt_ (sq_ (sq_ (st_c ?_)))
  refine up0 (gN g) (fun j L M' => L 0 = d ∧ L 1 = s ∧ M' = mFall d s j g M) rfl (by omega) ⟨rfl, rfl, ?_⟩ ?_ ?_ ?_
  · funext a b
    unfold mFall
    rw [if_neg (by omega)]
  · rintro j L M' Q ⟨l0, -, rfl⟩ hq
    show Q (mFall d s j g M (L 0) 6) _
    have : mFall d s j g M (L 0) 6 = M d 6 := by rw [l0]; unfold mFall; rw [if_neg (by omega)]
    rw [this, e6, ← en]; exact hq
  · rintro j L M' N1 hj hi ⟨l0, l1, hM⟩ hN
    have p1 : (j : Int) < g 114 5 := by omega
    have j0 : (0 : Int) ≤ j := by omega
    have j14 : (j : Int) < 14 := by omega
    obtain ⟨q1, q2, q3⟩ := hp j j0 p1
    have rd : ∀ b, M' (d + 6 + j) b = M (d + 6 + j) b := fun b => by rw [hM]; unfold mFall; rw [if_neg (by omega)]
    have ej : d + 6 + (j : Int) - (d + 6) = j := by omega
    have ex : ((j + 1 : Nat) : Int) = (j : Int) + 1 := by omega
    refine sq_ (st_v (v := d + 6 + (j : Int)) (fun Q => ?_) ?_)
    · simp [xAr, xGr, xV, l0, hi, drf0 hd, dln1 hd, j14, drr hd j0 j14]
    refine if_pc ((gOn g j s ∧ g 124 j = 1)) (fun T F => propext ?_) (fun c => ?_) (fun c => ?_)
    · by_cases c1 : g 123 j = 2
      · have e1 := q2.mpr c1
        have e2 := q3 c1
        by_cases c2 : g 125 j = s <;> by_cases c3 : g 124 j = 1 <;> simp [kAnd, kR, xV, xC, xGf, jup, l1, rd, e1, e2, q1, c1, c2, c3]
      · have e1 : ¬ M (d + 6 + j) 4 = 2 := fun z => c1 (q2.mp z)
        simp [kAnd, kR, xV, xC, xGf, jup, l1, rd, e1, c1]
    · have e : jwr (jwr M' (d + 6 + j) 2 0) (d + 6 + j) 10 1 = mFall d s ((j + 1 : Nat) : Int) g M := by
        rw [ex, hM]
        funext a b
        by_cases ca : a = d + 6 + j
        · subst ca
          by_cases b10 : b = 10
          · subst b10
            rw [jw1 ⟨rfl, rfl⟩]
            unfold mFall
            rw [ej, if_pos ⟨.inr rfl, by omega, by omega, c⟩]; rfl
          · by_cases b2 : b = 2
            · subst b2
              rw [jw0 (by omega), jw1 ⟨rfl, rfl⟩]
              unfold mFall
              rw [ej, if_pos ⟨.inl rfl, by omega, by omega, c⟩]; rfl
            · rw [jw0 (by omega), jw0 (by omega)]
              unfold mFall
              rw [if_neg (by omega), if_neg (by omega)]
        · rw [jw0 (by omega), jw0 (by omega)]
          unfold mFall
          by_cases z : (b = 2 ∨ b = 10) ∧ d + 6 ≤ a ∧ a < d + 6 + (j : Int) ∧ gOn g (a - (d + 6)) s ∧ g 124 (a - (d + 6)) = 1
          · have z2 : (b = 2 ∨ b = 10) ∧ d + 6 ≤ a ∧ a < d + 6 + ((j : Int) + 1) ∧ gOn g (a - (d + 6)) s ∧ g 124 (a - (d + 6)) = 1 := ⟨z.1, z.2.1, by omega, z.2.2.2⟩
            rw [if_pos z, if_pos z2]
          · rw [if_neg z, if_neg (fun w => z ⟨w.1, w.2.1, by omega, w.2.2.2⟩)]
      simp [tSeq, tPut, tPutZ, xV, xC, jup]
      exact hN _ _ hi ⟨l0, l1, e⟩
    · refine hN _ _ hi ⟨l0, l1, ?_⟩
      rw [ex, hM]
      funext a b
      unfold mFall
      by_cases z : (b = 2 ∨ b = 10) ∧ d + 6 ≤ a ∧ a < d + 6 + (j : Int) ∧ gOn g (a - (d + 6)) s ∧ g 124 (a - (d + 6)) = 1
      · have z2 : (b = 2 ∨ b = 10) ∧ d + 6 ≤ a ∧ a < d + 6 + ((j : Int) + 1) ∧ gOn g (a - (d + 6)) s ∧ g 124 (a - (d + 6)) = 1 := ⟨z.1, z.2.1, by omega, z.2.2.2⟩
        rw [if_pos z, if_pos z2]
      · rw [if_neg z, if_neg (fun w => ?_)]
        by_cases ca : a = d + 6 + j
        · subst ca
          rw [ej] at w
          exact c w.2.2.2
        · exact z ⟨w.1, w.2.1, by omega, w.2.2.2⟩
  · rintro L M' hi ⟨-, -, rfl⟩
    rw [en]; exact hq
