/-! what holds between calls -/
def iPl (P : jMm) : Prop := gPl P ∧ (∀ s, 0 ≤ s → s < 3 → 0 ≤ P 116 (3 * s + 1) ∧ P 116 (3 * s + 1) ≤ 2) ∧ (∀ s, 0 ≤ s → s < P 114 1 → 1 ≤ P 116 (3 * s + 2) ∧ P 116 (3 * s + 2) ≤ 2) ∧ (P 115 0 = 0 ∨ P 115 0 = 1) ∧ (0 ≤ P 114 3 ∧ P 114 3 ≤ 99 ∧ 0 ≤ P 114 4 ∧ P 114 4 ≤ 26)
def tw (P : jMm) (s : Int) : Int := if P 114 3 > 0 then wy (P 114 4) s else P 116 (3 * s + 1)
def gT (P : jMm) : jMm := gBegin P (P 115 0) (-4) (fun s => P 116 (3 * s + 1)) (fun s => P 116 (3 * s + 2))
def kpM (M : jMm) : jMm := fun a b => if a = 1 then M 11 b else if a = 3 then M 13 b else if a = 4 then M 14 b else if a = 5 then M 15 b else if a = 7 then M 17 b else if a = 8 then M 18 b else if a = 9 then M 19 b else if a = 10 then M 20 b else 0
def imP (M : jMm) : jMm := fun a b => if a = 115 then M 139 b else if a = 116 then M 139 (7 + b) else if a = 117 then M 139 (16 + b) else if a = 114 then (if b = 1 then M 139 58 else if b = 3 then M 139 59 else if b = 4 then M 139 60 else if b = 5 then M 139 61 else 0) else 0
def iKept (M : jMm) : Prop := (M 0 2 = 0 ∧ M 114 39 = 0) ∨ (M 0 2 = 1 ∧ M 114 39 = 1 ∧ pRel (kpM M) (imP M) ∧ iPl (imP M))
def iTape (M : jMm) : Prop := 0 ≤ M 114 8 ∧ M 114 8 ≤ 80 ∧ M 21 1 = M 114 8 ∧ ∀ i, 0 ≤ i → i < M 114 8 → M 22 i = M 118 i ∧ 32 ≤ M 118 i ∧ M 118 i ≤ 126
def iSheet (M : jMm) (s : Int) : Prop := ((M (106 + 2 * s) 1 = 0 ∧ M 140 s = -1) ∨ (M (106 + 2 * s) 1 = 1 ∧ M 140 s = M (106 + 2 * s) 2 ∧ 0 ≤ M 140 s ∧ M 140 s ≤ 2)) ∧ M 141 s = M (106 + 2 * s) 3 ∧ 0 ≤ M 141 s ∧ M 141 s ≤ 16 ∧ ∀ i, 0 ≤ i → i < 16 → M 142 (16 * s + i) = M (107 + 2 * s) i
def iRun (M : jMm) : Prop := (M 0 8 = 0 ∨ M 0 8 = 1) ∧ (M 0 8 = 1 → pdZ 28 (M 114 3) (tw M) (gT M) 100 M)
/-- the waits by ways before and behind a change -/
def gWb (P : jMm) (t b a : Int) : Int := gW t (wy a) (gBegin P (P 115 0) (-4) (wy b) (fun s => P 116 (3 * s + 2)))
def gBs (W : Int → Int) : Nat → Int
  | 0 => -4
  | m + 1 => if gBs W m < 0 ∨ W m < W (gBs W m) then (m : Int) else gBs W m
def gMn (P : jMm) : Int := s_sv 7 (P 114 1)
def gBk (P : jMm) (t : Int) : Int := gBs (fun k => gWb P t (k / gMn P) (k % gMn P)) (gMn P * gMn P).toNat
def iBest (M : jMm) : Prop := M 0 9 ≠ 0 → 1 ≤ M 0 9 ∧ M 0 9 ≤ 99 ∧ M 0 10 = gBk M (M 0 9) / gMn M ∧ M 0 11 = gBk M (M 0 9) % gMn M ∧ M 0 12 = gWb M (M 0 9) (gBk M (M 0 9) / gMn M) (gBk M (M 0 9) % gMn M)
def Inv (M : jMm) : Prop := (iPl M ∧ pRel M M) ∧ iKept M ∧ iTape M ∧ (∀ s, 0 ≤ s → s < 4 → iSheet M s) ∧ iRun M ∧ iBest M
/-- what may change with no word of it -/
def scr (k j : Int) : Prop := (54 ≤ k ∧ k < 106) ∨ (120 ≤ k ∧ k ≤ 138) ∨ k = 143 ∨ k = 119 ∨ (k = 114 ∧ (j = 9 ∨ j = 10 ∨ (15 ≤ j ∧ j ≤ 34))) ∨ (k = 21 ∧ 2 ≤ j) ∨ (23 ≤ k ∧ k ≤ 26)
def iFr (M M' : jMm) : Prop := ∀ k j, ¬ scr k j → M' k j = M k j
theorem iFr_rfl {M : jMm} : iFr M M := fun _ _ _ => rfl
theorem iFr_tr {M M' M'' : jMm} (h : iFr M M') (h' : iFr M' M'') : iFr M M'' := fun a b n => (h' a b n).trans (h a b n)
theorem iFr_r {M M' : jMm} (h : rFr M M') : iFr M M' := fun a b n => h a b (by unfold scr at n; omega)
theorem iFr_o {d : Int} {M M' : jMm} (hd : d = 54 ∨ d = 80) (h : oFr d M M') : iFr M M' := fun a b n => h a b (by unfold scr at n; omega)
theorem iFr_wr {M M' : jMm} {k j v : Int} (h : iFr M M') (hs : scr k j) : iFr M (jwr M' k j v) := fun a b n => by
  by_cases c : a = k ∧ b = j
  · exact absurd (by rw [c.1, c.2]; exact hs) n
  · rw [jw0 (by omega)]; exact h a b n
theorem begin_eq {P P' : jMm} {r wo : Int} {ways ways' paces paces' : Int → Int} (h1 : P' 114 1 = P 114 1) (h5 : P' 114 5 = P 114 5) (h : ∀ b, P' 115 b = P 115 b ∧ P' 116 b = P 116 b ∧ P' 117 b = P 117 b) (hw : ways' = ways) (hp : paces' = paces) : gBegin P' r wo ways' paces' = gBegin P r wo ways paces := by
  subst hw hp
  funext a b
  unfold gBegin
  by_cases a1 : a = 114
  · subst a1
    rw [if_pos rfl, if_pos rfl]
    by_cases b1 : b = 1 ∨ b = 5
    · rw [if_pos b1, if_pos b1]
      rcases b1 with b1 | b1 <;> rw [b1]
      · exact h1
      · exact h5
    · rw [if_neg b1, if_neg b1]
  · rw [if_neg a1, if_neg a1]
    by_cases a2 : a = 115 ∨ a = 116 ∨ a = 117
    · rw [if_pos a2, if_pos a2]
      rcases a2 with a2 | a2 | a2 <;> rw [a2]
      · exact (h b).1
      · exact (h b).2.1
      · exact (h b).2.2
    · rw [if_neg a2, if_neg a2, (h (3 * b + 2)).2.2]
theorem pdZ_fr {d c : Int} {w : Int → Int} {g0 : jMm} {t : Nat} {M M' : jMm} (Z : pdZ d c w g0 t M) (G : gGd w g0) (ht : t ≤ 100) (h : ∀ a b, d ≤ a → a < d + 26 → M' a b = M a b) : pdZ d c w g0 t M' := by
  have ok := ok_run (c := c) G.2 G.1 t ht
  have hk := ok.1.1.2.1
  have hn := ok.1.1.2.2.2.1
  refine pdZ_copy (e := d) Z ok.1 ⟨fun b _ _ => h _ _ (by omega) (by omega), fun j _ _ => h _ _ (by omega) (by omega), fun j _ _ => h _ _ (by omega) (by omega), fun j _ _ => h _ _ (by omega) (by omega), fun s s0 s1 => ⟨fun b _ _ => h _ _ (by omega) (by omega), fun b _ _ => h _ _ (by omega) (by omega)⟩, fun p p0 p1 b _ _ => h _ _ (by omega) (by omega)⟩
theorem iPl_G {P : jMm} (h : iPl P) : gGd (tw P) (gT P) := by
  obtain ⟨pl, h1, h2, h3, h4⟩ := h
  refine ⟨ok_begin pl h3 (fun s s0 s3 => h1 s s0 s3) (fun s s0 s1 => h2 s s0 s1), fun s s0 s3 => ?_⟩
  unfold tw
  split
  · exact wy_r
  · exact h1 s s0 s3
theorem plan_eq {M M' : jMm} (h : iFr M M') : (∀ b, (b < 9) → M' 114 b = M 114 b) ∧ (∀ b, M' 115 b = M 115 b ∧ M' 116 b = M 116 b ∧ M' 117 b = M 117 b) ∧ ∀ a b, a ≤ 20 → M' a b = M a b :=
  ⟨fun b hb => h _ _ (by unfold scr; omega), fun b => ⟨h _ _ (by unfold scr; omega), h _ _ (by unfold scr; omega), h _ _ (by unfold scr; omega)⟩, fun a b ha => h _ _ (by unfold scr; omega)⟩
theorem iPl_eq {P P' : jMm} (h : iPl P) (e : ∀ b, (b = 1 ∨ b = 3 ∨ b = 4 ∨ b = 5) → P' 114 b = P 114 b) (es : ∀ b, P' 115 b = P 115 b ∧ P' 116 b = P 116 b ∧ P' 117 b = P 117 b) : iPl P' := by
  have a1 : P' 115 = P 115 := funext fun b => (es b).1
  have a2 : P' 116 = P 116 := funext fun b => (es b).2.1
  have a3 : P' 117 = P 117 := funext fun b => (es b).2.2
  unfold iPl gPl at h ⊢
  rw [a1, a2, a3, e 1 (by decide), e 3 (by decide), e 4 (by decide), e 5 (by decide)]
  exact h
theorem pRel_eq {M M' P P' : jMm} (h : pRel M P) (em : ∀ a b, a ≤ 10 → (a ≠ 0) → M' a b = M a b) (e : ∀ b, (b = 1 ∨ b = 3 ∨ b = 4 ∨ b = 5) → P' 114 b = P 114 b) (es : ∀ b, P' 115 b = P 115 b ∧ P' 116 b = P 116 b ∧ P' 117 b = P 117 b) : pRel M' P' := by
  have a1 : P' 115 = P 115 := funext fun b => (es b).1
  have a2 : P' 116 = P 116 := funext fun b => (es b).2.1
  have a3 : P' 117 = P 117 := funext fun b => (es b).2.2
  have b1 : ∀ a, a ≤ 10 → a ≠ 0 → M' a = M a := fun a ha h0 => funext fun b => em a b ha h0
  unfold pRel at h ⊢
  rw [a1, a2, a3, e 1 (by decide), e 3 (by decide), e 4 (by decide), e 5 (by decide), b1 1 (by decide) (by decide), b1 3 (by decide) (by decide), b1 4 (by decide) (by decide), b1 5 (by decide) (by decide), b1 7 (by decide) (by decide), b1 8 (by decide) (by decide), b1 9 (by decide) (by decide), b1 10 (by decide) (by decide)]
  exact h
theorem gT_eq {P P' : jMm} (e : ∀ b, (b = 1 ∨ b = 3 ∨ b = 4 ∨ b = 5) → P' 114 b = P 114 b) (es : ∀ b, P' 115 b = P 115 b ∧ P' 116 b = P 116 b ∧ P' 117 b = P 117 b) : gT P' = gT P ∧ tw P' = tw P ∧ ∀ t b a, gWb P' t b a = gWb P t b a := by
  have a1 : P' 115 = P 115 := funext fun b => (es b).1
  have a2 : P' 116 = P 116 := funext fun b => (es b).2.1
  refine ⟨?_, ?_, fun t b a => ?_⟩
  · unfold gT
    rw [a1, a2]
    exact begin_eq (e 1 (by decide)) (e 5 (by decide)) es rfl rfl
  · funext s
    unfold tw
    rw [a2, e 3 (by decide), e 4 (by decide)]
  · unfold gWb
    rw [a1, a2, begin_eq (e 1 (by decide)) (e 5 (by decide)) es rfl rfl]
theorem gBk_eq {P P' : jMm} (e : ∀ b, (b = 1 ∨ b = 3 ∨ b = 4 ∨ b = 5) → P' 114 b = P 114 b) (es : ∀ b, P' 115 b = P 115 b ∧ P' 116 b = P 116 b ∧ P' 117 b = P 117 b) (t : Int) : gBk P' t = gBk P t ∧ gMn P' = gMn P := by
  have h := (gT_eq e es).2.2
  have e2 : gMn P' = gMn P := by unfold gMn; rw [e 1 (by decide)]
  refine ⟨?_, e2⟩
  unfold gBk
  rw [e2]
  have : (fun k => gWb P' t (k / gMn P) (k % gMn P)) = (fun k => gWb P t (k / gMn P) (k % gMn P)) := funext fun k => h _ _ _
  rw [this]
/-- with the plan as it was -/
theorem Inv_same {M M' : jMm} (I : Inv M) (e : ∀ b, (b = 1 ∨ b = 3 ∨ b = 4 ∨ b = 5) → M' 114 b = M 114 b) (es : ∀ b, M' 115 b = M 115 b ∧ M' 116 b = M 116 b ∧ M' 117 b = M 117 b) (em : ∀ a b, a ≤ 10 → (a ≠ 0) → M' a b = M a b) (hk : iKept M') (ht : iTape M') (hs : ∀ s, 0 ≤ s → s < 4 → iSheet M' s) (hr : (M' 0 8 = M 0 8 ∧ ∀ a b, 28 ≤ a → a < 54 → M' a b = M a b) ∨ (M' 0 8 = 1 ∧ pdZ 28 (M 114 3) (tw M) (gT M) 100 M')) (hb : (∀ b, 9 ≤ b → b ≤ 12 → M' 0 b = M 0 b) ∨ iBest M') : Inv M' := by
  obtain ⟨⟨pl, rl⟩, -, -, -, ru, be⟩ := I
  have g := gT_eq e es
  refine ⟨⟨iPl_eq pl e es, pRel_eq rl em e es⟩, hk, ht, hs, ?_, ?_⟩
  · unfold iRun at ru ⊢
    rw [g.1, g.2.1, e 3 (by decide)]
    rcases hr with ⟨h8, hf⟩ | ⟨h8, Z⟩
    · rw [h8]
      exact ⟨ru.1, fun z => pdZ_fr (ru.2 z) (iPl_G pl) (Nat.le_refl _) (fun a b h1 h2 => hf a b h1 h2)⟩
    · exact ⟨.inr h8, fun _ => Z⟩
  · rcases hb with hb | hb
    · unfold iBest at be ⊢
      rw [hb 9 (by decide) (by decide), hb 10 (by decide) (by decide), hb 11 (by decide) (by decide), hb 12 (by decide) (by decide), (gBk_eq e es _).1, (gBk_eq e es 0).2, g.2.2]
      exact be
    · exact hb
theorem iKept_eq {M M' : jMm} (h : iKept M) (h0 : M' 0 2 = M 0 2) (h39 : M' 114 39 = M 114 39) (h1 : ∀ a b, 11 ≤ a → a ≤ 20 → M' a b = M a b) (h2 : ∀ b, M' 139 b = M 139 b) : iKept M' := by
  have e1 : kpM M' = kpM M := by
    funext a b
    unfold kpM
    rw [h1 11 _ (by decide) (by decide), h1 13 _ (by decide) (by decide), h1 14 _ (by decide) (by decide), h1 15 _ (by decide) (by decide), h1 17 _ (by decide) (by decide), h1 18 _ (by decide) (by decide), h1 19 _ (by decide) (by decide), h1 20 _ (by decide) (by decide)]
  have e2 : imP M' = imP M := by
    funext a b
    unfold imP
    simp only [h2]
  unfold iKept at h ⊢
  rw [e1, e2, h0, h39]
  exact h
theorem iTape_eq {M M' : jMm} (h : iTape M) (h8 : M' 114 8 = M 114 8) (h1 : M' 21 1 = M 21 1) (h2 : ∀ b, M' 22 b = M 22 b) (h3 : ∀ b, M' 118 b = M 118 b) : iTape M' := by
  unfold iTape at h ⊢
  simp only [h8, h1, h2, h3]
  exact h
theorem iSheet_eq {M M' : jMm} {s : Int} (h : iSheet M s) (h1 : ∀ b, M' (106 + 2 * s) b = M (106 + 2 * s) b) (h2 : ∀ b, M' (107 + 2 * s) b = M (107 + 2 * s) b) (h0 : M' 140 s = M 140 s) (h4 : M' 141 s = M 141 s) (h3 : ∀ i, 0 ≤ i → i < 16 → M' 142 (16 * s + i) = M 142 (16 * s + i)) : iSheet M' s := by
  obtain ⟨a, b, c, d, e⟩ := h
  unfold iSheet
  rw [h1, h1, h1, h0, h4]
  refine ⟨a, b, c, d, fun i i0 i1 => ?_⟩
  rw [h2, h3 i i0 i1]; exact e i i0 i1
theorem Inv_fr {M M' : jMm} (I : Inv M) (h : iFr M M') : Inv M' := by
  have n : ∀ k j, ¬ scr k j → M' k j = M k j := h
  refine Inv_same I (fun b hb => n _ _ (by unfold scr; omega)) (fun b => ⟨n _ _ (by unfold scr; omega), n _ _ (by unfold scr; omega), n _ _ (by unfold scr; omega)⟩) (fun a b ha _ => n _ _ (by unfold scr; omega)) (iKept_eq I.2.1 (n _ _ (by unfold scr; omega)) (n _ _ (by unfold scr; omega)) (fun a b _ _ => n _ _ (by unfold scr; omega)) (fun b => n _ _ (by unfold scr; omega))) (iTape_eq I.2.2.1 (n _ _ (by unfold scr; omega)) (n _ _ (by unfold scr; omega)) (fun b => n _ _ (by unfold scr; omega)) (fun b => n _ _ (by unfold scr; omega))) (fun s s0 s4 => iSheet_eq (I.2.2.2.1 s s0 s4) (fun b => n _ _ (by unfold scr; omega)) (fun b => n _ _ (by unfold scr; omega)) (n _ _ (by unfold scr; omega)) (n _ _ (by unfold scr; omega)) (fun i _ _ => n _ _ (by unfold scr; omega))) (.inl ⟨n _ _ (by unfold scr; omega), fun a b _ _ => n _ _ (by unfold scr; omega)⟩) (.inl (fun b _ _ => n _ _ (by unfold scr; omega)))
/-- with the plan told anew -/
theorem Inv_anew {M M' : jMm} (I : Inv M) (pl : iPl M') (rl : pRel M' M') (h8 : M' 0 8 = 0) (h9 : M' 0 9 = 0) (h0 : M' 0 2 = M 0 2) (h : ∀ a b, (11 ≤ a ∧ a < 27) ∨ (106 ≤ a ∧ a < 114) ∨ (118 ≤ a) ∨ (a = 114 ∧ (b = 8 ∨ b = 39)) → M' a b = M a b) : Inv M' := by
  refine ⟨⟨pl, rl⟩, iKept_eq I.2.1 h0 (h _ _ (by omega)) (fun a b _ _ => h _ _ (by omega)) (fun b => h _ _ (by omega)), iTape_eq I.2.2.1 (h _ _ (by omega)) (h _ _ (by omega)) (fun b => h _ _ (by omega)) (fun b => h _ _ (by omega)), fun s s0 s4 => iSheet_eq (I.2.2.2.1 s s0 s4) (fun b => h _ _ (by omega)) (fun b => h _ _ (by omega)) (h _ _ (by omega)) (h _ _ (by omega)) (fun i _ _ => h _ _ (by omega)), ⟨.inl h8, fun z => by rw [h8] at z; exact absurd z (by decide)⟩, fun z => absurd h9 z⟩
