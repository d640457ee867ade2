/-! the making: new int[n][k] -/
def yMk (s : yS) (n k : Nat) : Option (Int × yS) := if s.1.length + 1 + n ≤ 144 ∧ s_kind (s.1.length : Int) = 9 ∧ 1 + n ≤ s.2.1 ∧ n + n * k ≤ s.2.2 then some ((s.1.length : Int), (s.1 ++ ((9, (List.range n).map (fun (i : Nat) => ((s.1.length + 1 + i : Nat) : Int))) :: List.replicate n (8, List.replicate k 0)), s.2.1 - (1 + n), s.2.2 - (n + n * k))) else none
def yMna (a b : yEx) : yEx := fun L s => (a L s).bind fun r => (b L r.2).bind fun q => if 0 ≤ r.1 ∧ r.1 < 100 ∧ 0 ≤ q.1 ∧ q.1 < 100 then yMk q.2 r.1.toNat q.1.toNat else none
theorem y_outer (c : ClassId) (N h0 : Nat) : ∀ i : Nat, Jvm.Free.Multi.outerC c N h0 i = arrV c N (fun j => if j < i then .ref (h0 + 1 + j) else .null)
  | 0 => by
    show ({ cls := c, slots := Array.replicate N .null, vm := .none } : Cell) = _
    rw [arrV_new]
    refine congrArg (arrV c N) (funext fun j => ?_)
    simp
  | i + 1 => by
    show (Jvm.Free.Multi.outerC c N h0 i).setSlot i (.ref (h0 + 1 + i)) = _
    rw [y_outer c N h0 i, arrV_store]
    refine congrArg (arrV c N) (funext fun j => ?_)
    by_cases e : j = i
    · subst e
      simp [updV]
    · by_cases h : j < i
      · simp [updV, e, h, Nat.lt_succ_of_lt h]
      · simp [updV, e, h, show ¬ j < i + 1 by omega]
theorem yE_mna {K : jKm} {G : jCt} {d d2 pc p1 p2 p ix : Nat} {a b : yEx} (ha : yE K G d pc p1 20 a) (hb0 : yE K G d2 p1 p2 20 b) (hd : decode (kmC K) p2 = .ok (.multianewarray ix 2, 4)) (hp : p = p2 + 4) (hw : Cond.classLink (kmY K).cls ix "[[I" ∈ tG ∧ Cond.arrayClass .int ∈ tG) (hd2 : d2 = d + 1) : yE K G d pc p 9 (yMna a b) := by
  subst hp; subst hd2
  intro z X hO L s v s' ls st hV hc hq hk
  obtain ⟨⟨x, s1⟩, hq1, hq⟩ := Option.bind_eq_some_iff.mp hq
  obtain ⟨⟨y, s2⟩, hq2, hq⟩ := Option.bind_eq_some_iff.mp hq
  dsimp only at hq hq1 hq2
  by_cases hB : 0 ≤ x ∧ x < 100 ∧ 0 ≤ y ∧ y < 100
  · rw [if_pos hB] at hq
    unfold yMk at hq
    by_cases hC : s2.1.length + 1 + x.toNat ≤ 144 ∧ s_kind (s2.1.length : Int) = 9 ∧ 1 + x.toNat ≤ s2.2.1 ∧ x.toNat + x.toNat * y.toNat ≤ s2.2.2
    · rw [if_pos hC] at hq
      obtain ⟨rfl, rfl⟩ := Prod.mk.inj (Option.some.inj hq)
      obtain ⟨c1, c2, c3, c4⟩ := hC
      have htk : jtk 9 (s2.1.length : Int) := (jtkr (by decide)).mpr ⟨by omega, by show (s2.1.length : Int) < 144; omega, c2⟩
      refine ha z X hO L s x s1 ls st hV hc hq1 (fun hx1 => ?_)
      refine hb0 z X hO L s1 y s2 ls _ hV (cats_push hc) hq2 (fun hy1 => ?_)
      have hx1 := jtk20.mp hx1
      have hy1 := jtk20.mp hy1
      rw [jcv20, jcv20]
      have hG := hk htk
      have had := fun hz => y_ad (z := z) (T := 9) hz (by decide) htk
      obtain ⟨p, l, e, R, s0, m, args, below, meth, c, ce, sl, Qf⟩ := X
      obtain ⟨hz, hKs, hx, hb, hml, hown, hts, -⟩ := yO_facts hO
      intro H locs hI hL g1 g2
      have clx := clamp32 hB.1 hx1
      have cly := clamp32 hB.2.2.1 hy1
      have hlen := y_len hI
      have hz9 := hz
      intro T hT Xs
      obtain ⟨vm₁, cA, comp, -, fA, fC, hOc, -, X', step⟩ := Xs.multianewarray2F hx (ty := .int) hown (hts _ hw.1) hKs.2.2.2.2.2 (hts _ hw.2) (g := F0 m p2 ls (.int (Int32.ofInt y) :: .int (Int32.ofInt x) :: st)) rfl (by rw [hb]; exact hd) rfl (neg32 hB.1 hx1) (neg32 hB.2.2.1 hy1) (by rw [clx]; omega) (by rw [cly]; show y.toNat * 4 ≤ 536870912; omega) (by rw [cly]; omega) rfl rfl (by rw [clx]; omega) (by rw [clx, cly]; omega)
      have hcA : cA = z.2.2.2 9 := Option.some.inj (fA.symm.trans (hKs.2.1 9 (by decide) (by decide)))
      have hcI : comp = z.2.2.2 8 := Option.some.inj (fC.symm.trans (hKs.2.1 8 (by decide) (by decide)))
      subst hcA; subst hcI
      rw [clx, cly] at X' step
      generalize hF : Jvm.Free.Multi.fill (T.setVm vm₁) (z.2.2.2 9) (z.2.2.2 8) x.toNat y.toNat (defaultValue .int) x.toNat = F at X' step
      have hTh : (T.setVm vm₁).heap = H := hT
      obtain ⟨f1, f2, -, -⟩ := Jvm.Free.Multi.fill_facts (T.setVm vm₁) (z.2.2.2 9) (z.2.2.2 8) x.toNat y.toNat (defaultValue .int) x.toNat
      rw [hF, hTh] at f1 f2
      have hold : ∀ q : Nat, q < H.size → F.heap[q]? = H[q]? := fun q hq => by
        have := Jvm.Free.Multi.fill_old (T.setVm vm₁) (z.2.2.2 9) (z.2.2.2 8) x.toNat y.toNat (defaultValue .int) (a := q) (by rw [hTh]; exact hq) x.toNat
        rw [hF, hTh] at this
        exact this
      have hrow : ∀ j : Nat, j < x.toNat → F.heap[H.size + 1 + j]? = some (Jvm.Free.Multi.innerC (z.2.2.2 8) y.toNat (defaultValue .int)) := fun j hj => by
        have := Jvm.Free.Multi.fill_inner (T.setVm vm₁) (z.2.2.2 9) (z.2.2.2 8) x.toNat y.toNat (defaultValue .int) x.toNat j hj
        rw [hF, hTh] at this
        exact this
      rw [y_outer] at f2
      have hin : ∀ A : List Int, A = List.replicate y.toNat 0 → Jvm.Free.Multi.innerC (z.2.2.2 8) y.toNat (defaultValue .int) = arrV (z.2.2.2 8) A.length (fun j => ySv z 8 j (A.getD j 0)) := by
        intro A hA
        subst hA
        show ({ cls := z.2.2.2 8, slots := Array.replicate y.toNat (.int 0), vm := .none } : Cell) = _
        rw [arrV_new, List.length_replicate]
        refine congrArg (arrV (z.2.2.2 8) y.toNat) (funext fun j => ?_)
        have hg : (List.replicate y.toNat (0 : Int)).getD j 0 = 0 := by
          rw [List.getD_eq_getElem?_getD, List.getElem?_replicate]; split <;> rfl
        rw [hg, ySv_i (show yRf 8 _ = false from rfl)]
        rfl
      have hout : arrV (z.2.2.2 9) x.toNat (fun j => if j < x.toNat then Value.ref (H.size + 1 + j) else .null) = arrV (z.2.2.2 9) ((List.range x.toNat).map (fun (i : Nat) => ((s2.1.length + 1 + i : Nat) : Int))).length (fun j => ySv z 9 j (((List.range x.toNat).map (fun (i : Nat) => ((s2.1.length + 1 + i : Nat) : Int))).getD j 0)) := by
        rw [List.length_map, List.length_range]
        unfold arrV
        congr 1
        refine Array.ext (by simp) (fun j h1 h2 => ?_)
        have hj : j < x.toNat := by simpa using h1
        simp only [Array.getElem_ofFn]
        rw [if_pos hj, List.getD_eq_getElem?_getD, List.getElem?_map, List.getElem?_range hj]
        show Value.ref (H.size + 1 + j) = ySv z 9 j ((s2.1.length + 1 + j : Nat) : Int)
        rw [ySv_r (show yRf 9 _ = true from rfl) (by omega), hz9 (s2.1.length + 1 + j) (by omega), hlen]
        rw [show z.2.2.1.size + s2.1.length + 1 + j = z.2.2.1.size + (s2.1.length + 1 + j) by omega]
      have hIn : yI z (s2.1 ++ ((9, (List.range x.toNat).map (fun (i : Nat) => ((s2.1.length + 1 + i : Nat) : Int))) :: List.replicate x.toNat (8, List.replicate y.toNat 0))) F.heap := by
        obtain ⟨i1, i2, i3, i4⟩ := hI
        refine ⟨by rw [f1, i1, List.length_append, List.length_cons, List.length_replicate]; omega, fun q hq => by rw [hold q (by omega)]; exact i2 q hq, fun j q hj => ?_, fun j q hj => ?_⟩
        · rcases Nat.lt_or_ge j s2.1.length with h | h
          · rw [List.getElem?_append_left h] at hj
            obtain ⟨cell, q1, q2⟩ := i3 j q hj
            exact ⟨cell, by rw [hold _ (by omega)]; exact q1, q2⟩
          · rw [List.getElem?_append_right h] at hj
            by_cases e : j = s2.1.length
            · subst e
              rw [Nat.sub_self] at hj
              have hj := Option.some.inj hj
              subst hj
              exact ⟨_, by rw [← i1]; exact f2, rfl, fun g => by have : 9 < 8 := g; omega, fun _ => hout⟩
            · have e2 : j - s2.1.length = (j - s2.1.length - 1) + 1 := by omega
              rw [e2, List.getElem?_cons_succ] at hj
              have hjl := (List.getElem?_eq_some_iff.mp hj).1
              rw [List.length_replicate] at hjl
              rw [List.getElem?_replicate, if_pos hjl] at hj
              have hj := Option.some.inj hj
              subst hj
              have hr := hrow (j - s2.1.length - 1) hjl
              rw [show H.size + 1 + (j - s2.1.length - 1) = z.2.2.1.size + j by omega] at hr
              exact ⟨_, hr, rfl, fun g => by have : 8 < 8 := g; omega, fun _ => hin _ rfl⟩
        · rcases Nat.lt_or_ge j s2.1.length with h | h
          · rw [List.getElem?_append_left h] at hj
            exact i4 j q hj
          · rw [List.getElem?_append_right h] at hj
            rcases List.mem_cons.mp (List.mem_of_getElem? hj) with e | e
            · subst e
              refine ⟨by show 9 < 13; omega, fun v hv => ?_⟩
              obtain ⟨i, hi, rfl⟩ := List.mem_map.mp hv
              have := List.mem_range.mp hi
              exact ⟨by omega, by omega⟩
            · rw [(List.mem_replicate.mp e).2]
              refine ⟨by show 8 < 13; omega, fun v hv => ?_⟩
              rw [(List.mem_replicate.mp hv).2]
              exact ⟨by decide, by decide⟩
      have hG1 := hG F.heap locs hIn hL (by show s2.2.1 - (1 + x.toNat) ≤ R.cells; omega) (by show s2.2.2 - (x.toNat + x.toNat * y.toNat) ≤ R.slots; omega)
      rw [jcvr (by decide), had hz, Int.toNat_natCast, ← hlen] at hG1
      dsimp only at hG1
      rw [show R.cells - (s2.2.1 - (1 + x.toNat)) = R.cells - s2.2.1 + 1 + x.toNat by omega, show R.slots - (s2.2.2 - (x.toNat + x.toNat * y.toNat)) = R.slots - s2.2.2 + x.toNat + x.toNat * y.toNat by omega] at hG1
      obtain ⟨t, a1, b1⟩ := hG1 F rfl X'
      refine ⟨t, step t ?_, b1⟩
      have e9 : T.heap.size = H.size := by rw [hT]
      rw [e9]
      exact a1
    · rw [if_neg hC] at hq; cases hq
  · rw [if_neg hB] at hq; cases hq
