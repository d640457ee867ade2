/-! from the law's entry to the words alone -/
theorem y_jstat {z : jZ} {s : State} {b : Nat} (hH : z.2.2.1 = s.heap) (hts : ∀ w ∈ lw_tbl, w.before #[Value.ref b] s = true) (hgv : (Jvm.Cond.and given_1 narrow_1).before #[Value.ref b] s = true) (n : Nat) (hn : n < 9) : jStat z s n := by
  have hs := flat_of_before _ hgv
  have hc : ∀ w ∈ y_sC n, w.before #[Value.ref b] s = true := fun w hw => hs w (y_sC_in n hn w hw)
  have h9 : ∀ n : Nat, n < 9 → (0 ≤ s_slen n ∧ s_slen n < 100) := by decide +kernel
  obtain ⟨g0, g1⟩ := h9 n hn
  have e : (((s_slen n).toNat : Nat) : Int) = s_slen n := by omega
  obtain ⟨t, ht, cell, q1, q2, q3, q4, q5, q6, -⟩ := va_Tof (A := fun q => s.heap.size ≤ q) (N := (s_slen n).toNat) (f := fun (j : Nat) => .int (Int32.ofInt (s_sv n (j : Int)))) (by omega) (hc _ List.mem_cons_self) (va_eqt (hc _ (List.mem_cons_of_mem _ List.mem_cons_self))) (fun j hj => va_eqt (hc _ (List.mem_cons_of_mem _ (List.mem_cons_of_mem _ (List.mem_map.mpr ⟨j, List.mem_range.mpr hj, rfl⟩))))) (fun a ha => Nat.not_le.mpr ha)
  refine ⟨t, cell, ?_, by rw [hH]; exact q1, q2, q3, ⟨by omega, ?_⟩, fun j hj => q6 j (by omega)⟩
  · rw [hH]; exact va_Zof (hts _ (y_sL_in n hn)) (hts _ y_misc_in.2.2.2.2.2.2.2.2.2) ht (fun a ha => Nat.not_le.mpr ha)
  · rw [q5]
    show Int32.ofInt (((s_slen n).toNat : Nat) : Int) = Int32.ofInt (s_slen n)
    rw [e]
set_option maxHeartbeats 4000000 in
set_option maxRecDepth 100000 in
theorem whole_start {p : Program} {e : Env} {s : State} {m : MethodId} {below : List Frame} {meth : Method} {c : Code} (l : Launch) (hflags : l.flags = flags0) {b L : Nat} {xs : Nat → Int32} (hL : L ≤ 3072) (C0 : lw_At p s m meth c b L xs) : W p l e room_1 s m #[Value.ref b] below meth c s.heap [] 0 0 (lw_Z below #[Value.ref b] s) (entryFrame m ([Value.ref b] : List Value).toArray 4) := by
  obtain ⟨hx, hb, hr, hml, hown, hts, hX, hbl, hlocks, hgv⟩ := id C0
  have hs := flat_of_before _ hgv
  have hkn : ∀ c : Nat, ∃ q : ClassId × (Nat → Nat), c < 8 → u_Kn s (c_R c) (c_T c) (c_N c) q.1 q.2 := fun c => by
    by_cases h : c < 8
    · obtain ⟨a, i, hK⟩ := u_known hts (y_lays c h) (hts _ (y_inst c h))
      exact ⟨(a, i), fun _ => hK⟩
    · exact ⟨(0, fun _ => 0), fun q => absurd q h⟩
  obtain ⟨dc, hdc⟩ := Classical.axiomOfChoice hkn
  have har : ∀ c : Nat, ∃ a : ClassId, 8 ≤ c → c < 13 → ArrOfT s a (jaty c) ∧ s.vm.findClass ("[" ++ (jaty c).toString) = some a := fun c => by
    by_cases h : 8 ≤ c ∧ c < 13
    · obtain hc | hc | hc | hc | hc : c = 8 ∨ c = 9 ∨ c = 10 ∨ c = 11 ∨ c = 12 := by omega
      · subst hc
        obtain ⟨a, k, comp, f1, f2, f3⟩ := Cond.arrayClass_spec (hts _ y_misc_in.2.1)
        exact ⟨a, fun _ _ => ⟨fun N z => ⟨fun k h => (by cases h), k, f2, comp, f3⟩, f1⟩⟩
      · subst hc
        obtain ⟨comp, a, k, f0, f1, f2, f3, f4⟩ := arrayOverA_spec (t := .int) (hts _ y_misc_in.1)
        exact ⟨a, fun _ _ => ⟨fun N z => ⟨fun k h => (by cases h), k, f2, comp, f3⟩, f4⟩⟩
      · subst hc
        obtain ⟨comp, a, k, f0, f1, f2, f3, f4⟩ := Cond.arrayOver_spec (hts _ y_misc_in.2.2.2.1)
        exact ⟨a, fun _ _ => ⟨fun N z => ⟨fun k h => (by cases h), k, f2, comp, f3⟩, f4⟩⟩
      · subst hc
        obtain ⟨comp, a, k, f0, f1, f2, f3, f4⟩ := Cond.arrayOver_spec (hts _ y_misc_in.2.2.2.2.1)
        exact ⟨a, fun _ _ => ⟨fun N z => ⟨fun k h => (by cases h), k, f2, comp, f3⟩, f4⟩⟩
      · subst hc
        obtain ⟨comp, a, k, f0, f1, f2, f3, f4⟩ := Cond.arrayOver_spec (hts _ y_misc_in.2.2.1)
        exact ⟨a, fun _ _ => ⟨fun N z => ⟨fun k h => (by cases h), k, f2, comp, f3⟩, f4⟩⟩
    · exact ⟨0, fun q1 q2 => absurd ⟨q1, q2⟩ h⟩
  obtain ⟨ac, hac⟩ := Classical.axiomOfChoice har
  have hA : ∀ a : Nat, a < s.heap.size → ¬ (s.heap.size ≤ a) := fun a ha => Nat.not_le.mpr ha
  have ht2 : ∀ w ∈ y_tC, w.before #[Value.ref b] s = true := fun w hw => hs w (y_tC_in w hw)
  have two : ∀ i : Nat, i < 2 → i = 0 ∨ i = 1 := fun i hi => by omega
  obtain ⟨adK, adV, hSt, hSe⟩ := vk_Sof (args := #[Value.ref b]) (s := s) (N := 2) (tm := y_tm) (len := tx_len) (byt := tx_byt) (A := fun q => s.heap.size ≤ q)
    (fun i hi => by rcases two i hi with rfl | rfl <;> decide)
    (fun i hi => by
      rcases two i hi with rfl | rfl
      · exact ht2 _ (List.mem_of_getElem? (i := 0) rfl)
      · exact ht2 _ (List.mem_of_getElem? (i := 1) rfl))
    (fun i hi => by
      rcases two i hi with rfl | rfl
      · exact ht2 _ (List.mem_of_getElem? (i := 2) rfl)
      · exact ht2 _ (List.mem_of_getElem? (i := 3) rfl))
    (fun i hi => by
      rcases two i hi with rfl | rfl
      · exact ht2 _ (List.mem_of_getElem? (i := 4) rfl)
      · exact ht2 _ (List.mem_of_getElem? (i := 5) rfl))
    (fun i hi => by
      rcases two i hi with rfl | rfl
      · exact ht2 _ (List.mem_of_getElem? (i := 6) rfl)
      · exact ht2 _ (List.mem_of_getElem? (i := 7) rfl))
    (fun i hi j hj => hs _ (y_tE_in i hi j hj))
    (fun i j hi hj hij => by
      rcases two i hi with rfl | rfl <;> rcases two j hj with rfl | rfl
      · exact absurd rfl hij
      · exact y_tN_in.imp (fun h => hs _ h) (fun h => hs _ h)
      · exact y_tN_in.symm.imp (fun h => hs _ h) (fun h => hs _ h)
      · exact absurd rfl hij) hA
  obtain ⟨ad, had⟩ : ∃ ad : Int → Nat, ad = fun k => if k < 144 then s.heap.size + k.toNat else if k = 148 then b else if k < 146 then adK (k - 144).toNat else adV (k - 146).toNat := ⟨_, rfl⟩
  have hadK : ∀ i : Nat, i < 2 → ad (144 + i) = adK i := fun i hi => by
    rw [had]; dsimp only
    rw [if_neg (by omega), if_neg (by omega), if_pos (by omega)]
    congr 1; omega
  have hadV : ∀ i : Nat, i < 2 → ad (146 + i) = adV i := fun i hi => by
    rw [had]; dsimp only
    rw [if_neg (by omega), if_neg (by omega), if_neg (by omega)]
    congr 1; omega
  have hadX : ad 148 = b := by rw [had]; rfl
  obtain ⟨z, hzd⟩ : ∃ z : jZ, z = ((fun c => (dc c).1, fun c => (dc c).2), ad, s.heap, ac) := ⟨_, rfl⟩
  have hz : yWz z := fun k hk => by
    rw [hzd, had]; dsimp only
    rw [if_pos (by omega), Int.toNat_natCast]
  have hz1 : z.2.2.1 = s.heap := by rw [hzd]
  have hK : jK z s := by
    refine ⟨⟨fun c q hq => ?_, fun k q h => by simp at h⟩, fun c h1 h2 => by rw [hzd]; exact (hac c h1 h2).1, fun w hw => va_Nw.of (y_nest_ok w hw) (hts _ (List.mem_filter.mp hw).1), fun n hn => y_jstat hz1 hts hgv n hn, ?_, ?_, ?_, ?_⟩
    · have hc : c < 8 := (List.getElem?_eq_some_iff.mp hq).1
      rw [c_at hc] at hq
      rw [← Option.some.inj hq, hzd]
      exact hdc c hc
    · rw [hzd]; dsimp only
      refine ⟨fun i hi => ?_, fun i j hi hj he => ?_⟩
      · dsimp only; rw [hadK i hi, hadV i hi]; exact hSt.1 i hi
      · dsimp only at he; rw [hadK i hi, hadK j hj] at he; exact hSt.2 i j hi hj he
    · have h := hSe 0 (by decide)
      rw [← hadK 0 (by decide)] at h
      rw [hzd]
      exact vk_R.of (hts _ y_misc_in.2.2.2.2.2.1) h
    · have h := hSe 1 (by decide)
      rw [← hadK 1 (by decide)] at h
      rw [hzd]
      exact vk_R.of (hts _ y_misc_in.2.2.2.2.2.2.1) h
    · rw [hz1]
      exact va_Zof (hts _ y_misc_in.2.2.2.2.2.2.2.1) (hts _ y_misc_in.2.2.2.2.2.2.2.2.1) (va_eqt (hs _ y_cs_in)) hA
  have hKs : yKs z s := ⟨hK, fun c h1 h2 => by rw [hzd]; exact (hac c h1 h2).2, va_AO.of (hts _ y_misc_in.2.2.2.1), va_AO.of (hts _ y_misc_in.2.2.2.2.1), va_AO.of (hts _ y_misc_in.2.2.1), hts _ y_misc_in.1⟩
  have hsc : jScr z s L xs := by
    obtain ⟨scr, r1, r2, r3, r4, r5⟩ := hX
    exact ⟨scr, by rw [hzd]; dsimp only; rw [hadX]; exact r1, r2, r3, r4, r5⟩
  have htg : ∀ w ∈ tG, w.before #[Value.ref b] s = true := fun w hw => hts _ (List.mem_filter.mp hw).1
  have hl := lv_entry ([.ref b]) (n := 4) (Nat.le_of_ble_eq_true rfl)
  rw [lg_entry_eq]
  generalize (lg_sl ([.ref b]) ++ List.replicate (4 - (lg_sl ([.ref b])).length) Slot.unset).toArray = ls at hl ⊢
  have hl : lv_has ls 4 [(0, .ref b)] := hl
  have hV : jV (k_law L xs) z [(0, 28)] (fun i => if i = 0 then 148 else 0) ls := by
    refine ⟨hl.1, hl.2.1, fun q hq => ?_⟩
    rw [List.mem_singleton.mp hq]
    refine ⟨?_, rfl⟩
    have h := hl.2.2 (0, .ref b) List.mem_cons_self
    have e : jcv z 28 148 = .ref b := by
      show Value.ref (z.2.1 148) = .ref b
      rw [hzd]; dsimp only; rw [hadX]
    show ls[0]? = some (.val (jcv z 28 148))
    rw [e]; exact h
  have hI0 : yI z [] s.heap := ⟨by rw [hz1]; rfl, fun q hq => by rw [hz1], fun k q h => by simp at h, fun k q h => by simp at h⟩
  have hown' : s.vm.findClass (kmY (k_law L xs)).cls = some m.cls := hown
  have hO : yO (k_law L xs) z (p, l, e, room_1, s, m, #[Value.ref b], below, meth, c, 0, 0, lw_Z below #[Value.ref b] s) :=
    ⟨hz, hKs, hx, hb, hml, hown', htg, y_room3, y_room4, hsc, fun h => absurd h (by show ¬ (x.name = "<init>"); decide +kernel)⟩
  refine y_run hO hV hI0 (fun L1 ls' c1 c2 H locs e1 e2 e0 eA hV' hI hLoc => ?_)
  have hJ := y_turn hz y_A_ok eA hI
  have hP := pure_law (xs := xs) hL e0 e1 e2
  clear eA hI
  generalize yMem y_A = M0 at hJ hP
  obtain ⟨ce, hce⟩ : ∃ ce, ce = room_1.cells - c1 := ⟨_, rfl⟩
  obtain ⟨sl, hsl⟩ : ∃ sl, sl = room_1.slots - c2 := ⟨_, rfl⟩
  rw [← hce, ← hsl]
  have g1 : ce ≤ room_1.cells := by rw [hce]; exact Nat.sub_le _ _
  have g2 : sl ≤ room_1.slots := by rw [hsl]; exact Nat.sub_le _ _
  have g3 : ce ≤ 600000 := by rw [hce]; exact y_room5 _
  have g4 : sl ≤ 7302250 := by rw [hsl]; exact y_room6 _
  have hjO : jO (k_law L xs) z (p, l, e, room_1, s, m, #[Value.ref b], below, meth, c, ce, sl, lw_Z below #[Value.ref b] s) := ⟨y_wz hz, hK, hx, hb, hml, hown', htg, y_room3, y_room4, g1, g2, hsc⟩
  have hS := law_S (xs := xs) hL z _ hjO L1 M0 (fun _ _ => False) (fun v _ => v = 1) ls' hV' hP (fun _ _ _ _ h => absurd h id) (fun pr ls2 v M' hd hv hR => by
    have hR : v = 1 := hR
    subst hR
    rw [y_ret1]
    intro H2 locs2 hI2 hL2
    refine W.widen (k := 600000) (n := 7302250) g3 g4 ?_
    refine va_forget (fun q hq => by have := hL2 q hq; rw [hz1] at this; exact this) ?_
    exact lw_ret hx hb hr hlocks (y_retD hd))
  exact hS H locs hJ hLoc
