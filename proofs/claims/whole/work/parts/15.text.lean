/-! the two texts and String.indexOf(int) over them -/
def xStuck : jEx := fun _ _ _ => False
def tLen (k : Int) : Int := if k = 146 then 2 else 5
def tByte (k x : Int) : Int := ((tx_byt.getD (k - 146).toNat []).getD x.toNat 0).toInt
def xTb (o i : jEx) : jEx := fun L M Q => o L M fun k M => i L M fun x M => (0 ≤ x ∧ x < tLen k) ∧ Q (tByte k x) M
def tRetB (e : jEx) : jSt := fun L M _ R => e L M fun v M => v = 0 ∧ R v M
theorem jE_stuck {K : jKm} {G : jCt} {d pc p T : Nat} : jE K G d pc p T xStuck := by
  intro z X hO L M Q ls st hV hc hq hk
  exact absurd hq id
theorem jE_ldcS {K : jKm} {G : jCt} {d pc p ix : Nat} {n : Int} (hd : decode (kmC K) pc = .ok (.ldc ix, 2)) (hp : p = pc + 2) (hown : (kmY K).cls = RX5) (hn : (ix = 45 ∧ n = 144) ∨ (ix = 55 ∧ n = 145)) : jE K G d pc p 24 (xC n) := by
  subst hp
  intro z X hO L M Q ls st hV hc hq hk
  obtain ⟨p, l, e, R, s, m, args, below, meth, c, ce, sl, Qf⟩ := X
  obtain ⟨hz, hKs, hx, hb, -, hown2, hts, -⟩ := jO_facts hO
  obtain ⟨-, h1, h2, -⟩ := hKs.2.2.2.2
  rw [hown] at hown2
  intro H locs hI hL
  rcases hn with ⟨rfl, rfl⟩ | ⟨rfl, rfl⟩
  · exact va_ldcS hx hb hown2 h1 hd (hk 144 M (Or.inl rfl) hq H locs hI hL)
  · exact va_ldcS hx hb hown2 h2 hd (hk 145 M (Or.inr rfl) hq H locs hI hL)
theorem jcvS {z : jZ} {T : Nat} {x : Int} (h : T = 24 ∨ T = 25) : jcv z T x = .ref (z.2.1 x) := by
  rcases h with h | h <;> subst h <;> rfl
theorem jE_aloadS {K : jKm} {G : jCt} {d pc p i T : Nat} {k : Fin 4} (hd : decode (kmC K) pc = .ok (.aload_n k, 1)) (hi : (k : Nat) = i) (hp : p = pc + 1) (hm : (i, T) ∈ G) (hT : T = 24 ∨ T = 25) : jE K G d pc p T (xV i) := by
  subst hp
  intro z X hO L M Q ls st hV hc hq hk
  have h := hk _ M (hV.2.2 _ hm).2 hq
  have h2 := (hV.2.2 _ hm).1
  dsimp only at h h2
  rw [jcvS hT] at h h2
  exact jstep hO (fun p l e R s m args below meth c ce sl Qf H locs _ hx hb k => lv_aload_n hx hb hd hi h2 k) h
theorem tx_kept {z : jZ} {M : jMm} {H : Heap} {a : Nat} {cell : Cell} (hI : jI z M H) (h : z.2.2.1[a]? = some cell) : H[a]? = some cell := by
  rw [hI.2.1 a (Array.getElem?_eq_some_iff.mp h).1]; exact h
theorem tx24 {v : Int} (h : jtk 24 v) : ∃ i : Nat, i < 2 ∧ v = 144 + (i : Int) := by
  have h : v = 144 ∨ v = 145 := h
  rcases h with h | h
  · exact ⟨0, by decide, by omega⟩
  · exact ⟨1, by decide, by omega⟩
theorem tx25 {v : Int} (h : jtk 25 v) : ∃ i : Nat, i < 2 ∧ v = 146 + (i : Int) := by
  have h : v = 146 ∨ v = 147 := h
  rcases h with h | h
  · exact ⟨0, by decide, by omega⟩
  · exact ⟨1, by decide, by omega⟩
theorem tx_lenN : ∀ i : Nat, i < 2 → (tLen (146 + (i : Int)) = (tx_len.getD i 0 : Nat) ∧ tx_len.getD i 0 < 100) := by decide +kernel
theorem jE_txval {K : jKm} {G : jCt} {d pc p1 p ix : Nat} {o : jEx} (ho : jE K G d pc p1 24 o) (hd : decode (kmC K) p1 = .ok (.getfield ix, 3)) (hp : p = p1 + 3) (hw : Cond.fieldLink (kmY K).cls ix "java/lang/String" "value" "[B" ∈ tG) : jE K G d pc p 25 (xUn (fun x => x + 2) o) := by
  subst hp
  intro z X hO L M Q ls st hV hc hq hk
  refine ho z X hO L M _ ls st hV hc hq (fun v M1 hv hq1 => ?_)
  obtain ⟨i, hi, rfl⟩ := tx24 hv
  obtain ⟨p, l, e, R, s, m, args, below, meth, c, ce, sl, Qf⟩ := X
  obtain ⟨hz, hKs, hx, hb, -, hown, hts, -⟩ := jO_facts hO
  obtain ⟨⟨h0, -⟩, -⟩ := hKs.2.2.2.2
  obtain ⟨-, -, ⟨cf, k, fi, f, cell, h1, h2, h3, h4, h5, h6⟩, -⟩ := h0 i hi
  intro H locs hI hL
  have e1 : (146 : Int) + i = 144 + i + 2 := by omega
  refine W.getf hx hb hown (hts _ hw) h1 h2 (tx_kept hI h3) h4 (v := .ref (z.2.1 (146 + i))) h5 rfl rfl hd ?_
  rw [e1]
  refine hk (144 + i + 2) M1 ?_ hq1 H locs hI hL
  show 144 + (i : Int) + 2 = 146 ∨ 144 + (i : Int) + 2 = 147
  omega
theorem jE_txcoder {K : jKm} {G : jCt} {d pc p1 p ix : Nat} {o : jEx} (ho : jE K G d pc p1 24 o) (hd : decode (kmC K) p1 = .ok (.getfield ix, 3)) (hp : p = p1 + 3) (hw : Cond.fieldLink (kmY K).cls ix "java/lang/String" "coder" "B" ∈ tG) : jE K G d pc p 20 (xUn (fun _ => 0) o) := by
  subst hp
  intro z X hO L M Q ls st hV hc hq hk
  refine ho z X hO L M _ ls st hV hc hq (fun v M1 hv hq1 => ?_)
  obtain ⟨i, hi, rfl⟩ := tx24 hv
  obtain ⟨p, l, e, R, s, m, args, below, meth, c, ce, sl, Qf⟩ := X
  obtain ⟨hz, hKs, hx, hb, -, hown, hts, -⟩ := jO_facts hO
  obtain ⟨⟨h0, -⟩, -⟩ := hKs.2.2.2.2
  obtain ⟨-, ⟨cf, k, fi, f, cell, h1, h2, h3, h4, h5, h6⟩, -⟩ := h0 i hi
  intro H locs hI hL
  exact W.getf hx hb hown (hts _ hw) h1 h2 (tx_kept hI h3) h4 (v := .int 0) h5 rfl rfl hd (hk 0 M1 ⟨by decide, by decide⟩ hq1 H locs hI hL)
theorem jE_compact {K : jKm} {G : jCt} {d pc p ix : Nat} (hd : decode (kmC K) pc = .ok (.getstatic ix, 3)) (hp : p = pc + 3) (hw : Cond.fieldLink (kmY K).cls ix "java/lang/String" "COMPACT_STRINGS" "Z" ∈ tG) : jE K G d pc p 20 (xC 1) := by
  subst hp
  intro z X hO L M Q ls st hV hc hq hk
  obtain ⟨p, l, e, R, s, m, args, below, meth, c, ce, sl, Qf⟩ := X
  obtain ⟨hz, hKs, hx, hb, -, hown, hts, -⟩ := jO_facts hO
  obtain ⟨-, -, -, cf, kf, fi, f, sa, scell, h1, h2, h3, h4, h5, h6, h7, h8⟩ := hKs.2.2.2.2
  intro H locs hI hL
  exact W.gets hx hb hown (hts _ hw) h1 h2 h3 h4 (tx_kept hI h5) (fun e => by rw [e] at h6; cases h6) h7 rfl hd (hk 1 M ⟨by decide, by decide⟩ hq H locs hI hL)
theorem jE_txlen {K : jKm} {G : jCt} {d pc p1 p : Nat} {o : jEx} (ho : jE K G d pc p1 25 o) (hd : decode (kmC K) p1 = .ok (.arraylength, 1)) (hp : p = p1 + 1) : jE K G d pc p 20 (xUn tLen o) := by
  subst hp
  intro z X hO L M Q ls st hV hc hq hk
  refine ho z X hO L M _ ls st hV hc hq (fun v M1 hv hq1 => ?_)
  obtain ⟨i, hi, rfl⟩ := tx25 hv
  obtain ⟨e1, e2⟩ := tx_lenN i hi
  obtain ⟨p, l, e, R, s, m, args, below, meth, c, ce, sl, Qf⟩ := X
  obtain ⟨hz, hKs, hx, hb, -, hown, hts, -⟩ := jO_facts hO
  obtain ⟨⟨h0, -⟩, -⟩ := hKs.2.2.2.2
  obtain ⟨-, -, -, ⟨cell, h1, h2, h3, h4, h5, h6, h7⟩⟩ := h0 i hi
  intro H locs hI hL
  refine W.alen hx hb (n := Int32.ofInt (tLen (146 + i))) (tx_kept hI h1) h2 ?_ rfl rfl hd (hk _ M1 ⟨by rw [e1]; omega, by rw [e1]; omega⟩ hq1 H locs hI hL)
  rw [h5, e1]; rfl
theorem tx_bytN : ∀ i : Nat, i < 2 → ∀ j : Nat, j < tx_len.getD i 0 → (-128 ≤ ((tx_byt.getD i []).getD j 0).toInt ∧ ((tx_byt.getD i []).getD j 0).toInt < 128) := by decide +kernel
theorem jE_bald {K : jKm} {G : jCt} {d pc p1 p2 p d2 : Nat} {o i : jEx} (ho : jE K G d pc p1 25 o) (hi : jE K G d2 p1 p2 20 i) (hd : decode (kmC K) p2 = .ok (.baload, 1)) (hp : p = p2 + 1) (hd2 : d2 = d + 1) : jE K G d pc p 20 (xTb o i) := by
  subst hp; subst hd2
  intro z X hO L M Q ls st hV hc hq hk
  refine ho z X hO L M _ ls st hV hc hq (fun v M1 hv hq1 => ?_)
  refine hi z X hO L M1 _ ls _ hV (cats_push hc) hq1 (fun x M2 hx1 hq2 => ?_)
  obtain ⟨n, hn, rfl⟩ := tx25 hv
  obtain ⟨e1, e2⟩ := tx_lenN n hn
  obtain ⟨p, l, e, R, s, m, args, below, meth, c, ce, sl, Qf⟩ := X
  obtain ⟨hz, hKs, hx, hb, -, hown, hts, -⟩ := jO_facts hO
  obtain ⟨⟨h0, -⟩, -⟩ := hKs.2.2.2.2
  obtain ⟨-, -, -, ⟨cell, h1, h2, h3, h4, h5, h6, h7⟩⟩ := h0 n hn
  have hr := jtk20.mp hx1
  have hb1 := tx_bytN n hn x.toNat (by have := hq2.1; omega)
  have hk146 : (146 + (n : Int) - 146).toNat = n := by omega
  intro H locs hI hL
  refine W.bald hx hb (tx_kept hI h1) h2 h3 (v := .int ((tx_byt.getD n []).getD x.toNat 0)) (j := Int32.ofInt x) ?_ ?_ rfl rfl hd ?_
  · rw [clamp32 hq2.1.1 hr]
    rintro (q | q)
    · exact neg32 hq2.1.1 hr q
    · have := hq2.1; omega
  · rw [clamp32 hq2.1.1 hr]
    exact h6 _ (by have := hq2.1; omega)
  · have hv : tByte (146 + n) x = ((tx_byt.getD n []).getD x.toNat 0).toInt := by unfold tByte; rw [hk146]
    have h := hk (tByte (146 + n) x) M2 (by rw [hv]; exact ⟨by omega, by omega⟩) hq2.2 H locs hI hL
    rw [hv, jcv20, of_to] at h
    exact h
theorem jS_retB {K : jKm} {G G' : jCt} {pc p1 t : Nat} {e : jEx} (he : jE K G 0 pc p1 20 e) (hd : decode (kmC K) p1 = .ok (jRi (kmR K), 1)) (h27 : kmR K = 27) : jS K G G' pc t (tRetB e) := by
  intro z X hO L M N R ls hV hq hN hR
  refine he z X hO L M _ ls [] hV (Nat.le_refl 0) hq (fun v M1 hv hq1 => ?_)
  have h := hR p1 ls v M1 hd (by rw [h27]; exact hq1.1) hq1.2
  unfold jRs at h
  rw [h27] at h
  exact h
theorem jE_callT {K Kc : jKm} {G : jCt} {d pc p1 p ix : Nat} {Ts : List Nat} {es : jXs} {f : jMd} (hes : jEs K G d pc p1 (24 :: Ts) es) (hM : jM Kc f) (hd : decode (kmC K) p1 = .ok (.invokevirtual ix, 3)) (hp : p = p1 + 3) (hA : kmA Kc = 24 :: Ts) (hcl : (kmY Kc).cls = "java/lang/String") (hcc : jCl (kmY Kc) (kmC Kc) (kmN Kc) (kmT Kc) Ts.length) (hv : Cond.instanceMethod (kmY Kc) ∈ tG ∧ Cond.selects (kmY Kc).cls (kmY Kc) (kmY Kc) ∈ tG) (hw : Cond.methodLink (kmY K).cls ix (kmY Kc) ∈ tG) (hrm : jRoomOk K Kc) (h8 : d ≤ 8) (hT : kmR Kc = 20 ∨ kmR Kc = 22 ∨ kmR Kc = 27) : jE K G d pc p 20 (xCall f es) := by
  subst hp
  intro z X hO L M Q ls st hV hc hq hk
  refine hes z X hO L M _ ls st hV hc hq (fun vs M1 hvs hq1 => ?_)
  match vs, hvs with
  | [], hvs => exact absurd hvs id
  | k :: vs, hvs =>
    rw [show jcvs z (24 :: Ts) (k :: vs) = jcv z 24 k :: jcvs z Ts vs from rfl, List.reverse_cons, List.append_assoc, jcvS (T := 24) (x := k) (Or.inl rfl)]
    obtain ⟨p, l, e, R, s, m, args, below, meth, c, ce, sl, Qf⟩ := X
    obtain ⟨hz, hKs, hx, hb, hml, hown, hts, hfr, hwo, hce, hsl, -⟩ := jO_facts hO
    intro H locs hI hL
    obtain ⟨i, hi, hki⟩ := tx24 hvs.1
    obtain ⟨⟨h0, -⟩, -⟩ := hKs.2.2.2.2
    obtain ⟨⟨cell, q1, q2, q3, q4⟩, -⟩ := h0 i hi
    have hMet := hM z l (k :: vs) M1 Q hz (by rw [hA]; exact hvs) hq1
    refine jG_run (Kc := Kc) (va_runV (own := (kmY K).cls) (C := (kmY Kc).cls) (bytes := kmC Kc) (maxL := kmN Kc) (ret := kmT Kc) (n := Ts.length) (Ts := tG) (As := jcvs z Ts vs) (b := z.2.1 k) ⟨hx, hb, hml, hown, hts⟩ hMet ⟨⟨rfl, rfl, ?_, ?_, jWs_warm hts hcc.2.1, List.mem_cons_self, hts _ hcc.2.1, hts _ hcc.1, hcc.2.2.1, fun sig h => ?_, hts _ hw⟩, hts _ hv.1, hts _ hv.2⟩ ⟨jPc_blind z Kc _ M1, ⟨cell, by rw [hki]; exact tx_kept hI q1, q2, by rw [hcl]; exact q3⟩, fun U hU hW => ⟨?_, by rw [hU]; exact hI, jK_warm hW hKs⟩⟩ rfl (jcvs_len z Ts vs hvs.2) hV.1 rfl (by show 2 * 0 + cats st ≤ 8; omega) hd ⟨hce, hsl⟩) hL (fun v M2 hv2 hq2 => ?_)
    · exact Nat.le_trans hrm.1 hfr
    · exact Nat.le_trans hrm.2 hwo
    · have h2 := hcc.2.2.2
      rw [h] at h2
      exact (Option.some.inj h2).symm
    · rw [hA]; rfl
    · rcases hT with e | e | e <;> rw [e] at hv2 <;> unfold jRo <;> rw [e]
      · exact hk v M2 hv2 hq2
      · exact hk v M2 (by rcases jtk22.mp hv2 with q | q <;> subst q <;> exact ⟨by decide, by decide⟩) hq2
      · exact hk v M2 (by have q : v = 0 := hv2; subst q; exact ⟨by decide, by decide⟩) hq2

set_option maxRecDepth 100000 in
theorem cc_J0_coder_7d493 : jCl yJ0_coder_7d493 cJ0_coder_7d493 1 (some .byte) 0 ∧ (Cond.instanceMethod yJ0_coder_7d493 ∈ tG ∧ Cond.selects yJ0_coder_7d493.cls yJ0_coder_7d493 yJ0_coder_7d493 ∈ tG) := ⟨⟨tGm (i := 64) (by decide +kernel) (by decide +kernel), tGm (i := 519) (by decide +kernel) (by decide +kernel), by decide +kernel, by decide +kernel⟩, tGm (i := 517) (by decide +kernel) (by decide +kernel), tGm (i := 518) (by decide +kernel) (by decide +kernel)⟩
set_option maxRecDepth 100000 in
theorem cc_J0_isLatin1_aae02 : jCl yJ0_isLatin1_aae02 cJ0_isLatin1_aae02 1 (some .boolean) 0 ∧ (Cond.instanceMethod yJ0_isLatin1_aae02 ∈ tG ∧ Cond.selects yJ0_isLatin1_aae02.cls yJ0_isLatin1_aae02 yJ0_isLatin1_aae02 ∈ tG) := ⟨⟨tGm (i := 64) (by decide +kernel) (by decide +kernel), tGm (i := 509) (by decide +kernel) (by decide +kernel), by decide +kernel, by decide +kernel⟩, tGm (i := 507) (by decide +kernel) (by decide +kernel), tGm (i := 508) (by decide +kernel) (by decide +kernel)⟩
set_option maxRecDepth 100000 in
theorem cc_J0_length_8abf5 : jCl yJ0_length_8abf5 cJ0_length_8abf5 1 (some .int) 0 ∧ (Cond.instanceMethod yJ0_length_8abf5 ∈ tG ∧ Cond.selects yJ0_length_8abf5.cls yJ0_length_8abf5 yJ0_length_8abf5 ∈ tG) := ⟨⟨tGm (i := 64) (by decide +kernel) (by decide +kernel), tGm (i := 515) (by decide +kernel) (by decide +kernel), by decide +kernel, by decide +kernel⟩, tGm (i := 513) (by decide +kernel) (by decide +kernel), tGm (i := 514) (by decide +kernel) (by decide +kernel)⟩
set_option maxRecDepth 100000 in
theorem cc_J1_canEncode_9a6ad : jCl yJ1_canEncode_9a6ad cJ1_canEncode_9a6ad 1 (some .boolean) 1 ∧ Cond.static yJ1_canEncode_9a6ad ∈ tG := ⟨⟨tGm (i := 65) (by decide +kernel) (by decide +kernel), tGm (i := 525) (by decide +kernel) (by decide +kernel), by decide +kernel, by decide +kernel⟩, tGm (i := 524) (by decide +kernel) (by decide +kernel)⟩
set_option maxRecDepth 100000 in
theorem cc_J1_indexOfChar_4cfef : jCl yJ1_indexOfChar_4cfef cJ1_indexOfChar_4cfef 6 (some .int) 4 ∧ Cond.static yJ1_indexOfChar_4cfef ∈ tG := ⟨⟨tGm (i := 65) (by decide +kernel) (by decide +kernel), tGm (i := 530) (by decide +kernel) (by decide +kernel), by decide +kernel, by decide +kernel⟩, tGm (i := 529) (by decide +kernel) (by decide +kernel)⟩
set_option maxRecDepth 100000 in
theorem cc_J1_indexOf_4cfef : jCl yJ1_indexOf_4cfef cJ1_indexOf_4cfef 4 (some .int) 4 ∧ Cond.static yJ1_indexOf_4cfef ∈ tG := ⟨⟨tGm (i := 65) (by decide +kernel) (by decide +kernel), tGm (i := 522) (by decide +kernel) (by decide +kernel), by decide +kernel, by decide +kernel⟩, tGm (i := 521) (by decide +kernel) (by decide +kernel)⟩
set_option maxRecDepth 100000 in
theorem cc_J0_indexOf_7cf53 : jCl yJ0_indexOf_7cf53 cJ0_indexOf_7cf53 3 (some .int) 2 ∧ (Cond.instanceMethod yJ0_indexOf_7cf53 ∈ tG ∧ Cond.selects yJ0_indexOf_7cf53.cls yJ0_indexOf_7cf53 yJ0_indexOf_7cf53 ∈ tG) := ⟨⟨tGm (i := 64) (by decide +kernel) (by decide +kernel), tGm (i := 505) (by decide +kernel) (by decide +kernel), by decide +kernel, by decide +kernel⟩, tGm (i := 503) (by decide +kernel) (by decide +kernel), tGm (i := 504) (by decide +kernel) (by decide +kernel)⟩
set_option maxRecDepth 100000 in
theorem cc_J0_indexOf_0f7a4 : jCl yJ0_indexOf_0f7a4 cJ0_indexOf_0f7a4 2 (some .int) 1 ∧ (Cond.instanceMethod yJ0_indexOf_0f7a4 ∈ tG ∧ Cond.selects yJ0_indexOf_0f7a4.cls yJ0_indexOf_0f7a4 yJ0_indexOf_0f7a4 ∈ tG) := ⟨⟨tGm (i := 64) (by decide +kernel) (by decide +kernel), tGm (i := 501) (by decide +kernel) (by decide +kernel), by decide +kernel, by decide +kernel⟩, tGm (i := 499) (by decide +kernel) (by decide +kernel), tGm (i := 500) (by decide +kernel) (by decide +kernel)⟩
set_option maxRecDepth 100000 in
theorem ml_RJ0_335 : Cond.methodLink RJ0 335 yJ0_coder_7d493 ∈ tG := tGm (i := 516) (by decide +kernel) (by decide +kernel)
set_option maxRecDepth 100000 in
theorem ml_RJ0_492 : Cond.methodLink RJ0 492 yJ0_isLatin1_aae02 ∈ tG := tGm (i := 506) (by decide +kernel) (by decide +kernel)
set_option maxRecDepth 100000 in
theorem ml_RJ0_505 : Cond.methodLink RJ0 505 yJ0_length_8abf5 ∈ tG := tGm (i := 512) (by decide +kernel) (by decide +kernel)
set_option maxRecDepth 100000 in
theorem ml_RJ0_637 : Cond.methodLink RJ0 637 yJ1_indexOf_4cfef ∈ tG := tGm (i := 520) (by decide +kernel) (by decide +kernel)
set_option maxRecDepth 100000 in
theorem ml_RJ0_633 : Cond.methodLink RJ0 633 yJ0_indexOf_7cf53 ∈ tG := tGm (i := 502) (by decide +kernel) (by decide +kernel)
set_option maxRecDepth 100000 in
theorem ml_RJ1_88 : Cond.methodLink RJ1 88 yJ1_canEncode_9a6ad ∈ tG := tGm (i := 523) (by decide +kernel) (by decide +kernel)
set_option maxRecDepth 100000 in
theorem ml_RJ1_95 : Cond.methodLink RJ1 95 yJ1_indexOfChar_4cfef ∈ tG := tGm (i := 528) (by decide +kernel) (by decide +kernel)
set_option maxRecDepth 100000 in
theorem ml_RX5_50 : Cond.methodLink RX5 50 yJ0_indexOf_0f7a4 ∈ tG := tGm (i := 498) (by decide +kernel) (by decide +kernel)
set_option maxRecDepth 100000 in
theorem mm_RJ1_92 : Cond.methodLink RJ1 92 Lib.Math.max.name ∈ tG ∧ Cond.static Lib.Math.max.name ∈ tG ∧ Cond.initialized "java/lang/Math" ∈ tG ∧ Cond.code Lib.Math.max.name Lib.Math.max.code 2 (some .int) ∈ tG := ⟨tGm (i := 526) (by decide +kernel) (by decide +kernel), tGm (i := 245) (by decide +kernel) (by decide +kernel), tGm (i := 60) (by decide +kernel) (by decide +kernel), tGm (i := 246) (by decide +kernel) (by decide +kernel)⟩
set_option maxRecDepth 100000 in
theorem mm_RJ1_38 : Cond.methodLink RJ1 38 Lib.Math.min.name ∈ tG ∧ Cond.static Lib.Math.min.name ∈ tG ∧ Cond.initialized "java/lang/Math" ∈ tG ∧ Cond.code Lib.Math.min.name Lib.Math.min.code 2 (some .int) ∈ tG := ⟨tGm (i := 527) (by decide +kernel) (by decide +kernel), tGm (i := 242) (by decide +kernel) (by decide +kernel), tGm (i := 60) (by decide +kernel) (by decide +kernel), tGm (i := 243) (by decide +kernel) (by decide +kernel)⟩
set_option maxRecDepth 100000 in
theorem fl_tx_value : Cond.fieldLink RJ0 9 "java/lang/String" "value" "[B" ∈ tG := tGm (i := 1280) (by decide +kernel) (by decide +kernel)
set_option maxRecDepth 100000 in
theorem fl_tx_coder : Cond.fieldLink RJ0 15 "java/lang/String" "coder" "B" ∈ tG := tGm (i := 1279) (by decide +kernel) (by decide +kernel)
set_option maxRecDepth 100000 in
theorem fl_tx_compact : Cond.fieldLink RJ0 38 "java/lang/String" "COMPACT_STRINGS" "Z" ∈ tG := tGm (i := 510) (by decide +kernel) (by decide +kernel)
def k_J_coder : jKm := (yJ0_coder_7d493, cJ0_coder_7d493, 1, 0, 0, 27, some .byte, [24], [0], fun _ _ => True)
def f_J_coder : jMd := jMeth [0] (tRetB (xTern (kZ (fun x y => x ≠ y) (xC 1)) (xUn (fun _ => 0) (xV 0)) (xC 1)))
theorem m_J_coder : jM k_J_coder f_J_coder := jM_of (G := []) (tend := 0) (jS_retB (p1 := 14) (jE_tern (pa := 6) (pb := 13) (jC_if_eq_n (p1 := 3) (p3 := 6) (tgt := 13) (jE_compact (p := 3) dJ0_coder_7d493_0 rfl fl_tx_compact) dJ0_coder_7d493_3 rfl rfl) (jE_goto (p := 10) (t := 14) (jE_txcoder (p1 := 7) (p := 10) (jE_aloadS (i := 0) (p := 7) dJ0_coder_7d493_6 rfl rfl (.head _) (Or.inl rfl)) dJ0_coder_7d493_7 rfl fl_tx_coder) dJ0_coder_7d493_10 rfl) (jE_iconst (n := 1) (p := 14) dJ0_coder_7d493_13 rfl (irD rfl))) dJ0_coder_7d493_14 rfl) (by decide +kernel) rfl (by decide) (Or.inr (Or.inr (Or.inr (Or.inr ⟨rfl, rfl⟩)))) (fun _ _ => trivial)
def k_J_latin : jKm := (yJ0_isLatin1_aae02, cJ0_isLatin1_aae02, 1, 0, 0, 22, some .boolean, [24], [0], fun _ _ => True)
def f_J_latin : jMd := jMeth [0] (tRetZ (xTern (kAnd (kZ (fun x y => x ≠ y) (xC 1)) (kZ (fun x y => x = y) (xUn (fun _ => 0) (xV 0)))) (xC 1) (xC 0)))
theorem m_J_latin : jM k_J_latin f_J_latin := jM_of (G := []) (tend := 0) (jS_retZ (p1 := 18) (jE_tern (pa := 13) (pb := 17) (jC_and (p1 := 6) (jC_if_eq_n (p1 := 3) (p3 := 6) (tgt := 17) (jE_compact (p := 3) dJ0_isLatin1_aae02_0 rfl fl_tx_compact) dJ0_isLatin1_aae02_3 rfl rfl) (jC_if_ne_n (p1 := 10) (p3 := 13) (tgt := 17) (jE_txcoder (p1 := 7) (p := 10) (jE_aloadS (i := 0) (p := 7) dJ0_isLatin1_aae02_6 rfl rfl (.head _) (Or.inl rfl)) dJ0_isLatin1_aae02_7 rfl fl_tx_coder) dJ0_isLatin1_aae02_10 rfl rfl)) (jE_goto (p := 14) (t := 18) (jE_iconst (n := 1) (p := 14) dJ0_isLatin1_aae02_13 rfl (irD rfl)) dJ0_isLatin1_aae02_14 rfl) (jE_iconst (n := 0) (p := 18) dJ0_isLatin1_aae02_17 rfl (irD rfl))) dJ0_isLatin1_aae02_18 rfl) (by decide +kernel) rfl (by decide) (Or.inr (Or.inl ⟨rfl, rfl⟩)) (fun _ _ => trivial)
def k_J_length : jKm := (yJ0_length_8abf5, cJ0_length_8abf5, 1, 1, 20, 20, some .int, [24], [0], fun _ _ => True)
def f_J_length : jMd := jMeth [0] (tRet (xBin boShr (xUn tLen (xUn (fun x => x + 2) (xV 0))) (xCall f_J_coder (xsC (xV 0) xsN))))
theorem m_J_length : jM k_J_length f_J_length := jM_of (G := []) (tend := 0) (jS_ret (p1 := 10) (jE_bin (p1 := 5) (p2 := 9) (p := 10) (d2 := 1) (jE_txlen (p1 := 4) (p := 5) (jE_txval (p1 := 1) (p := 4) (jE_aloadS (i := 0) (p := 1) dJ0_length_8abf5_0 rfl rfl (.head _) (Or.inl rfl)) dJ0_length_8abf5_1 rfl fl_tx_value) dJ0_length_8abf5_4 rfl) (jE_callT (p1 := 6) (p := 9) (jEs_cons (d2 := 2) (p1 := 6) (jE_aloadS (i := 0) (p := 6) dJ0_length_8abf5_5 rfl rfl (.head _) (Or.inl rfl)) jEs_nil rfl) m_J_coder dJ0_length_8abf5_6 rfl rfl rfl cc_J0_coder_7d493.1 cc_J0_coder_7d493.2 ml_RJ0_335 (roC rfl) (tyE rfl) (Or.inr (Or.inr rfl))) (jB_ishr (d := 0) (p := 10) dJ0_length_8abf5_9 rfl) rfl) dJ0_length_8abf5_10 (rnD rfl)) (by decide +kernel) rfl (by decide) (Or.inl ⟨rfl, rfl⟩) (fun _ _ => trivial)
def k_J_can : jKm := (yJ1_canEncode_9a6ad, cJ1_canEncode_9a6ad, 1, 0, 0, 22, some .boolean, [20], [0], fun _ _ => True)
def f_J_can : jMd := jMeth [0] (tRetZ (xTern (kAnd (kZ (fun x y => x ≥ y) (xV 0)) (kR (fun x y => x ≤ y) (xV 0) (xC 255))) (xC 1) (xC 0)))
theorem m_J_can : jM k_J_can f_J_can := jM_of (G := []) (tend := 0) (jS_retZ (p1 := 16) (jE_tern (pa := 11) (pb := 15) (jC_and (p1 := 4) (jC_if_lt_n (p1 := 1) (p3 := 4) (tgt := 15) (jE_iload_n (i := 0) (p := 1) dJ1_canEncode_9a6ad_0 rfl rfl (.head _)) dJ1_canEncode_9a6ad_1 rfl rfl) (jC_icmp_gt_n (p1 := 5) (p2 := 8) (p3 := 11) (tgt := 15) (d1 := 1) (jE_iload_n (i := 0) (p := 5) dJ1_canEncode_9a6ad_4 rfl rfl (.head _)) (jE_sipush (n := 255) (p := 8) dJ1_canEncode_9a6ad_5 rfl (irD rfl) rfl) dJ1_canEncode_9a6ad_8 rfl rfl rfl)) (jE_goto (p := 12) (t := 16) (jE_iconst (n := 1) (p := 12) dJ1_canEncode_9a6ad_11 rfl (irD rfl)) dJ1_canEncode_9a6ad_12 rfl) (jE_iconst (n := 0) (p := 16) dJ1_canEncode_9a6ad_15 rfl (irD rfl))) dJ1_canEncode_9a6ad_16 rfl) (by decide +kernel) rfl (by decide) (Or.inr (Or.inl ⟨rfl, rfl⟩)) (fun _ _ => trivial)
def k_J_ixc : jKm := (yJ1_indexOfChar_4cfef, cJ1_indexOfChar_4cfef, 6, 0, 0, 20, some .int, [25, 20, 20, 20], [0, 1, 2, 3], fun _ _ => True)
def f_J_ixc : jMd := jMeth [0, 1, 2, 3] (tSeq (tSet 4 (xUn u_i2b (xV 1))) (tSeq (tSet 5 (xV 2)) (tSeq (tWh (kR (fun x y => x < y) (xV 5) (xV 3)) (tSeq (tIf (kR (fun x y => x = y) (xTb (xV 0) (xV 5)) (xV 4)) (tRet (xV 5)) tSkip) (tInc 5 1))) (tRet (xC (-1))))))
theorem m_J_ixc : jM k_J_ixc f_J_ixc := jM_of (G := []) (tend := 0)
  (jS_seq (p := 4) (G1 := [(4, 20), (0, 25), (1, 20), (2, 20), (3, 20)]) (jS_istore (p1 := 2) (t := 4) (jE_i2b (p1 := 1) (p := 2) (jE_iload_n (i := 1) (p := 1) dJ1_indexOfChar_4cfef_0 rfl rfl (.tail _ (.head _))) dJ1_indexOfChar_4cfef_1 rfl) dJ1_indexOfChar_4cfef_2 rfl (tyL rfl) rfl rfl)
  (jS_seq (p := 7) (G1 := [(5, 20), (4, 20), (0, 25), (1, 20), (2, 20), (3, 20)]) (jS_istore (p1 := 5) (t := 7) (jE_iload_n (i := 2) (p := 5) dJ1_indexOfChar_4cfef_4 rfl rfl (.tail _ (.tail _ (.tail _ (.head _))))) dJ1_indexOfChar_4cfef_5 rfl (tyL rfl) rfl rfl)
  (jS_seq (p := 31) (G1 := [(5, 20), (4, 20), (0, 25), (1, 20), (2, 20), (3, 20)]) (jS_while (pb := 13) (jC_icmp_ge_n (p1 := 9) (p2 := 10) (p3 := 13) (tgt := 31) (d1 := 1) (jE_iload (p := 9) dJ1_indexOfChar_4cfef_7 rfl (.head _)) (jE_iload_n (i := 3) (p := 10) dJ1_indexOfChar_4cfef_9 rfl rfl (.tail _ (.tail _ (.tail _ (.tail _ (.tail _ (.head _))))))) dJ1_indexOfChar_4cfef_10 rfl rfl rfl)
    (jS_seq (p := 25) (G1 := [(5, 20), (4, 20), (0, 25), (1, 20), (2, 20), (3, 20)]) (jS_if (pa := 22) (pb := 25) (t := 25) (jC_icmp_ne_n (p1 := 17) (p2 := 19) (p3 := 22) (tgt := 25) (d1 := 1) (jE_bald (p1 := 14) (p2 := 16) (p := 17) (d2 := 1) (jE_aloadS (i := 0) (p := 14) dJ1_indexOfChar_4cfef_13 rfl rfl (.tail _ (.tail _ (.head _))) (Or.inr rfl)) (jE_iload (p := 16) dJ1_indexOfChar_4cfef_14 rfl (.head _)) dJ1_indexOfChar_4cfef_16 rfl rfl) (jE_iload (p := 19) dJ1_indexOfChar_4cfef_17 rfl (.tail _ (.head _))) dJ1_indexOfChar_4cfef_19 rfl rfl rfl) (jS_ret (p1 := 24) (jE_iload (p := 24) dJ1_indexOfChar_4cfef_22 rfl (.head _)) dJ1_indexOfChar_4cfef_24 (rnD rfl)) jS_skip)
      (jS_goto (p := 28) (t := 7) (jS_iinc (t := 28) dJ1_indexOfChar_4cfef_25 rfl (tyL rfl) (.head _) rfl rfl) dJ1_indexOfChar_4cfef_28 rfl)))
  (jS_ret (p1 := 32) (jE_iconst (n := -1) (p := 32) dJ1_indexOfChar_4cfef_31 rfl (irD rfl)) dJ1_indexOfChar_4cfef_32 (rnD rfl))))) (by decide +kernel) rfl (by decide) (Or.inl ⟨rfl, rfl⟩) (fun _ _ => trivial)
def k_J_ixl : jKm := (yJ1_indexOf_4cfef, cJ1_indexOf_4cfef, 4, 1, 25, 20, some .int, [25, 20, 20, 20], [0, 1, 2, 3], fun _ _ => True)
def f_J_ixl : jMd := jMeth [0, 1, 2, 3] (tSeq (tIf (kNot (kZ (fun x y => x ≠ y) (xCall f_J_can (xsC (xV 1) xsN)))) (tRet (xC (-1))) tSkip) (tSeq (tSet 2 (xBin boMax (xV 2) (xC 0))) (tSeq (tSet 3 (xBin boMin (xV 3) (xUn tLen (xV 0)))) (tSeq (tIf (kR (fun x y => x ≥ y) (xV 2) (xV 3)) (tRet (xC (-1))) tSkip) (tRet (xCall f_J_ixc (xsC (xV 0) (xsC (xV 1) (xsC (xV 2) (xsC (xV 3) xsN))))))))))
theorem m_J_ixl : jM k_J_ixl f_J_ixl := jM_of (G := []) (tend := 0)
  (jS_seq (p := 9) (G1 := [(0, 25), (1, 20), (2, 20), (3, 20)]) (jS_if (pa := 7) (pb := 9) (t := 9) (jC_not (jC_if_ne_p (p1 := 4) (p3 := 7) (tgt := 9) (jE_callS (p1 := 1) (p := 4) (T := 20) (jEs_cons (d2 := 1) (p1 := 1) (jE_iload_n (i := 1) (p := 1) dJ1_indexOf_4cfef_0 rfl rfl (.tail _ (.head _))) jEs_nil rfl) m_J_can dJ1_indexOf_4cfef_1 rfl rfl cc_J1_canEncode_9a6ad.1 cc_J1_canEncode_9a6ad.2 (Or.inl ml_RJ1_88) (roC rfl) (tyE rfl) (rtD rfl)) dJ1_indexOf_4cfef_4 rfl rfl)) (jS_ret (p1 := 8) (jE_iconst (n := -1) (p := 8) dJ1_indexOf_4cfef_7 rfl (irD rfl)) dJ1_indexOf_4cfef_8 (rnD rfl)) jS_skip)
  (jS_seq (p := 15) (G1 := [(2, 20), (0, 25), (1, 20), (3, 20)]) (jS_istore_n (i := 2) (p1 := 14) (t := 15) (jE_bin (p1 := 10) (p2 := 11) (p := 14) (d2 := 1) (jE_iload_n (i := 2) (p := 10) dJ1_indexOf_4cfef_9 rfl rfl (.tail _ (.tail _ (.head _)))) (jE_iconst (n := 0) (p := 11) dJ1_indexOf_4cfef_10 rfl (irD rfl)) (jB_max (d := 0) (p := 14) dJ1_indexOf_4cfef_11 rfl mm_RJ1_92 (roD rfl)) rfl) dJ1_indexOf_4cfef_14 rfl rfl (tyL rfl) rfl rfl)
  (jS_seq (p := 22) (G1 := [(3, 20), (2, 20), (0, 25), (1, 20)]) (jS_istore_n (i := 3) (p1 := 21) (t := 22) (jE_bin (p1 := 16) (p2 := 18) (p := 21) (d2 := 1) (jE_iload_n (i := 3) (p := 16) dJ1_indexOf_4cfef_15 rfl rfl (.tail _ (.tail _ (.tail _ (.head _))))) (jE_txlen (p1 := 17) (p := 18) (jE_aloadS (i := 0) (p := 17) dJ1_indexOf_4cfef_16 rfl rfl (.tail _ (.head _)) (Or.inr rfl)) dJ1_indexOf_4cfef_17 rfl) (jB_min (d := 0) (p := 21) dJ1_indexOf_4cfef_18 rfl mm_RJ1_38 (roD rfl)) rfl) dJ1_indexOf_4cfef_21 rfl rfl (tyL rfl) rfl rfl)
  (jS_seq (p := 29) (G1 := [(3, 20), (2, 20), (0, 25), (1, 20)]) (jS_if (pa := 27) (pb := 29) (t := 29) (jC_icmp_lt_n (p1 := 23) (p2 := 24) (p3 := 27) (tgt := 29) (d1 := 1) (jE_iload_n (i := 2) (p := 23) dJ1_indexOf_4cfef_22 rfl rfl (.tail _ (.head _))) (jE_iload_n (i := 3) (p := 24) dJ1_indexOf_4cfef_23 rfl rfl (.head _)) dJ1_indexOf_4cfef_24 rfl rfl rfl) (jS_ret (p1 := 28) (jE_iconst (n := -1) (p := 28) dJ1_indexOf_4cfef_27 rfl (irD rfl)) dJ1_indexOf_4cfef_28 (rnD rfl)) jS_skip)
  (jS_ret (p1 := 36) (jE_callS (p1 := 33) (p := 36) (T := 20) (jEs_cons (d2 := 1) (p1 := 30) (jE_aloadS (i := 0) (p := 30) dJ1_indexOf_4cfef_29 rfl rfl (.tail _ (.tail _ (.head _))) (Or.inr rfl)) (jEs_cons (d2 := 2) (p1 := 31) (jE_iload_n (i := 1) (p := 31) dJ1_indexOf_4cfef_30 rfl rfl (.tail _ (.tail _ (.tail _ (.head _))))) (jEs_cons (d2 := 3) (p1 := 32) (jE_iload_n (i := 2) (p := 32) dJ1_indexOf_4cfef_31 rfl rfl (.tail _ (.head _))) (jEs_cons (d2 := 4) (p1 := 33) (jE_iload_n (i := 3) (p := 33) dJ1_indexOf_4cfef_32 rfl rfl (.head _)) jEs_nil rfl) rfl) rfl) rfl) m_J_ixc dJ1_indexOf_4cfef_33 rfl rfl cc_J1_indexOfChar_4cfef.1 cc_J1_indexOfChar_4cfef.2 (Or.inl ml_RJ1_95) (roC rfl) (tyE rfl) (rtD rfl)) dJ1_indexOf_4cfef_36 (rnD rfl)))))) (by decide +kernel) rfl (by decide) (Or.inl ⟨rfl, rfl⟩) (fun _ _ => trivial)
def k_J_ix2 : jKm := (yJ0_indexOf_7cf53, cJ0_indexOf_7cf53, 3, 2, 48, 20, some .int, [24, 20, 20], [0, 1, 2], fun _ _ => True)
def f_J_ix2 : jMd := jMeth [0, 1, 2] (tRet (xTern (kZ (fun x y => x ≠ y) (xCall f_J_latin (xsC (xV 0) xsN))) (xCall f_J_ixl (xsC (xUn (fun x => x + 2) (xV 0)) (xsC (xV 1) (xsC (xV 2) (xsC (xCall f_J_length (xsC (xV 0) xsN)) xsN))))) xStuck))
theorem m_J_ix2 : jM k_J_ix2 f_J_ix2 := jM_of (G := []) (tend := 0) (jS_ret (p1 := 36) (jE_tern (pa := 7) (pb := 23) (jC_if_eq_n (p1 := 4) (p3 := 7) (tgt := 23) (jE_callT (p1 := 1) (p := 4) (jEs_cons (d2 := 1) (p1 := 1) (jE_aloadS (i := 0) (p := 1) dJ0_indexOf_7cf53_0 rfl rfl (.head _) (Or.inl rfl)) jEs_nil rfl) m_J_latin dJ0_indexOf_7cf53_1 rfl rfl rfl cc_J0_isLatin1_aae02.1 cc_J0_isLatin1_aae02.2 ml_RJ0_492 (roC rfl) (tyE rfl) (Or.inr (Or.inl rfl))) dJ0_indexOf_7cf53_4 rfl rfl)
  (jE_goto (p := 20) (t := 36) (jE_callS (p1 := 17) (p := 20) (T := 20) (jEs_cons (d2 := 1) (p1 := 11) (jE_txval (p1 := 8) (p := 11) (jE_aloadS (i := 0) (p := 8) dJ0_indexOf_7cf53_7 rfl rfl (.head _) (Or.inl rfl)) dJ0_indexOf_7cf53_8 rfl fl_tx_value) (jEs_cons (d2 := 2) (p1 := 12) (jE_iload_n (i := 1) (p := 12) dJ0_indexOf_7cf53_11 rfl rfl (.tail _ (.head _))) (jEs_cons (d2 := 3) (p1 := 13) (jE_iload_n (i := 2) (p := 13) dJ0_indexOf_7cf53_12 rfl rfl (.tail _ (.tail _ (.head _)))) (jEs_cons (d2 := 4) (p1 := 17) (jE_callT (p1 := 14) (p := 17) (jEs_cons (d2 := 4) (p1 := 14) (jE_aloadS (i := 0) (p := 14) dJ0_indexOf_7cf53_13 rfl rfl (.head _) (Or.inl rfl)) jEs_nil rfl) m_J_length dJ0_indexOf_7cf53_14 rfl rfl rfl cc_J0_length_8abf5.1 cc_J0_length_8abf5.2 ml_RJ0_505 (roC rfl) (tyE rfl) (Or.inl rfl)) jEs_nil rfl) rfl) rfl) rfl) m_J_ixl dJ0_indexOf_7cf53_17 rfl rfl cc_J1_indexOf_4cfef.1 cc_J1_indexOf_4cfef.2 (Or.inl ml_RJ0_637) (roC rfl) (tyE rfl) (rtD rfl)) dJ0_indexOf_7cf53_20 rfl) jE_stuck) dJ0_indexOf_7cf53_36 (rnD rfl)) (by decide +kernel) rfl (by decide) (Or.inl ⟨rfl, rfl⟩) (fun _ _ => trivial)
def k_J_indexOf : jKm := (yJ0_indexOf_0f7a4, cJ0_indexOf_0f7a4, 2, 3, 70, 20, some .int, [24, 20], [0, 1], fun _ _ => True)
def f_J_indexOf : jMd := jMeth [0, 1] (tRet (xCall f_J_ix2 (xsC (xV 0) (xsC (xV 1) (xsC (xC 0) xsN)))))
theorem m_J_indexOf : jM k_J_indexOf f_J_indexOf := jM_of (G := []) (tend := 0) (jS_ret (p1 := 6) (jE_callT (p1 := 3) (p := 6) (jEs_cons (d2 := 1) (p1 := 1) (jE_aloadS (i := 0) (p := 1) dJ0_indexOf_0f7a4_0 rfl rfl (.head _) (Or.inl rfl)) (jEs_cons (d2 := 2) (p1 := 2) (jE_iload_n (i := 1) (p := 2) dJ0_indexOf_0f7a4_1 rfl rfl (.tail _ (.head _))) (jEs_cons (d2 := 3) (p1 := 3) (jE_iconst (n := 0) (p := 3) dJ0_indexOf_0f7a4_2 rfl (irD rfl)) jEs_nil rfl) rfl) rfl) m_J_ix2 dJ0_indexOf_0f7a4_3 rfl rfl rfl cc_J0_indexOf_7cf53.1 cc_J0_indexOf_7cf53.2 ml_RJ0_633 (roC rfl) (tyE rfl) (Or.inl rfl)) dJ0_indexOf_0f7a4_6 (rnD rfl)) (by decide +kernel) rfl (by decide) (Or.inl ⟨rfl, rfl⟩) (fun _ _ => trivial)
