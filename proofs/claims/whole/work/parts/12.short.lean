/-! short forms -/
theorem irD {n : Int} (h : (decide (-2147483648 ≤ n) && decide (n ≤ 2147483647)) = true) : ir n := by
  simp only [Bool.and_eq_true, decide_eq_true_eq] at h; exact h
theorem lrD {n : Int} (h : (decide (-9223372036854775808 ≤ n) && decide (n ≤ 9223372036854775807)) = true) : lr n := by
  simp only [Bool.and_eq_true, decide_eq_true_eq] at h; exact h
theorem tyD {T : Nat} (h : decide (T < 20) = true) : T < 20 := of_decide_eq_true h
theorem tyL {a b : Nat} (h : decide (a < b) = true) : a < b := of_decide_eq_true h
theorem tyG {a b : Nat} (h : decide (a ≤ b) = true) : a ≤ b := of_decide_eq_true h
theorem tyC {T : Nat} (h : decide (T < 8) = true) : T < 8 := of_decide_eq_true h
theorem tyE {T : Nat} (h : decide (T ≤ 8) = true) : T ≤ 8 := of_decide_eq_true h
theorem roC {K Kc : jKm} (h : (decide (kmF Kc + 1 ≤ kmF K) && decide (8 + (kmN Kc + 11) + kmW Kc ≤ kmW K)) = true) : jRoomOk K Kc := by
  simp only [Bool.and_eq_true, decide_eq_true_eq] at h; exact h
theorem roD {K : jKm} {d : Nat} (h : (decide (1 ≤ kmF K) && decide (d + 13 ≤ kmW K)) = true) : 1 ≤ kmF K ∧ d + 13 ≤ kmW K := by
  simp only [Bool.and_eq_true, decide_eq_true_eq] at h; exact h
theorem roA {K : jKm} (h : (decide (1 ≤ kmF K) && decide (18 ≤ kmW K)) = true) : 1 ≤ kmF K ∧ nativeFrameWords "java/lang/System" "arraycopy" 5 + 11 ≤ kmW K := by
  simp only [Bool.and_eq_true, decide_eq_true_eq] at h
  have e : nativeFrameWords "java/lang/System" "arraycopy" 5 = 7 := by decide +kernel
  rw [e]; exact h
theorem rtD {R T : Nat} (h : decide ((R = T ∨ (R = 22 ∧ T = 20)) ∧ T ≠ 23) = true) : (R = T ∨ (R = 22 ∧ T = 20)) ∧ T ≠ 23 := of_decide_eq_true h
theorem rnD {R : Nat} (h : decide (R ≠ 23) = true) : R ≠ 23 := of_decide_eq_true h
theorem jE_gf {K : jKm} {G : jCt} {d pc p1 p C j i T : Nat} {fin : Bool} {ji : Int} {o : jEx} (ho : jE K G d pc p1 C o) (hd : decode (kmC K) p1 = .ok (.getfield i, 3)) (hp : p = p1 + 3) (hj : ji = (j : Int)) (hF : jFd C j T fin) (hw : Cond.fieldLink (kmY K).cls i (c_T C j).1 (c_T C j).2.1 (c_T C j).2.2.1 ∈ tG) (hT : decide (20 ≤ T) = true := by rfl) : jE K G d pc p 20 (xGf o ji) :=
  jE_getf ho hd hp hj hF.1 hF.2.1 (by rw [hF.2.2.1]; exact of_decide_eq_true hT) hw
theorem jE_gr {K : jKm} {G : jCt} {d pc p1 p C j i T : Nat} {fin : Bool} {ji : Int} {o : jEx} (ho : jE K G d pc p1 C o) (hd : decode (kmC K) p1 = .ok (.getfield i, 3)) (hp : p = p1 + 3) (hj : ji = (j : Int)) (hF : jFd C j T fin) (hT : T < 20) (hw : Cond.fieldLink (kmY K).cls i (c_T C j).1 (c_T C j).2.1 (c_T C j).2.2.1 ∈ tG) : jE K G d pc p T (xGr o ji) :=
  jE_getr ho hd hp hj hF.1 hF.2.1 hF.2.2.1 hT hw
theorem jS_pf {K : jKm} {G : jCt} {pc p1 p2 t C j i d1 : Nat} {ji : Int} {o e : jEx} (ho : jE K G 0 pc p1 C o) (he : jE K G d1 p1 p2 20 e) (hd : decode (kmC K) p2 = .ok (.putfield i, 3)) (hp : t = p2 + 3) (hj : ji = (j : Int)) (hF : jFd C j 20 false) (hw : Cond.fieldLink (kmY K).cls i (c_T C j).1 (c_T C j).2.1 (c_T C j).2.2.1 ∈ tG) (hd1 : d1 = 1) : jS K G G pc t (tPut o ji e) :=
  jS_put ho he hd hp hj hF.1 hF.2.1 hF.2.2.1 hF.2.2.2 hw hd1
theorem jS_pfZ {K : jKm} {G : jCt} {pc p1 p2 t C j i d1 : Nat} {ji : Int} {o e : jEx} (ho : jE K G 0 pc p1 C o) (he : jE K G d1 p1 p2 20 e) (hd : decode (kmC K) p2 = .ok (.putfield i, 3)) (hp : t = p2 + 3) (hj : ji = (j : Int)) (hF : jFd C j 22 false) (hw : Cond.fieldLink (kmY K).cls i (c_T C j).1 (c_T C j).2.1 (c_T C j).2.2.1 ∈ tG) (hd1 : d1 = 1) : jS K G G pc t (tPutZ o ji e) :=
  jS_putZ ho he hd hp hj hF.1 hF.2.1 hF.2.2.1 hF.2.2.2 hw hd1
theorem jS_pfO {K : jKm} {G : jCt} {pc p1 p2 p3 p4 t C j i d2 : Nat} {ji : Int} {o e : jEx} {b : jBo} (ho : jE K G 0 pc p1 C o) (hdup : decode (kmC K) p1 = .ok (.dup, 1)) (hg : decode (kmC K) (p1 + 1) = .ok (.getfield i, 3)) (hp2 : p2 = p1 + 4) (he : jE K G d2 p2 p3 20 e) (hb : jB K 1 p3 p4 20 20 20 b) (hd : decode (kmC K) p4 = .ok (.putfield i, 3)) (hp : t = p4 + 3) (hj : ji = (j : Int)) (hF : jFd C j 20 false) (hw : Cond.fieldLink (kmY K).cls i (c_T C j).1 (c_T C j).2.1 (c_T C j).2.2.1 ∈ tG) (hd2 : d2 = 2) : jS K G G pc t (tPutO b o ji e) :=
  jS_putO ho hdup hg hp2 he hb hd hp hj hF.1 hF.2.1 hF.2.2.1 hF.2.2.2 hw hd2
theorem lsw_eq {K : jKm} {G G' : jCt} {p1 t : Nat} {d : jSt} {L : jLo} {M : jMm} {N : jLo → jMm → Prop} {R : Int → jMm → Prop} {dflt : Int} : ∀ (ps : List (Int × Int)) (ss : List jSt) (lo v : Int), (∀ (i : Nat) (q : Int × Int), ps[i]? = some q → q.1 = lo + i) → jT K G G' p1 t (ps.map (·.2)) ss → tSwS lo ss d v L M N R →
    (∃ (s : jSt) (tgt : Nat), (p1 : Int) + Op.lookupswitch.offset ps dflt v = (tgt : Int) ∧ jS K G G' tgt t s ∧ s L M N R) ∨ (Op.lookupswitch.offset ps dflt v = dflt ∧ d L M N R)
  | [], [], lo, v, _, _, h => Or.inr ⟨rfl, h⟩
  | q :: ps, s :: ss, lo, v, hk, hT, h => by
    obtain ⟨⟨tgt, ht, hs⟩, hT2⟩ := hT
    have hq : q.1 = lo := by have := hk 0 q rfl; simpa using this
    obtain ⟨a, o⟩ := q
    dsimp only at hq ht
    subst hq
    rw [Op.lookupswitch.offset_cons]
    by_cases e : v = a
    · subst e
      rw [if_pos rfl]
      exact Or.inl ⟨s, tgt, ht, hs, h.1 rfl⟩
    · rw [if_neg (fun q => e q.symm)]
      exact lsw_eq ps ss (a + 1) v (fun i q hi => by have := hk (i + 1) q (by simpa using hi); rw [this]; omega) hT2 (h.2 e)
  | [], _ :: _, _, _, _, hT, _ => absurd hT id
  | _ :: _, [], _, _, _, hT, _ => absurd hT id
theorem jS_lsw {K : jKm} {G G' : jCt} {pc p1 t td len : Nat} {e : jEx} {ss : List jSt} {d : jSt} {lo dflt : Int} {ps : Array (Int × Int)} (he : jE K G 0 pc p1 20 e) (hd : decode (kmC K) p1 = .ok (.lookupswitch dflt ps, len)) (hT : jT K G G' p1 t (ps.toList.map (·.2)) ss) (hk : ((ps.toList.zipIdx.all (fun q => decide (q.1.1 = lo + (q.2 : Int)))) && (ps.toList.zip (ps.toList.drop 1)).all (fun (a, next) => a.1 < next.1)) = true) (htd : (p1 : Int) + dflt = (td : Int)) (hdf : jS K G G' td t d) : jS K G G' pc t (tSw lo e ss d) := by
  intro z X hO L M N R ls hV hq hN hR
  refine he z X hO L M _ ls [] hV (Nat.le_refl 0) hq (fun v M1 hv hq1 => ?_)
  have hv := jtk20.mp hv
  simp only [Bool.and_eq_true] at hk
  have hkk : ∀ (i : Nat) (q : Int × Int), ps.toList[i]? = some q → q.1 = lo + i := by
    intro i q hi
    have := List.all_eq_true.mp hk.1 (q, i) (by rw [List.mem_zipIdx_iff_getElem?]; exact hi)
    simpa using this
  rcases lsw_eq (dflt := dflt) ps.toList ss lo v hkk hT hq1 with ⟨s, tgt, h1, h2, h3⟩ | ⟨h1, h2⟩
  · refine jstep hO (fun p l e R s m args below meth c ce sl Qf H locs _ hx hb kk => lv_lookup hx hb hd hk.2 (by rw [ir_to hv]) h1 kk) (h2 z X hO L M1 N R ls hV h3 hN hR)
  · refine jstep hO (fun p l e R s m args below meth c ce sl Qf H locs _ hx hb kk => lv_lookup hx hb hd hk.2 (by rw [ir_to hv]; exact h1) htd kk) (hdf z X hO L M1 N R ls hV h2 hN hR)
