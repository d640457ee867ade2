/-! pairs: at, on -/
theorem rf_0_6 : s_rf 0 6 = 54 := by decide +kernel
theorem pd_trial {L : jLo} {M : jMm} {N : jLo → jMm → Prop} {R : Int → jMm → Prop} {rest : jSt} (I : Inv M) (l0 : L 0 = 0) (t0 : 0 ≤ L 1) (t1 : L 1 ≤ 99) (h : ∀ M', pdZ 54 (M 114 3) (tw M) (gT M) ((L 1).toNat + 1) M' → oFr 54 M M' → rest L M' N R) : tSeq (tDo f_X0_load (xsC (xGr (xV 0) 6) (xsC (xGr (xV 0) 0) (xsC (xC (-1)) xsN)))) (tSeq (tDo f_X0_run (xsC (xGr (xV 0) 6) (xsC (xC 0) (xsC (xV 1) xsN)))) rest) L M N R := by
  have hd : isDay 54 := .inr (.inl rfl)
  obtain ⟨⟨pl, rl⟩, -⟩ := id I
  have pch := pl.2.2.2.2
  refine sq_ (do3e (x0 := 54) (x1 := 1) (x2 := -1) (fun Q => by simp only [xGr, xV, l0, rf_0_6]) (fun Q => by simp only [xGr, xV, l0, rf_0_0]) (fun Q => rfl) ?_)
  refine pd_load (wo := -4) hd pl.1 rl (fun p p0 => by omega) (fun M1 B h10 h11 F1 => ?_)
  have Z0 := pdB_Z B pl.1 (c := M 114 3) (w := tw M) h10 (fun c3 => by
    rw [h11]
    refine ⟨pch.2.2.1, fun s _ _ => ?_⟩
    unfold tw
    rw [if_pos c3])
  refine sq_ (do3e (x0 := 54) (x1 := 0) (x2 := L 1) (fun Q => by simp only [xGr, xV, l0, rf_0_6]) (fun Q => rfl) (fun Q => rfl) ?_)
  have e : L 1 = (((L 1).toNat + 1 : Nat) : Int) - 1 := by omega
  have k := pd_run (Q := fun _ M' => rest L M' N R) (a := 0) (b := (L 1).toNat + 1) hd (iPl_G pl) Z0 (by omega) (by omega) (fun M2 Z2 F2 => h M2 Z2 (oFr_tr F1 F2))
  rw [← e] at k
  exact k
theorem or_pc {a b : jCn} {L : jLo} {M : jMm} {P P' : Prop} (ha : ∀ T F : jMm → Prop, a L M T F = ((P → T M) ∧ (¬ P → F M))) (hb : ¬ P → ∀ T F : jMm → Prop, b L M T F = ((P' → T M) ∧ (¬ P' → F M))) (T F : jMm → Prop) : kOr a b L M T F = ((P ∨ P' → T M) ∧ (¬ (P ∨ P') → F M)) := by
  show a L M T (fun M => b L M T F) = _
  rw [ha]
  by_cases c : P
  · exact propext ⟨fun h => ⟨fun _ => h.1 c, fun n => absurd (.inl c) n⟩, fun h => ⟨fun _ => h.1 (.inl c), fun n => absurd c n⟩⟩
  · rw [hb c]
    exact propext ⟨fun h => ⟨fun z => (h.2 c).1 (z.resolve_left c), fun n => (h.2 c).2 (fun z => n (.inr z))⟩, fun h => ⟨fun z => absurd z c, fun _ => ⟨fun z => h.1 (.inr z), fun n => h.2 (fun z => z.elim c n)⟩⟩⟩
theorem nz_pc {e : jEx} {v : Int} {L : jLo} {M : jMm} (h : ∀ Q : Int → jMm → Prop, e L M Q = Q v M) (T F : jMm → Prop) : kNot (kZ (fun x y => x ≠ y) e) L M T F = ((v = 0 → T M) ∧ (¬ v = 0 → F M)) := by
  show e L M (fun x M => (x ≠ 0 → F M) ∧ (¬ x ≠ 0 → T M)) = _
  rw [h]
  exact propext ⟨fun z => ⟨fun a => z.2 (fun n => n a), fun n => z.1 n⟩, fun z => ⟨fun n => z.2 n, fun n => z.1 (Classical.not_not.mp n)⟩⟩
theorem kr_pc {r : Int → Int → Prop} {a b : jEx} {u v : Int} {L : jLo} {M : jMm} (ha : ∀ Q : Int → jMm → Prop, a L M Q = Q u M) (hb : ∀ Q : Int → jMm → Prop, b L M Q = Q v M) (T F : jMm → Prop) : kR r a b L M T F = ((r u v → T M) ∧ (¬ r u v → F M)) := by
  show a L M (fun x M => b L M (fun y M => (r x y → T M) ∧ (¬ r x y → F M))) = _
  rw [ha, hb]
theorem kz_pc {r : Int → Int → Prop} {a : jEx} {u : Int} {L : jLo} {M : jMm} (ha : ∀ Q : Int → jMm → Prop, a L M Q = Q u M) (T F : jMm → Prop) : kZ r a L M T F = ((r u 0 → T M) ∧ (¬ r u 0 → F M)) := by
  show a L M (fun x M => (r x 0 → T M) ∧ (¬ r x 0 → F M)) = _
  rw [ha]
/-- a call of a method of three words -/
theorem c3 {f : jMd} {e0 e1 e2 : jEx} {x0 x1 x2 v : Int} {L : jLo} {M : jMm} (h0 : ∀ Q : Int → jMm → Prop, e0 L M Q = Q x0 M) (h1 : ∀ Q : Int → jMm → Prop, e1 L M Q = Q x1 M) (h2 : ∀ Q : Int → jMm → Prop, e2 L M Q = Q x2 M) (h : ∀ Q : Int → jMm → Prop, f [x0, x1, x2] M Q = Q v M) (Q : Int → jMm → Prop) : xCall f (xsC e0 (xsC e1 (xsC e2 xsN))) L M Q = Q v M := by
  show e0 L M (fun v0 M1 => e1 L M1 (fun v1 M2 => e2 L M2 (fun v2 M3 => f [v0, v1, v2] M3 Q))) = _
  rw [h0, h1, h2, h]
theorem c2 {f : jMd} {e0 e1 : jEx} {x0 x1 v : Int} {L : jLo} {M : jMm} (h0 : ∀ Q : Int → jMm → Prop, e0 L M Q = Q x0 M) (h1 : ∀ Q : Int → jMm → Prop, e1 L M Q = Q x1 M) (h : ∀ Q : Int → jMm → Prop, f [x0, x1] M Q = Q v M) (Q : Int → jMm → Prop) : xCall f (xsC e0 (xsC e1 xsN)) L M Q = Q v M := by
  show e0 L M (fun v0 M1 => e1 L M1 (fun v1 M2 => f [v0, v1] M2 Q)) = _
  rw [h0, h1, h]
theorem c1 {f : jMd} {e0 : jEx} {x0 v : Int} {L : jLo} {M : jMm} (h0 : ∀ Q : Int → jMm → Prop, e0 L M Q = Q x0 M) (h : ∀ Q : Int → jMm → Prop, f [x0] M Q = Q v M) (Q : Int → jMm → Prop) : xCall f (xsC e0 xsN) L M Q = Q v M := by
  show e0 L M (fun v0 M1 => f [v0] M1 Q) = _
  rw [h0, h]
theorem bw {a b c : Int} {e0 e1 e2 : jEx} {L : jLo} {M : jMm} (h0 : ∀ Q : Int → jMm → Prop, e0 L M Q = Q a M) (h1 : ∀ Q : Int → jMm → Prop, e1 L M Q = Q b M) (h2 : ∀ Q : Int → jMm → Prop, e2 L M Q = Q c M) (Q : Int → jMm → Prop) : xCall f_X6_isBetween (xsC e0 (xsC e1 (xsC e2 xsN))) L M Q = Q (bt b a c) M := c3 h0 h1 h2 (fun _ => q_X6_isBetween) Q
theorem bm {a b c : Int} {e0 e1 e2 : jEx} {L : jLo} {M : jMm} (h0 : ∀ Q : Int → jMm → Prop, e0 L M Q = Q a M) (h1 : ∀ Q : Int → jMm → Prop, e1 L M Q = Q b M) (h2 : ∀ Q : Int → jMm → Prop, e2 L M Q = Q c M) (Q : Int → jMm → Prop) : xCall f_X7_in (xsC e0 (xsC e1 (xsC e2 xsN))) L M Q = Q (bt b a c) M := c3 h0 h1 h2 (fun _ => q_X7_in) Q
theorem rQ {v : Int} {M : jMm} (Q : Int → jMm → Prop) : Q v M = Q v M := rfl
