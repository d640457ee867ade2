/-! pairs: at, on -/
theorem rf_0_6 : s_rf 0 6 = 54 := by decide +kernel
theorem pd_trial {L : jLo} {M : jMm} {N : jLo → jMm → Prop} {R : Int → jMm → Prop} {rest : jSt} (I : Inv M) (l0 : L 0 = 0) (t0 : 0 ≤ L 1) (t1 : L 1 ≤ 99) (h : ∀ M', pdZ 54 (M 114 3) (tw M) (gT M) ((L 1).toNat + 1) M' → oFr 54 M M' → rest L M' N R) : tSeq (tDo f_X0_load (xsC (xGr (xV 0) 6) (xsC (xGr (xV 0) 0) (xsC (xC (-1)) xsN)))) (tSeq (tDo f_X0_run (xsC (xGr (xV 0) 6) (xsC (xC 0) (xsC (xV 1) xsN)))) rest) L M N R := by
  have hd : isDay 54 := .inr (.inl rfl)
  obtain ⟨⟨pl, rl⟩, -⟩ := id I
  have pch := pl.2.2.2.2
  refine sq_ (do3e (x0 := 54) (x1 := 1) (x2 := -1) (fun Q => by simp only [xGr, xV, l0, rf_0_6]) (fun Q => by simp only [xGr, xV, l0, rf_0_0]) (fun Q => rfl) ?_)
  refine pd_load (wo := -4) hd pl.1 rl (fun p p0 => by omega) (fun M1 B h10 h11 F1 => ?_)
  have Z0 := pdB_Z B pl.1 (c := M 114 3) (w := tw M) h10 (fun c3 => by
    rw [h11]
    refine ⟨pch.2.2.1, fun s _ _ => ?_⟩
    unfold tw
    rw [if_pos c3])
  refine sq_ (do3e (x0 := 54) (x1 := 0) (x2 := L 1) (fun Q => by simp only [xGr, xV, l0, rf_0_6]) (fun Q => rfl) (fun Q => rfl) ?_)
  have e : L 1 = (((L 1).toNat + 1 : Nat) : Int) - 1 := by omega
  have k := pd_run (Q := fun _ M' => rest L M' N R) (a := 0) (b := (L 1).toNat + 1) hd (iPl_G pl) Z0 (by omega) (by omega) (fun M2 Z2 F2 => h M2 Z2 (oFr_tr F1 F2))
  rw [← e] at k
  exact k
