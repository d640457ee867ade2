/-! the law's making, at the machine -/
theorem y_ret1 {L : Nat} {xs : Nat → Int32} {z : jZ} : jRs z (kmR (k_law L xs)) 1 = [.int 1] := by
  show [Value.int (Int32.ofInt 1)] = [.int 1]
  exact congrArg (fun x => [Value.int x]) (by decide)
theorem y_retD {L : Nat} {xs : Nat → Int32} {pr : Nat} (h : decode (kmC (k_law L xs)) pr = .ok (jRi (kmR (k_law L xs)), 1)) : decode code pr = .ok (.ireturn, 1) := h
theorem y_zero {p : Program} {l : Launch} {e : Env} {s : State} {m : MethodId} {a : Array Value} {below : List Frame} {meth : Method} {c : Code} {H : Heap} {Q : State → Prop} {g : JFrame} (h : W p l e room_1 s m a below meth c H [] (room_1.cells - 600000) (room_1.slots - 7302250) Q g) : W p l e room_1 s m a below meth c H [] 0 0 Q g := by
  have e1 : room_1.cells - 600000 = 0 := by decide +kernel
  have e2 : room_1.slots - 7302250 = 0 := by decide +kernel
  rw [e1, e2] at h
  exact h
theorem y_room1 : 600000 ≤ room_1.cells := by decide +kernel
theorem y_room2 : 7302250 ≤ room_1.slots := by decide +kernel
theorem y_room3 : 11 ≤ room_1.frames := by decide +kernel
theorem y_room4 : 440 ≤ room_1.locals := by decide +kernel
theorem y_room5 (n : Nat) : room_1.cells - n ≤ 600000 := Nat.le_trans (Nat.sub_le _ _) (by decide +kernel)
theorem y_room6 (n : Nat) : room_1.slots - n ≤ 7302250 := Nat.le_trans (Nat.sub_le _ _) (by decide +kernel)
theorem y_endB : y_end = y_begin (fun i => if i = 0 then 148 else 0) ([], 600000, 7302250) := by unfold y_end; rfl
theorem yG_of {z : jZ} {p : Program} {l : Launch} {e : Env} {R : Room} {s : State} {m : MethodId} {a : Array Value} {below : List Frame} {meth : Method} {c : Code} {ce sl : Nat} {Q : State → Prop} {pc : Nat} {ls : Array Slot} {st : List Value} {A : yA} {c1 c2 : Nat} (h : ∀ (H : Heap) (locs : List Loc), yI z A H → (∀ q ∈ locs, z.2.2.1.size ≤ q.base) → c1 ≤ R.cells → c2 ≤ R.slots → W p l e R s m a below meth c H locs (R.cells - c1) (R.slots - c2) Q (F0 m pc ls st)) : yG z (p, l, e, R, s, m, a, below, meth, c, ce, sl, Q) pc ls st (A, c1, c2) := h
theorem yG_use {z : jZ} {p : Program} {l : Launch} {e : Env} {R : Room} {s : State} {m : MethodId} {a : Array Value} {below : List Frame} {meth : Method} {c : Code} {ce sl : Nat} {Q : State → Prop} {pc : Nat} {ls : Array Slot} {st : List Value} {A : yA} {c1 c2 : Nat} (h : yG z (p, l, e, R, s, m, a, below, meth, c, ce, sl, Q) pc ls st (A, c1, c2)) (H : Heap) (locs : List Loc) : yI z A H → (∀ q ∈ locs, z.2.2.1.size ≤ q.base) → c1 ≤ R.cells → c2 ≤ R.slots → W p l e R s m a below meth c H locs (R.cells - c1) (R.slots - c2) Q (F0 m pc ls st) := h H locs
theorem y_end2 : ∃ (L1 : jLo) (c1 c2 : Nat), y_end = some (none, L1, (y_A, c1, c2)) ∧ L1 1 = 0 ∧ L1 2 = 114 ∧ L1 0 = 148 ∧ y_A.length = 144 := by
  obtain ⟨L1, h⟩ := y_end_is
  exact ⟨L1, _, _, h⟩
/-- from the law's entry to its loop -/
theorem y_run {p : Program} {l : Launch} {e : Env} {s : State} {m : MethodId} {b : Nat} {below : List Frame} {meth : Method} {c : Code} {L : Nat} {xs : Nat → Int32} {z : jZ} {Q : State → Prop} {ls : Array Slot} (hO : yO (k_law L xs) z (p, l, e, room_1, s, m, #[Value.ref b], below, meth, c, 0, 0, Q)) (hV : jV (k_law L xs) z [(0, 28)] (fun i => if i = 0 then 148 else 0) ls) (hI : yI z [] s.heap)
    (kk : ∀ (L1 : jLo) (ls' : Array Slot) (c1 c2 : Nat) (H : Heap) (locs : List Loc), L1 1 = 0 → L1 2 = 114 → L1 0 = 148 → y_A.length = 144 → jV (k_law L xs) z [(2, 7), (1, 6), (0, 28)] L1 ls' → yI z y_A H → (∀ q ∈ locs, z.2.2.1.size ≤ q.base) → W p l e room_1 s m #[Value.ref b] below meth c H locs (room_1.cells - c1) (room_1.slots - c2) Q (F0 m 16 ls' [])) : W p l e room_1 s m #[Value.ref b] below meth c s.heap [] 0 0 Q (F0 m 0 ls []) := by
  obtain ⟨L1, c1, c2, hE, e1, e2, e0, eA⟩ := y_end2
  rw [y_endB] at hE
  have hG := y_begin_D (L := L) (xs := xs) z _ hO (fun i => if i = 0 then 148 else 0) ([], 600000, 7302250) none L1 (y_A, c1, c2) ls hV hE (fun _ ls' hV' => yG_of (fun H locs a1 a2 _ _ => kk L1 ls' c1 c2 H locs e1 e2 e0 eA hV' a1 a2)) (fun v pr ls' h => by cases h)
  exact y_zero (yG_use hG s.heap [] hI (fun q hq => absurd hq List.not_mem_nil) y_room1 y_room2)
