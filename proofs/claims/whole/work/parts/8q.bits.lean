/-! a set's members -/
theorem b_and_of (x y : Int) : Int32.ofInt (b_and x y) = Int32.ofInt x &&& Int32.ofInt y := of_to _
theorem b_shr_of (x y : Int) : Int32.ofInt (b_shr x y) = Int32.ofInt x >>> (Int32.ofInt y &&& 31) := of_to _
theorem i32_and_or (a b c : Int32) : (a ||| b) &&& c = (a &&& c) ||| (b &&& c) := by
  apply Int32.toBitVec_inj.mp
  simp only [Int32.toBitVec_and, Int32.toBitVec_or]
  exact BitVec.and_or_distrib_right
theorem i32_shr_or (a b c : Int32) : (a ||| b) >>> c = (a >>> c) ||| (b >>> c) := Int32.shiftRight_or
theorem b_bit_or (x y p : Int) : b_and (b_shr (b_or x y) p) 1 = b_or (b_and (b_shr x p) 1) (b_and (b_shr y p) 1) := by
  show (Int32.ofInt (b_shr (b_or x y) p) &&& Int32.ofInt 1).toInt = (Int32.ofInt (b_and (b_shr x p) 1) ||| Int32.ofInt (b_and (b_shr y p) 1)).toInt
  rw [b_and_of, b_and_of, b_shr_of, b_shr_of, b_shr_of, b_or_of, i32_shr_or, i32_and_or]
theorem b_bit_one : ∀ (q p : Fin 14), b_and (b_shr (b_shl 1 (q.val : Int)) (p.val : Int)) 1 = if p = q then 1 else 0 := by decide +kernel
theorem b_bit_zero : ∀ p : Fin 14, b_and (b_shr 0 (p.val : Int)) 1 = 0 := by decide +kernel
theorem gOr_bit {h : Int → Int} {p : Int} (p0 : 0 ≤ p) (p14 : p < 14) : ∀ m : Nat, m ≤ 14 → (∀ q : Int, 0 ≤ q → q < m → h q = 0 ∨ h q = 1) → b_and (b_shr (gOr h m) p) 1 = if p < m then h p else 0
  | 0, _, _ => by
    have e := b_bit_zero ⟨p.toNat, by omega⟩
    have ep : ((p.toNat : Nat) : Int) = p := by omega
    dsimp only at e
    rw [ep] at e
    show b_and (b_shr 0 p) 1 = _
    rw [e, if_neg (by omega)]
  | m + 1, hm, hh => by
    show b_and (b_shr (b_or (gOr h m) (if h m = 1 then b_shl 1 m else 0)) p) 1 = _
    have ep : ((p.toNat : Nat) : Int) = p := by omega
    rw [b_bit_or, gOr_bit p0 p14 m (by omega) (fun q a b => hh q a (by omega))]
    have e1 := b_bit_one ⟨m, by omega⟩ ⟨p.toNat, by omega⟩
    have e0 := b_bit_zero ⟨p.toNat, by omega⟩
    dsimp only at e1 e0
    rw [ep] at e1 e0
    have b00 : b_or 0 0 = 0 := by decide
    have b10 : b_or 1 0 = 1 := by decide
    have b01 : b_or 0 1 = 1 := by decide
    have x1 : ∀ k : Nat, ¬ p < (k : Int) → (if p < (k : Int) then h p else 0) = 0 := fun k z => if_neg z
    have x2 : ∀ k : Nat, p < (k : Int) → (if p < (k : Int) then h p else 0) = h p := fun k z => if_pos z
    by_cases c : p = m
    · rw [x1 m (by omega), x2 (m + 1) (by omega)]
      have hm : h (m : Int) = h p := by rw [c]
      rw [hm]
      have hp := hh m (by omega) (by omega)
      rw [hm] at hp
      have e2 : b_and (b_shr (b_shl 1 (m : Int)) p) 1 = 1 := by
        rw [e1, if_pos (Fin.ext (by show p.toNat = m; omega))]
      rcases hp with z | z
      · have : b_and (b_shr (if h p = 1 then b_shl 1 m else 0) p) 1 = 0 := by rw [z]; exact e0
        rw [this, z, b00]
      · have : b_and (b_shr (if h p = 1 then b_shl 1 m else 0) p) 1 = 1 := by rw [z]; exact e2
        rw [this, z, b01]
    · have e2 : b_and (b_shr (if h m = 1 then b_shl 1 m else 0) p) 1 = 0 := by
        split
        · rw [e1, if_neg (fun z => c (by have := congrArg Fin.val z; dsimp only at this; omega))]
        · exact e0
      rw [e2]
      by_cases c2 : p < (m : Int)
      · rw [x2 m c2, x2 (m + 1) (by omega)]
        rcases hh p p0 (by omega) with z | z
        · rw [z, b00]
        · rw [z, b10]
      · rw [x1 m c2, x1 (m + 1) (by omega), b00]
