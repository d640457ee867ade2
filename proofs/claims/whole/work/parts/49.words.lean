/-! what the start gives -/
set_option maxRecDepth 1000000 in
theorem y_lays : ∀ c : Nat, c < 8 → ∀ w ∈ u_ws (c_R c) (c_T c) (c_N c), w ∈ lw_tbl := by decide +kernel
set_option maxRecDepth 1000000 in
theorem y_inst : ∀ c : Nat, c < 8 → Cond.instantiable (c_R c) (c_N c) ∈ lw_tbl := by decide +kernel
def y_sT (n : Nat) : Term := .static RX6 (s_sname n) "[I"
def y_sC (n : Nat) : List Cond := .arrayOf (y_sT n) .int :: .eq (.length (y_sT n)) (.int (Int32.ofNat (s_slen n).toNat)) :: (List.range (s_slen n).toNat).map (fun (j : Nat) => .eq (.elem (y_sT n) (.int (Int32.ofNat j))) (.int (Int32.ofInt (s_sv n (j : Int)))))
set_option maxRecDepth 1000000 in
theorem y_sC_in : ∀ n : Nat, n < 9 → ∀ w ∈ y_sC n, w ∈ flatC (Jvm.Cond.and given_1 narrow_1) := by decide +kernel
set_option maxRecDepth 1000000 in
theorem y_sL_in : ∀ n : Nat, n < 9 → Cond.laysStatic RX6 (s_sname n) "[I" ∈ lw_tbl := by decide +kernel
def y_tm (i : Nat) : Term := if i = 0 then .string RX5 45 else .string RX5 55
def y_tC : List Cond := [.exactly (y_tm 0) "java/lang/String", .exactly (y_tm 1) "java/lang/String", .eq (.field (y_tm 0) "java/lang/String" "coder" "B") (.int 0), .eq (.field (y_tm 1) "java/lang/String" "coder" "B") (.int 0), .arrayOf (.field (y_tm 0) "java/lang/String" "value" "[B") .byte, .arrayOf (.field (y_tm 1) "java/lang/String" "value" "[B") .byte, .eq (.length (.field (y_tm 0) "java/lang/String" "value" "[B")) (.int (Int32.ofNat (tx_len.getD 0 0))), .eq (.length (.field (y_tm 1) "java/lang/String" "value" "[B")) (.int (Int32.ofNat (tx_len.getD 1 0)))]
set_option maxRecDepth 1000000 in
theorem y_tC_in : ∀ w ∈ y_tC, w ∈ flatC (Jvm.Cond.and given_1 narrow_1) := by decide +kernel
set_option maxRecDepth 1000000 in
theorem y_tE_in : ∀ i : Nat, i < 2 → ∀ j : Nat, j < tx_len.getD i 0 → (Cond.eq (.elem (.field (y_tm i) "java/lang/String" "value" "[B") (.int (Int32.ofNat j))) (.int ((tx_byt.getD i []).getD j 0))) ∈ flatC (Jvm.Cond.and given_1 narrow_1) := by decide +kernel
set_option maxRecDepth 1000000 in
theorem y_tN_in : (Cond.not (Cond.eq (y_tm 0) (y_tm 1))) ∈ flatC (Jvm.Cond.and given_1 narrow_1) ∨ (Cond.not (Cond.eq (y_tm 1) (y_tm 0))) ∈ flatC (Jvm.Cond.and given_1 narrow_1) := by decide +kernel
set_option maxRecDepth 1000000 in
theorem y_misc_in : Cond.arrayOver (.array .int) ∈ lw_tbl ∧ Cond.arrayClass .int ∈ lw_tbl ∧ Cond.arrayOver (.object RX4) ∈ lw_tbl ∧ Cond.arrayOver (.object RX3) ∈ lw_tbl ∧ Cond.arrayOver (.object RX1) ∈ lw_tbl ∧ Cond.stringRef RX5 45 "ud" ∈ lw_tbl ∧ Cond.stringRef RX5 55 "swbcf" ∈ lw_tbl ∧ Cond.laysStatic "java/lang/String" "COMPACT_STRINGS" "Z" ∈ lw_tbl ∧ Cond.initialized "java/lang/String" ∈ lw_tbl ∧ Cond.initialized RX6 ∈ lw_tbl := by decide +kernel
set_option maxRecDepth 1000000 in
theorem y_cs_in : Cond.eq (.static "java/lang/String" "COMPACT_STRINGS" "Z") (.int 1) ∈ flatC (Jvm.Cond.and given_1 narrow_1) := by decide +kernel
set_option maxRecDepth 1000000 in
theorem y_nest_ok : ∀ w ∈ nestW, w.onTables = true := by decide +kernel
