set_option maxRecDepth 100000 in
theorem oi_3 : Cond.methodLink RX3 3 Lib.objectInit ∈ tG ∧ Cond.instanceMethod Lib.objectInit ∈ tG ∧ Cond.code Lib.objectInit ⟨#[0xb1]⟩ 1 none ∈ tG := ⟨tGm (i := 170) (by decide +kernel) (by decide +kernel), tGm (i := 75) (by decide +kernel) (by decide +kernel), tGm (i := 76) (by decide +kernel) (by decide +kernel)⟩
set_option maxRecDepth 100000 in
theorem ml_3_9 : Cond.methodLink RX3 9 yX3_begin ∈ tG := tGm (i := 171) (by decide +kernel) (by decide +kernel)
set_option maxRecDepth 100000 in
theorem cc_X3_init : jCl yX3_init cX3_init 1 none 0 ∧ Cond.instanceMethod yX3_init ∈ tG := ⟨⟨tGm (i := 58) (by decide +kernel) (by decide +kernel), tGm (i := 169) (by decide +kernel) (by decide +kernel), by decide +kernel, by decide +kernel⟩, tGm (i := 168) (by decide +kernel) (by decide +kernel)⟩
set_option maxRecDepth 100000 in
theorem oi_1 : Cond.methodLink RX1 3 Lib.objectInit ∈ tG ∧ Cond.instanceMethod Lib.objectInit ∈ tG ∧ Cond.code Lib.objectInit ⟨#[0xb1]⟩ 1 none ∈ tG := ⟨tGm (i := 236) (by decide +kernel) (by decide +kernel), tGm (i := 75) (by decide +kernel) (by decide +kernel), tGm (i := 76) (by decide +kernel) (by decide +kernel)⟩
set_option maxRecDepth 100000 in
theorem ai_int : Cond.arrayClass .int ∈ tG := tGm (i := 126) (by decide +kernel) (by decide +kernel)
set_option maxRecDepth 100000 in
theorem ml_1_19 : Cond.methodLink RX1 19 yX1_begin ∈ tG := tGm (i := 237) (by decide +kernel) (by decide +kernel)
set_option maxRecDepth 100000 in
theorem cc_X1_init : jCl yX1_init cX1_init 1 none 0 ∧ Cond.instanceMethod yX1_init ∈ tG := ⟨⟨tGm (i := 59) (by decide +kernel) (by decide +kernel), tGm (i := 235) (by decide +kernel) (by decide +kernel), by decide +kernel, by decide +kernel⟩, tGm (i := 234) (by decide +kernel) (by decide +kernel)⟩
set_option maxRecDepth 100000 in
theorem oi_2 : Cond.methodLink RX2 3 Lib.objectInit ∈ tG ∧ Cond.instanceMethod Lib.objectInit ∈ tG ∧ Cond.code Lib.objectInit ⟨#[0xb1]⟩ 1 none ∈ tG := ⟨tGm (i := 82) (by decide +kernel) (by decide +kernel), tGm (i := 75) (by decide +kernel) (by decide +kernel), tGm (i := 76) (by decide +kernel) (by decide +kernel)⟩
set_option maxRecDepth 100000 in
theorem mn_2_9 : Cond.classLink RX2 9 "[[I" ∈ tG ∧ Cond.arrayClass .int ∈ tG := ⟨tGm (i := 83) (by decide +kernel) (by decide +kernel), tGm (i := 126) (by decide +kernel) (by decide +kernel)⟩
set_option maxRecDepth 100000 in
theorem st_2_19 : Cond.fieldLink RX2 19 RX6 (s_sname 5) "[I" ∈ tG ∨ Cond.fieldLinkNest RX2 19 RX6 (s_sname 5) "[I" RX6 ∈ nestW := Or.inr (nWm (i := 85) (by decide +kernel) (by decide +kernel))
set_option maxRecDepth 100000 in
theorem cc_X2_init : jCl yX2_init cX2_init 1 none 0 ∧ Cond.instanceMethod yX2_init ∈ tG := ⟨⟨tGm (i := 54) (by decide +kernel) (by decide +kernel), tGm (i := 81) (by decide +kernel) (by decide +kernel), by decide +kernel, by decide +kernel⟩, tGm (i := 80) (by decide +kernel) (by decide +kernel)⟩
set_option maxRecDepth 100000 in
theorem oi_5 : Cond.methodLink RX5 3 Lib.objectInit ∈ tG ∧ Cond.instanceMethod Lib.objectInit ∈ tG ∧ Cond.code Lib.objectInit ⟨#[0xb1]⟩ 1 none ∈ tG := ⟨tGm (i := 132) (by decide +kernel) (by decide +kernel), tGm (i := 75) (by decide +kernel) (by decide +kernel), tGm (i := 76) (by decide +kernel) (by decide +kernel)⟩
set_option maxRecDepth 100000 in
theorem mn_5_15 : Cond.classLink RX5 15 "[[I" ∈ tG ∧ Cond.arrayClass .int ∈ tG := ⟨tGm (i := 133) (by decide +kernel) (by decide +kernel), tGm (i := 126) (by decide +kernel) (by decide +kernel)⟩
set_option maxRecDepth 100000 in
theorem cc_X5_init : jCl yX5_init cX5_init 1 none 0 ∧ Cond.instanceMethod yX5_init ∈ tG := ⟨⟨tGm (i := 56) (by decide +kernel) (by decide +kernel), tGm (i := 131) (by decide +kernel) (by decide +kernel), by decide +kernel, by decide +kernel⟩, tGm (i := 130) (by decide +kernel) (by decide +kernel)⟩
set_option maxRecDepth 100000 in
theorem oi_4 : Cond.methodLink RX4 3 Lib.objectInit ∈ tG ∧ Cond.instanceMethod Lib.objectInit ∈ tG ∧ Cond.code Lib.objectInit ⟨#[0xb1]⟩ 1 none ∈ tG := ⟨tGm (i := 339) (by decide +kernel) (by decide +kernel), tGm (i := 75) (by decide +kernel) (by decide +kernel), tGm (i := 76) (by decide +kernel) (by decide +kernel)⟩
set_option maxRecDepth 100000 in
theorem cc_X4_init : jCl yX4_init cX4_init 1 none 0 ∧ Cond.instanceMethod yX4_init ∈ tG := ⟨⟨tGm (i := 62) (by decide +kernel) (by decide +kernel), tGm (i := 338) (by decide +kernel) (by decide +kernel), by decide +kernel, by decide +kernel⟩, tGm (i := 337) (by decide +kernel) (by decide +kernel)⟩
set_option maxRecDepth 100000 in
theorem oi_0 : Cond.methodLink RX0 3 Lib.objectInit ∈ tG ∧ Cond.instanceMethod Lib.objectInit ∈ tG ∧ Cond.code Lib.objectInit ⟨#[0xb1]⟩ 1 none ∈ tG := ⟨tGm (i := 160) (by decide +kernel) (by decide +kernel), tGm (i := 75) (by decide +kernel) (by decide +kernel), tGm (i := 76) (by decide +kernel) (by decide +kernel)⟩
set_option maxRecDepth 100000 in
theorem ca_0_9 : Cond.classLink RX0 9 (c_R (s_aty 10)) ∈ tG := tGm (i := 161) (by decide +kernel) (by decide +kernel)
set_option maxRecDepth 100000 in
theorem ca_0_17 : Cond.classLink RX0 17 (c_R (s_aty 11)) ∈ tG := tGm (i := 163) (by decide +kernel) (by decide +kernel)
set_option maxRecDepth 100000 in
theorem st_0_23 : Cond.fieldLink RX0 23 RX6 (s_sname 5) "[I" ∈ tG ∨ Cond.fieldLinkNest RX0 23 RX6 (s_sname 5) "[I" RX6 ∈ nestW := Or.inr (nWm (i := 165) (by decide +kernel) (by decide +kernel))
set_option maxRecDepth 100000 in
theorem cn_0_9 : Cond.classLink RX0 9 (c_R 3) ∈ tG ∧ Cond.instantiable (c_R 3) (c_N 3) ∈ tG ∧ Cond.initialized (c_R 3) ∈ tG := ⟨tGm (i := 161) (by decide +kernel) (by decide +kernel), tGm (i := 166) (by decide +kernel) (by decide +kernel), tGm (i := 58) (by decide +kernel) (by decide +kernel)⟩
set_option maxRecDepth 100000 in
theorem ml_0_36 : Cond.methodLink RX0 36 yX3_init ∈ tG := tGm (i := 167) (by decide +kernel) (by decide +kernel)
set_option maxRecDepth 100000 in
theorem cn_0_17 : Cond.classLink RX0 17 (c_R 1) ∈ tG ∧ Cond.instantiable (c_R 1) (c_N 1) ∈ tG ∧ Cond.initialized (c_R 1) ∈ tG := ⟨tGm (i := 163) (by decide +kernel) (by decide +kernel), tGm (i := 232) (by decide +kernel) (by decide +kernel), tGm (i := 59) (by decide +kernel) (by decide +kernel)⟩
set_option maxRecDepth 100000 in
theorem ml_0_37 : Cond.methodLink RX0 37 yX1_init ∈ tG := tGm (i := 233) (by decide +kernel) (by decide +kernel)
set_option maxRecDepth 100000 in
theorem cc_X0_init : jCl yX0_init cX0_init 2 none 0 ∧ Cond.instanceMethod yX0_init ∈ tG := ⟨⟨tGm (i := 57) (by decide +kernel) (by decide +kernel), tGm (i := 159) (by decide +kernel) (by decide +kernel), by decide +kernel, by decide +kernel⟩, tGm (i := 158) (by decide +kernel) (by decide +kernel)⟩
set_option maxRecDepth 100000 in
theorem oi_6 : Cond.methodLink RX6 1 Lib.objectInit ∈ tG ∧ Cond.instanceMethod Lib.objectInit ∈ tG ∧ Cond.code Lib.objectInit ⟨#[0xb1]⟩ 1 none ∈ tG := ⟨tGm (i := 74) (by decide +kernel) (by decide +kernel), tGm (i := 75) (by decide +kernel) (by decide +kernel), tGm (i := 76) (by decide +kernel) (by decide +kernel)⟩
set_option maxRecDepth 100000 in
theorem cn_6_7 : Cond.classLink RX6 7 (c_R 2) ∈ tG ∧ Cond.instantiable (c_R 2) (c_N 2) ∈ tG ∧ Cond.initialized (c_R 2) ∈ tG := ⟨tGm (i := 77) (by decide +kernel) (by decide +kernel), tGm (i := 78) (by decide +kernel) (by decide +kernel), tGm (i := 54) (by decide +kernel) (by decide +kernel)⟩
set_option maxRecDepth 100000 in
theorem ml_6_9 : Cond.methodLink RX6 9 yX2_init ∈ tG := tGm (i := 79) (by decide +kernel) (by decide +kernel)
set_option maxRecDepth 100000 in
theorem cn_6_19 : Cond.classLink RX6 19 (c_R 5) ∈ tG ∧ Cond.instantiable (c_R 5) (c_N 5) ∈ tG ∧ Cond.initialized (c_R 5) ∈ tG := ⟨tGm (i := 127) (by decide +kernel) (by decide +kernel), tGm (i := 128) (by decide +kernel) (by decide +kernel), tGm (i := 56) (by decide +kernel) (by decide +kernel)⟩
set_option maxRecDepth 100000 in
theorem ml_6_21 : Cond.methodLink RX6 21 yX5_init ∈ tG := tGm (i := 129) (by decide +kernel) (by decide +kernel)
set_option maxRecDepth 100000 in
theorem ca_6_26 : Cond.classLink RX6 26 (c_R (s_aty 12)) ∈ tG := tGm (i := 153) (by decide +kernel) (by decide +kernel)
set_option maxRecDepth 100000 in
theorem cn_6_32 : Cond.classLink RX6 32 (c_R 0) ∈ tG ∧ Cond.instantiable (c_R 0) (c_N 0) ∈ tG ∧ Cond.initialized (c_R 0) ∈ tG := ⟨tGm (i := 155) (by decide +kernel) (by decide +kernel), tGm (i := 156) (by decide +kernel) (by decide +kernel), tGm (i := 57) (by decide +kernel) (by decide +kernel)⟩
set_option maxRecDepth 100000 in
theorem ml_6_34 : Cond.methodLink RX6 34 yX0_init ∈ tG := tGm (i := 157) (by decide +kernel) (by decide +kernel)
set_option maxRecDepth 100000 in
theorem cn_6_26 : Cond.classLink RX6 26 (c_R 4) ∈ tG ∧ Cond.instantiable (c_R 4) (c_N 4) ∈ tG ∧ Cond.initialized (c_R 4) ∈ tG := ⟨tGm (i := 153) (by decide +kernel) (by decide +kernel), tGm (i := 335) (by decide +kernel) (by decide +kernel), tGm (i := 62) (by decide +kernel) (by decide +kernel)⟩
set_option maxRecDepth 100000 in
theorem ml_6_45 : Cond.methodLink RX6 45 yX4_init ∈ tG := tGm (i := 336) (by decide +kernel) (by decide +kernel)
set_option maxRecDepth 100000 in
theorem cc_X6_init : jCl yX6_init cX6_init 2 none 0 ∧ Cond.instanceMethod yX6_init ∈ tG := ⟨⟨tGm (i := 53) (by decide +kernel) (by decide +kernel), tGm (i := 73) (by decide +kernel) (by decide +kernel), by decide +kernel, by decide +kernel⟩, tGm (i := 72) (by decide +kernel) (by decide +kernel)⟩
set_option maxRecDepth 100000 in
theorem oi_7 : Cond.methodLink RX7 1 Lib.objectInit ∈ tG ∧ Cond.instanceMethod Lib.objectInit ∈ tG ∧ Cond.code Lib.objectInit ⟨#[0xb1]⟩ 1 none ∈ tG := ⟨tGm (i := 889) (by decide +kernel) (by decide +kernel), tGm (i := 75) (by decide +kernel) (by decide +kernel), tGm (i := 76) (by decide +kernel) (by decide +kernel)⟩
set_option maxRecDepth 100000 in
theorem cc_X7_init : jCl yX7_init cX7_init 2 none 0 ∧ Cond.instanceMethod yX7_init ∈ tG := ⟨⟨tGm (i := 63) (by decide +kernel) (by decide +kernel), tGm (i := 888) (by decide +kernel) (by decide +kernel), by decide +kernel, by decide +kernel⟩, tGm (i := 887) (by decide +kernel) (by decide +kernel)⟩
