theorem tw_35 : Cond.methodLink RX3 3 objectInit ∈ v_bw := v_in 35 (by decide +kernel) rfl
theorem tw_oi : Cond.instanceMethod objectInit ∈ v_bw := v_in 28 (by decide +kernel) rfl
theorem tw_oc : Cond.code objectInit ⟨#[0xb1]⟩ 1 none ∈ v_bw := v_in 29 (by decide +kernel) rfl
theorem tw_81 : Cond.arrayClass .int ∈ v_bw := v_in 81 (by decide +kernel) rfl
theorem fl_RX3_40 : v_F RX3 40 3 9 := ⟨by decide, by decide, v_in 57 (by decide +kernel) rfl⟩
theorem tw_87 : Cond.methodLink RX4 3 objectInit ∈ v_bw := v_in 87 (by decide +kernel) rfl
theorem tw_129 : Cond.methodLink RX2 3 objectInit ∈ v_bw := v_in 129 (by decide +kernel) rfl
theorem tw_171 : Cond.methodLink RX1 3 objectInit ∈ v_bw := v_in 171 (by decide +kernel) rfl
theorem tw_203 : Cond.methodLink RX9 3 objectInit ∈ v_bw := v_in 203 (by decide +kernel) rfl
theorem tw_236 : Cond.methodLink RX5 3 objectInit ∈ v_bw := v_in 236 (by decide +kernel) rfl
theorem fl_RX5_9 : v_F RX5 9 5 0 := ⟨by decide, by decide, v_in 237 (by decide +kernel) rfl⟩
theorem fl_RX5_15 : v_F RX5 15 5 1 := ⟨by decide, by decide, v_in 239 (by decide +kernel) rfl⟩
theorem fl_RX5_24 : v_F RX5 24 5 4 := ⟨by decide, by decide, v_in 246 (by decide +kernel) rfl⟩
theorem fl_RX5_28 : v_F RX5 28 5 5 := ⟨by decide, by decide, v_in 249 (by decide +kernel) rfl⟩
theorem fl_RX5_31 : v_F RX5 31 5 6 := ⟨by decide, by decide, v_in 252 (by decide +kernel) rfl⟩
theorem fl_RX5_34 : v_F RX5 34 5 7 := ⟨by decide, by decide, v_in 255 (by decide +kernel) rfl⟩
theorem fl_RX5_37 : v_F RX5 37 5 8 := ⟨by decide, by decide, v_in 258 (by decide +kernel) rfl⟩
theorem tw_197 : Cond.methodLink RX7 3 objectInit ∈ v_bw := v_in 197 (by decide +kernel) rfl
theorem tw_198 : Cond.classLink RX7 9 RX9 ∈ v_bw := v_in 198 (by decide +kernel) rfl
theorem tw_199 : Cond.instantiable RX9 7 ∈ v_bw := v_in 199 (by decide +kernel) rfl
theorem tw_7 : Cond.initialized RX9 ∈ v_bw := v_in 7 (by decide +kernel) rfl
theorem cin_RX7_11 : v_CIN RX7 11 yX9_init "NearlyShut" := ⟨List.mem_of_getElem? (i := 200) (by decide +kernel), v_in 201 (by decide +kernel) rfl, rfl⟩
theorem Y_X9_init : v_Y yX9_init cX9_init 1 none 0 := ⟨v_in 202 (by decide +kernel) rfl, v_in 7 (by decide +kernel) rfl, ⟨by decide, by decide, by decide +kernel⟩, by decide⟩
theorem tw_231 : Cond.classLink RX7 18 RX5 ∈ v_bw := v_in 231 (by decide +kernel) rfl
theorem tw_232 : Cond.instantiable RX5 10 ∈ v_bw := v_in 232 (by decide +kernel) rfl
theorem tw_8 : Cond.initialized RX5 ∈ v_bw := v_in 8 (by decide +kernel) rfl
theorem cin_RX7_20 : v_CIN RX7 20 yX5_init "NearlyShut" := ⟨List.mem_of_getElem? (i := 233) (by decide +kernel), v_in 234 (by decide +kernel) rfl, rfl⟩
theorem Y_X5_init : v_Y yX5_init cX5_init 1 none 0 := ⟨v_in 235 (by decide +kernel) rfl, v_in 8 (by decide +kernel) rfl, ⟨by decide, by decide, by decide +kernel⟩, by decide⟩
theorem tw_314 : Cond.methodLink RX0 3 objectInit ∈ v_bw := v_in 314 (by decide +kernel) rfl
theorem tw_349 : Cond.methodLink RX8 3 objectInit ∈ v_bw := v_in 349 (by decide +kernel) rfl
theorem tw_407 : Cond.arrayClass .boolean ∈ v_bw := v_in 407 (by decide +kernel) rfl
theorem tw_413 : Cond.methodLink RX10 3 objectInit ∈ v_bw := v_in 413 (by decide +kernel) rfl
theorem tw_441 : Cond.methodLink RX6 3 objectInit ∈ v_bw := v_in 441 (by decide +kernel) rfl
theorem cs_RX6_31 : v_CS RX6 31 yJ7_fill_53178 := ⟨v_in 442 (by decide +kernel) rfl, v_in 351 (by decide +kernel) rfl⟩
theorem tw_27 : Cond.methodLink RX11 1 objectInit ∈ v_bw := v_in 27 (by decide +kernel) rfl
theorem tw_30 : Cond.classLink RX11 16 RX3 ∈ v_bw := v_in 30 (by decide +kernel) rfl
theorem tw_31 : Cond.instantiable RX3 10 ∈ v_bw := v_in 31 (by decide +kernel) rfl
theorem tw_2 : Cond.initialized RX3 ∈ v_bw := v_in 2 (by decide +kernel) rfl
theorem cin_RX11_18 : v_CIN RX11 18 yX3_init "NearlyShut" := ⟨List.mem_of_getElem? (i := 32) (by decide +kernel), v_in 33 (by decide +kernel) rfl, rfl⟩
theorem Y_X3_init : v_Y yX3_init cX3_init 1 none 0 := ⟨v_in 34 (by decide +kernel) rfl, v_in 2 (by decide +kernel) rfl, ⟨by decide, by decide, by decide +kernel⟩, by decide⟩
theorem tw_82 : Cond.classLink RX11 23 RX4 ∈ v_bw := v_in 82 (by decide +kernel) rfl
theorem tw_83 : Cond.instantiable RX4 7 ∈ v_bw := v_in 83 (by decide +kernel) rfl
theorem tw_3 : Cond.initialized RX4 ∈ v_bw := v_in 3 (by decide +kernel) rfl
theorem cin_RX11_25 : v_CIN RX11 25 yX4_init "NearlyShut" := ⟨List.mem_of_getElem? (i := 84) (by decide +kernel), v_in 85 (by decide +kernel) rfl, rfl⟩
theorem Y_X4_init : v_Y yX4_init cX4_init 1 none 0 := ⟨v_in 86 (by decide +kernel) rfl, v_in 3 (by decide +kernel) rfl, ⟨by decide, by decide, by decide +kernel⟩, by decide⟩
theorem tw_124 : Cond.classLink RX11 30 RX2 ∈ v_bw := v_in 124 (by decide +kernel) rfl
theorem tw_125 : Cond.instantiable RX2 10 ∈ v_bw := v_in 125 (by decide +kernel) rfl
theorem tw_4 : Cond.initialized RX2 ∈ v_bw := v_in 4 (by decide +kernel) rfl
theorem cin_RX11_32 : v_CIN RX11 32 yX2_init "NearlyShut" := ⟨List.mem_of_getElem? (i := 126) (by decide +kernel), v_in 127 (by decide +kernel) rfl, rfl⟩
theorem Y_X2_init : v_Y yX2_init cX2_init 1 none 0 := ⟨v_in 128 (by decide +kernel) rfl, v_in 4 (by decide +kernel) rfl, ⟨by decide, by decide, by decide +kernel⟩, by decide⟩
theorem tw_166 : Cond.classLink RX11 37 RX1 ∈ v_bw := v_in 166 (by decide +kernel) rfl
theorem tw_167 : Cond.instantiable RX1 6 ∈ v_bw := v_in 167 (by decide +kernel) rfl
theorem tw_5 : Cond.initialized RX1 ∈ v_bw := v_in 5 (by decide +kernel) rfl
theorem cin_RX11_39 : v_CIN RX11 39 yX1_init "NearlyShut" := ⟨List.mem_of_getElem? (i := 168) (by decide +kernel), v_in 169 (by decide +kernel) rfl, rfl⟩
theorem Y_X1_init : v_Y yX1_init cX1_init 1 none 0 := ⟨v_in 170 (by decide +kernel) rfl, v_in 5 (by decide +kernel) rfl, ⟨by decide, by decide, by decide +kernel⟩, by decide⟩
theorem tw_192 : Cond.classLink RX11 44 RX7 ∈ v_bw := v_in 192 (by decide +kernel) rfl
theorem tw_193 : Cond.instantiable RX7 7 ∈ v_bw := v_in 193 (by decide +kernel) rfl
theorem tw_6 : Cond.initialized RX7 ∈ v_bw := v_in 6 (by decide +kernel) rfl
theorem cin_RX11_46 : v_CIN RX11 46 yX7_init "NearlyShut" := ⟨List.mem_of_getElem? (i := 194) (by decide +kernel), v_in 195 (by decide +kernel) rfl, rfl⟩
theorem Y_X7_init : v_Y yX7_init cX7_init 1 none 0 := ⟨v_in 196 (by decide +kernel) rfl, v_in 6 (by decide +kernel) rfl, ⟨by decide, by decide, by decide +kernel⟩, by decide⟩
theorem tw_307 : Cond.classLink RX11 51 "NearlyShut$Order" ∈ v_bw := v_in 307 (by decide +kernel) rfl
theorem tw_309 : Cond.classLink RX11 57 RX0 ∈ v_bw := v_in 309 (by decide +kernel) rfl
theorem tw_310 : Cond.instantiable RX0 8 ∈ v_bw := v_in 310 (by decide +kernel) rfl
theorem tw_9 : Cond.initialized RX0 ∈ v_bw := v_in 9 (by decide +kernel) rfl
theorem cin_RX11_59 : v_CIN RX11 59 yX0_init "NearlyShut" := ⟨List.mem_of_getElem? (i := 311) (by decide +kernel), v_in 312 (by decide +kernel) rfl, rfl⟩
theorem Y_X0_init : v_Y yX0_init cX0_init 1 none 0 := ⟨v_in 313 (by decide +kernel) rfl, v_in 9 (by decide +kernel) rfl, ⟨by decide, by decide, by decide +kernel⟩, by decide⟩
theorem tw_344 : Cond.classLink RX11 64 RX8 ∈ v_bw := v_in 344 (by decide +kernel) rfl
theorem tw_345 : Cond.instantiable RX8 13 ∈ v_bw := v_in 345 (by decide +kernel) rfl
theorem tw_10 : Cond.initialized RX8 ∈ v_bw := v_in 10 (by decide +kernel) rfl
theorem ci_RX11_66 : v_CI RX11 66 yX8_init := ⟨v_in 346 (by decide +kernel) rfl, v_in 347 (by decide +kernel) rfl, rfl⟩
theorem Y_X8_init : v_Y yX8_init cX8_init 1 none 0 := ⟨v_in 348 (by decide +kernel) rfl, v_in 10 (by decide +kernel) rfl, ⟨by decide, by decide, by decide +kernel⟩, by decide⟩
theorem tw_408 : Cond.classLink RX11 71 RX10 ∈ v_bw := v_in 408 (by decide +kernel) rfl
theorem tw_409 : Cond.instantiable RX10 7 ∈ v_bw := v_in 409 (by decide +kernel) rfl
theorem tw_12 : Cond.initialized RX10 ∈ v_bw := v_in 12 (by decide +kernel) rfl
theorem cin_RX11_73 : v_CIN RX11 73 yX10_init "NearlyShut" := ⟨List.mem_of_getElem? (i := 410) (by decide +kernel), v_in 411 (by decide +kernel) rfl, rfl⟩
theorem Y_X10_init : v_Y yX10_init cX10_init 1 none 0 := ⟨v_in 412 (by decide +kernel) rfl, v_in 12 (by decide +kernel) rfl, ⟨by decide, by decide, by decide +kernel⟩, by decide⟩
theorem tw_436 : Cond.classLink RX11 78 RX6 ∈ v_bw := v_in 436 (by decide +kernel) rfl
theorem tw_437 : Cond.instantiable RX6 6 ∈ v_bw := v_in 437 (by decide +kernel) rfl
theorem tw_13 : Cond.initialized RX6 ∈ v_bw := v_in 13 (by decide +kernel) rfl
theorem ci_RX11_80 : v_CI RX11 80 yX6_init := ⟨v_in 438 (by decide +kernel) rfl, v_in 439 (by decide +kernel) rfl, rfl⟩
theorem Y_X6_init : v_Y yX6_init cX6_init 1 none 0 := ⟨v_in 440 (by decide +kernel) rfl, v_in 13 (by decide +kernel) rfl, ⟨by decide, by decide, by decide +kernel⟩, by decide⟩
theorem tw_1119 : Cond.methodLink RX12 1 objectInit ∈ v_bw := v_in 1119 (by decide +kernel) rfl
theorem tw_891 : Cond.arrayClass .byte ∈ v_bw := v_in 891 (by decide +kernel) rfl
theorem tw_1399 : Cond.arrayClass .long ∈ v_bw := v_in 1399 (by decide +kernel) rfl
