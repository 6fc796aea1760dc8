theorem tw_22 : Cond.classLink RL 7 RX11 ∈ v_bw := v_in 22 (by decide +kernel) rfl
theorem tw_23 : Cond.instantiable RX11 14 ∈ v_bw := v_in 23 (by decide +kernel) rfl
theorem tw_1 : Cond.initialized RX11 ∈ v_bw := v_in 1 (by decide +kernel) rfl
theorem tw_1114 : Cond.classLink RL 10 RX12 ∈ v_bw := v_in 1114 (by decide +kernel) rfl
theorem tw_1115 : Cond.instantiable RX12 93 ∈ v_bw := v_in 1115 (by decide +kernel) rfl
theorem tw_14 : Cond.initialized RX12 ∈ v_bw := v_in 14 (by decide +kernel) rfl
theorem Y_X11_init : v_Y yX11_init cX11_init 1 none 0 := ⟨v_in 26 (by decide +kernel) rfl, v_in 1 (by decide +kernel) rfl, ⟨by decide, by decide, by decide +kernel⟩, by decide⟩
theorem ci_RL_9 : v_CI RL 9 yX11_init := ⟨v_in 24 (by decide +kernel) rfl, v_in 25 (by decide +kernel) rfl, rfl⟩
set_option maxRecDepth 1000000 in
set_option maxHeartbeats 4000000 in
theorem Y_X12_init : v_Y yX12_init cX12_init 2 none 0 := ⟨v_in 1118 rfl rfl, v_in 14 (by decide +kernel) rfl, ⟨by decide, by decide, by decide +kernel⟩, by decide⟩
theorem ci_RL_12 : v_CI RL 12 yX12_init := ⟨v_in 1116 (by decide +kernel) rfl, v_in 1117 (by decide +kernel) rfl, rfl⟩
