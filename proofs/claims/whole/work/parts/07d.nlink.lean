theorem Y_X7_handOver : v_Y yX7_handOver cX7_handOver 2 (some (.object "NearlyShut$Order")) 0 := ⟨v_in 890 (by decide +kernel) rfl, v_in 6 (by decide +kernel) rfl, ⟨by decide, by decide, by decide +kernel⟩, by decide⟩
theorem cv_RX11_231 : v_CV RX11 231 yX7_handOver := ⟨v_in 887 (by decide +kernel) rfl, v_in 888 (by decide +kernel) rfl, v_in 889 (by decide +kernel) rfl⟩
