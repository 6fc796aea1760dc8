set_option maxHeartbeats 4000000 in
set_option maxRecDepth 100000 in
theorem w_X12_fewest_L88 {E : v_E} {X : v_X} {sh : v_S} {P : v_P} {out : Int32 × v_M} (hL : v_Lay sh P) (hO : v_O E X cX12_fewest RX12 5 4 (some .int) "fewest" (v_Q1 (some (.int out.1)) sh P out.2)) (N : Nat) (k20 : Int32 → Int32 → v_M → Option (Int32 × v_M)) (hk20 : ∀ (x1 : Int32) (x2 : Int32) (M : v_M), k20 x1 x2 M = some out → V E X (0, 0) 20 [(0, v_rf E 79), (1, .int x1), (2, .int x2)] [] sh P M) (x2 : Int32) (t0 : Int32) (t1 : Int32) (M : v_M) (h : f_X12_fewest_L88 N k20 x2 t0 t1 M = some out) : V E X (0, 0) 88 [(0, v_rf E 79), (2, .int x2)] [.int t0, .int t1] sh P M := by
  have hK := hO.1
  unfold f_X12_fewest_L88 at h
  refine V.iadd (pc := 88) hK dX12_fewest_88 ?_
  refine V.topi (fun y1 ey1 => ?_)
  have h := v_lt ey1 h
  refine V.istore_n (pc := 89) (i := 1) (lv' := [(0, _), (1, _), (2, _)]) hK (by decide) rfl dX12_fewest_89 ?_
  refine V.iinc (pc := 90) (i := 2) (v := 1) (lv' := [(0, _), (1, _), (2, _)]) hK rfl (by decide) (by decide) rfl dX12_fewest_90 ?_
  refine V.goto (pc := 93) (tgt := 20) hK dX12_fewest_93 (by decide) ?_
  refine V.pick [0, 1, 2] (l := [(0, _), (1, _), (2, _)]) rfl ?_
  exact hk20 _ _ _ h
set_option maxHeartbeats 4000000 in
set_option maxRecDepth 100000 in
theorem w_X12_fewest_L69 {E : v_E} {X : v_X} {sh : v_S} {P : v_P} {out : Int32 × v_M} (hL : v_Lay sh P) (hO : v_O E X cX12_fewest RX12 5 4 (some .int) "fewest" (v_Q1 (some (.int out.1)) sh P out.2)) (N : Nat) (k20 : Int32 → Int32 → v_M → Option (Int32 × v_M)) (hk20 : ∀ (x1 : Int32) (x2 : Int32) (M : v_M), k20 x1 x2 M = some out → V E X (0, 0) 20 [(0, v_rf E 79), (1, .int x1), (2, .int x2)] [] sh P M) (k33 : Int32 → Int32 → Int32 → Int32 → v_M → Option (Int32 × v_M)) (hk33 : ∀ (x1 : Int32) (x2 : Int32) (x3 : Int32) (x4 : Int32) (M : v_M), k33 x1 x2 x3 x4 M = some out → V E X (0, 0) 33 [(0, v_rf E 79), (1, .int x1), (2, .int x2), (3, .int x3), (4, .int x4)] [] sh P M) (x1 : Int32) (x2 : Int32) (x4 : Int32) (t0 : Int32) (t1 : Int32) (M : v_M) (h : f_X12_fewest_L69 N k20 k33 x1 x2 x4 t0 t1 M = some out) : V E X (0, 0) 69 [(0, v_rf E 79), (1, .int x1), (2, .int x2), (4, .int x4)] [.int t0, .int t1] sh P M := by
  have hK := hO.1
  unfold f_X12_fewest_L69 at h
  refine V.iadd (pc := 69) hK dX12_fewest_69 ?_
  refine V.topi (fun y1 ey1 => ?_)
  have h := v_lt ey1 h
  refine V.istore_n (pc := 70) (i := 3) (lv' := [(0, _), (1, _), (2, _), (3, _), (4, _)]) hK (by decide) rfl dX12_fewest_70 ?_
  refine V.iinc (pc := 71) (i := 4) (v := 1) (lv' := [(0, _), (1, _), (2, _), (3, _), (4, _)]) hK rfl (by decide) (by decide) rfl dX12_fewest_71 ?_
  refine V.goto (pc := 74) (tgt := 33) hK dX12_fewest_74 (by decide) ?_
  refine V.pick [0, 1, 2, 3, 4] (l := [(0, _), (1, _), (2, _), (3, _), (4, _)]) rfl ?_
  exact hk33 _ _ _ _ _ h
set_option maxHeartbeats 4000000 in
set_option maxRecDepth 100000 in
theorem w_X12_fewest_L68 {E : v_E} {X : v_X} {sh : v_S} {P : v_P} {out : Int32 × v_M} (hL : v_Lay sh P) (hO : v_O E X cX12_fewest RX12 5 4 (some .int) "fewest" (v_Q1 (some (.int out.1)) sh P out.2)) (N : Nat) (k20 : Int32 → Int32 → v_M → Option (Int32 × v_M)) (hk20 : ∀ (x1 : Int32) (x2 : Int32) (M : v_M), k20 x1 x2 M = some out → V E X (0, 0) 20 [(0, v_rf E 79), (1, .int x1), (2, .int x2)] [] sh P M) (k33 : Int32 → Int32 → Int32 → Int32 → v_M → Option (Int32 × v_M)) (hk33 : ∀ (x1 : Int32) (x2 : Int32) (x3 : Int32) (x4 : Int32) (M : v_M), k33 x1 x2 x3 x4 M = some out → V E X (0, 0) 33 [(0, v_rf E 79), (1, .int x1), (2, .int x2), (3, .int x3), (4, .int x4)] [] sh P M) (x1 : Int32) (x2 : Int32) (x4 : Int32) (t0 : Int32) (M : v_M) (h : f_X12_fewest_L68 N k20 k33 x1 x2 x4 t0 M = some out) : V E X (0, 0) 68 [(0, v_rf E 79), (1, .int x1), (2, .int x2), (4, .int x4)] [.int t0] sh P M := by
  have hK := hO.1
  unfold f_X12_fewest_L68 at h
  refine V.iconst (pc := 68) (v := 0) hK (by decide) dX12_fewest_68 ?_
  refine V.pick [0, 1, 2, 4] (l := [(0, _), (1, _), (2, _), (4, _)]) rfl ?_
  exact w_X12_fewest_L69 hL hO N _ hk20 _ hk33 _ _ _ _ _ _ h
set_option maxHeartbeats 4000000 in
set_option maxRecDepth 100000 in
theorem w_X12_fewest_L33 {E : v_E} {X : v_X} {sh : v_S} {P : v_P} {out : Int32 × v_M} (hL : v_Lay sh P) (hO : v_O E X cX12_fewest RX12 5 4 (some .int) "fewest" (v_Q1 (some (.int out.1)) sh P out.2)) (N : Nat) (k20 : Int32 → Int32 → v_M → Option (Int32 × v_M)) (hk20 : ∀ (x1 : Int32) (x2 : Int32) (M : v_M), k20 x1 x2 M = some out → V E X (0, 0) 20 [(0, v_rf E 79), (1, .int x1), (2, .int x2)] [] sh P M) (n : Nat) : ∀ (x1 : Int32) (x2 : Int32) (x3 : Int32) (x4 : Int32) (M : v_M), f_X12_fewest_L33 N k20 n x1 x2 x3 x4 M = some out → V E X (0, 0) 33 [(0, v_rf E 79), (1, .int x1), (2, .int x2), (3, .int x3), (4, .int x4)] [] sh P M := by
  have hK := hO.1
  induction n with
  | zero => intro x1 x2 x3 x4 M h; rw [f_X12_fewest_L33] at h; cases h
  | succ n ih =>
    intro x1 x2 x3 x4 M h
    rw [f_X12_fewest_L33] at h
    refine V.iload (pc := 33) (i := 4) hK rfl dX12_fewest_33 ?_
    refine V.aload_n (pc := 35) (i := 0) hK rfl ⟨_, rfl⟩ dX12_fewest_35 ?_
    refine V.getI (pc := 36) hK fl_RX12_473 rfl (hL.1 79 _ ls_79) dX12_fewest_36 ?_
    refine V.icmp_ge (pc := 39) (tgt := 77) hK dX12_fewest_39 (by decide) (fun c => ?_) (fun c => ?_)
    · rw [if_pos c] at h
      refine V.iload_n (pc := 77) (i := 1) hK rfl dX12_fewest_77 ?_
      refine V.iload_n (pc := 78) (i := 3) hK rfl dX12_fewest_78 ?_
      refine V.iconst (pc := 79) (v := 2) hK (by decide) dX12_fewest_79 ?_
      refine V.icmp_ge (pc := 80) (tgt := 87) hK dX12_fewest_80 (by decide) (fun c => ?_) (fun c => ?_)
      · rw [if_pos c] at h
        refine V.iconst (pc := 87) (v := 2) hK (by decide) dX12_fewest_87 ?_
        refine V.pick [0, 2] (l := [(0, _), (2, _)]) rfl ?_
        exact w_X12_fewest_L88 hL hO N _ hk20 _ _ _ _ h
      · rw [if_neg c] at h
        refine V.iload_n (pc := 83) (i := 3) hK rfl dX12_fewest_83 ?_
        refine V.goto (pc := 84) (tgt := 88) hK dX12_fewest_84 (by decide) ?_
        refine V.pick [0, 2] (l := [(0, _), (2, _)]) rfl ?_
        exact w_X12_fewest_L88 hL hO N _ hk20 _ _ _ _ h
    · rw [if_neg c] at h
      refine V.iload_n (pc := 42) (i := 3) hK rfl dX12_fewest_42 ?_
      refine V.aload_n (pc := 43) (i := 0) hK rfl ⟨_, rfl⟩ dX12_fewest_43 ?_
      refine V.getR (pc := 44) hK fl_RX12_150 rfl (hL.1 79 _ ls_79) (hL.2 79 66 126 rfl) dX12_fewest_44 ?_
      refine V.iload (pc := 47) (i := 4) hK rfl dX12_fewest_47 ?_
      obtain ⟨hb, h⟩ := v_ckS h
      refine V.iald (pc := 49) hK (hL.1 126 _ ls_126) (v_ibS hb) dX12_fewest_49 ?_
      refine V.iload_n (pc := 50) (i := 2) hK rfl dX12_fewest_50 ?_
      refine V.icmp_ne (pc := 51) (tgt := 68) hK dX12_fewest_51 (by decide) (fun c => ?_) (fun c => ?_)
      · rw [if_neg c] at h
        refine V.pick [0, 1, 2, 4] (l := [(0, _), (1, _), (2, _), (4, _)]) rfl ?_
        exact w_X12_fewest_L68 hL hO N _ hk20 _ ih _ _ _ _ _ h
      · rw [if_pos c] at h
        refine V.aload_n (pc := 54) (i := 0) hK rfl ⟨_, rfl⟩ dX12_fewest_54 ?_
        refine V.getR (pc := 55) hK fl_RX12_169 rfl (hL.1 79 _ ls_79) (hL.2 79 72 132 rfl) dX12_fewest_55 ?_
        refine V.iload (pc := 58) (i := 4) hK rfl dX12_fewest_58 ?_
        obtain ⟨hb, h⟩ := v_ckS h
        refine V.zald (pc := 60) hK (hL.1 132 _ ls_132) (v_ibS hb) dX12_fewest_60 ?_
        refine V.if_eq (pc := 61) (tgt := 68) hK dX12_fewest_61 (by decide) (fun c => ?_) (fun c => ?_)
        · rw [if_pos c] at h
          refine V.pick [0, 1, 2, 4] (l := [(0, _), (1, _), (2, _), (4, _)]) rfl ?_
          exact w_X12_fewest_L68 hL hO N _ hk20 _ ih _ _ _ _ _ h
        · rw [if_neg c] at h
          refine V.iconst (pc := 64) (v := 1) hK (by decide) dX12_fewest_64 ?_
          refine V.goto (pc := 65) (tgt := 69) hK dX12_fewest_65 (by decide) ?_
          refine V.pick [0, 1, 2, 4] (l := [(0, _), (1, _), (2, _), (4, _)]) rfl ?_
          exact w_X12_fewest_L69 hL hO N _ hk20 _ ih _ _ _ _ _ _ h
set_option maxHeartbeats 4000000 in
set_option maxRecDepth 100000 in
theorem w_X12_fewest_L20 {E : v_E} {X : v_X} {sh : v_S} {P : v_P} {out : Int32 × v_M} (hL : v_Lay sh P) (hO : v_O E X cX12_fewest RX12 5 4 (some .int) "fewest" (v_Q1 (some (.int out.1)) sh P out.2)) (N : Nat) (n : Nat) : ∀ (x1 : Int32) (x2 : Int32) (M : v_M), f_X12_fewest_L20 N n x1 x2 M = some out → V E X (0, 0) 20 [(0, v_rf E 79), (1, .int x1), (2, .int x2)] [] sh P M := by
  have hK := hO.1
  induction n with
  | zero => intro x1 x2 M h; rw [f_X12_fewest_L20] at h; cases h
  | succ n ih =>
    intro x1 x2 M h
    rw [f_X12_fewest_L20] at h
    refine V.iload_n (pc := 20) (i := 2) hK rfl dX12_fewest_20 ?_
    refine V.aload_n (pc := 21) (i := 0) hK rfl ⟨_, rfl⟩ dX12_fewest_21 ?_
    refine V.getI (pc := 22) hK fl_RX12_473 rfl (hL.1 79 _ ls_79) dX12_fewest_22 ?_
    refine V.icmp_ge (pc := 25) (tgt := 96) hK dX12_fewest_25 (by decide) (fun c => ?_) (fun c => ?_)
    · rw [if_pos c] at h
      refine V.aload_n (pc := 96) (i := 0) hK rfl ⟨_, rfl⟩ dX12_fewest_96 ?_
      refine V.getI (pc := 97) hK fl_RX12_473 rfl (hL.1 79 _ ls_79) dX12_fewest_97 ?_
      refine V.iload_n (pc := 100) (i := 1) hK rfl dX12_fewest_100 ?_
      refine V.isub (pc := 101) hK dX12_fewest_101 ?_
      exact V.iret (pc := 102) hO dX12_fewest_102 (v_finI h)
    · rw [if_neg c] at h
      refine V.iconst (pc := 28) (v := 0) hK (by decide) dX12_fewest_28 ?_
      refine V.istore_n (pc := 29) (i := 3) (lv' := [(0, _), (1, _), (2, _), (3, _)]) hK (by decide) rfl dX12_fewest_29 ?_
      refine V.iconst (pc := 30) (v := 0) hK (by decide) dX12_fewest_30 ?_
      refine V.istore (pc := 31) (i := 4) (lv' := [(0, _), (1, _), (2, _), (3, _), (4, _)]) hK (by decide) rfl dX12_fewest_31 ?_
      refine V.pick [0, 1, 2, 3, 4] (l := [(0, _), (1, _), (2, _), (3, _), (4, _)]) rfl ?_
      exact w_X12_fewest_L33 hL hO N _ ih N _ _ _ _ _ h
set_option maxHeartbeats 4000000 in
set_option maxRecDepth 100000 in
theorem c_X12_fewest (E : v_E) {sh : v_S} {P : v_P} (hL : v_Lay sh P) (N : Nat) (M : v_M) {out : Int32 × v_M} (h : f_X12_fewest N M = some out) : v_Ct E 4 yX12_fewest cX12_fewest 5 (some .int) 0 0 [v_rf E 79] sh P M (v_Q1 (some (.int out.1)) sh P out.2) := by
  refine v_Ct.of (by decide +kernel) (Nat.le_of_ble_eq_true rfl) (fun X hO => ?_)
  have hK : v_K E X cX12_fewest RX12 5 4 := hO.1
  have hO : v_O E X cX12_fewest RX12 5 4 (some .int) "fewest" (v_Q1 (some (.int out.1)) sh P out.2) := hO
  show V E X (0, 0) 0 [(0, v_rf E 79)] [] sh P M
  unfold f_X12_fewest at h
  refine V.aload_n (pc := 0) (i := 0) hK rfl ⟨_, rfl⟩ dX12_fewest_0 ?_
  obtain ⟨z1, hz1, h⟩ := v_bdS h
  refine V.cVv (pc := 1) (ci := 12) hK (c_X12_looks E hL N _ hz1) Y_X12_looks cv_RX12_525 (by decide) rfl (hL.1 79 _ ls_79) dX12_fewest_1 (by decide) rfl (Nat.le_of_ble_eq_true rfl) ?_
  refine V.aload_n (pc := 4) (i := 0) hK rfl ⟨_, rfl⟩ dX12_fewest_4 ?_
  refine V.iconst (pc := 5) (v := -1) hK (by decide) dX12_fewest_5 ?_
  refine V.iconst (pc := 6) (v := -1) hK (by decide) dX12_fewest_6 ?_
  obtain ⟨z2, hz2, h⟩ := v_bdS h
  refine V.cV (pc := 7) (ci := 12) hK (c_X12_canBe E hL N _ _ _ hz2) Y_X12_canBe cv_RX12_528 (by decide) rfl (hL.1 79 _ ls_79) dX12_fewest_7 (by decide) rfl (Nat.le_of_ble_eq_true rfl) ?_
  refine V.if_ne (pc := 10) (tgt := 16) hK dX12_fewest_10 (by decide) (fun c => ?_) (fun c => ?_)
  · rw [if_neg c] at h
    refine V.iconst (pc := 16) (v := 0) hK (by decide) dX12_fewest_16 ?_
    refine V.istore_n (pc := 17) (i := 1) (lv' := [(0, _), (1, _)]) hK (by decide) rfl dX12_fewest_17 ?_
    refine V.iconst (pc := 18) (v := 0) hK (by decide) dX12_fewest_18 ?_
    refine V.istore_n (pc := 19) (i := 2) (lv' := [(0, _), (1, _), (2, _)]) hK (by decide) rfl dX12_fewest_19 ?_
    refine V.pick [0, 1, 2] (l := [(0, _), (1, _), (2, _)]) rfl ?_
    exact w_X12_fewest_L20 hL hO N N _ _ _ h
  · rw [if_pos c] at h
    refine V.bipush (pc := 13) (v := -2) hK (by decide) dX12_fewest_13 ?_
    exact V.iret (pc := 15) hO dX12_fewest_15 (v_finI h)
set_option maxHeartbeats 4000000 in
set_option maxRecDepth 100000 in
theorem c_X12_sure (E : v_E) {sh : v_S} {P : v_P} (hL : v_Lay sh P) (N : Nat) (x1 : Int32) (M : v_M) {out : Int32 × v_M} (h : f_X12_sure N x1 M = some out) : v_Ct E 4 yX12_sure cX12_sure 2 (some .int) 0 0 [v_rf E 79, .int x1] sh P M (v_Q1 (some (.int out.1)) sh P out.2) := by
  refine v_Ct.of (by decide +kernel) (Nat.le_of_ble_eq_true rfl) (fun X hO => ?_)
  have hK : v_K E X cX12_sure RX12 2 4 := hO.1
  have hO : v_O E X cX12_sure RX12 2 4 (some .int) "sure" (v_Q1 (some (.int out.1)) sh P out.2) := hO
  show V E X (0, 0) 0 [(0, v_rf E 79), (1, .int x1)] [] sh P M
  unfold f_X12_sure at h
  refine V.iload_n (pc := 0) (i := 1) hK rfl dX12_sure_0 ?_
  refine V.i2l (pc := 1) hK dX12_sure_1 ?_
  refine V.lconst (pc := 2) (v := 0) hK (by decide) dX12_sure_2 ?_
  refine V.aload_n (pc := 3) (i := 0) hK rfl ⟨_, rfl⟩ dX12_sure_3 ?_
  refine V.getI (pc := 4) hK fl_RX12_473 rfl (hL.1 79 _ ls_79) dX12_sure_4 ?_
  refine V.iconst (pc := 7) (v := 1) hK (by decide) dX12_sure_7 ?_
  refine V.isub (pc := 8) hK dX12_sure_8 ?_
  refine V.i2l (pc := 9) hK dX12_sure_9 ?_
  obtain ⟨z1, hz1, h⟩ := v_bdS h
  refine V.cS (pc := 10) hK (c_X12_in E hL N _ _ _ _ hz1) Y_X12_in cs_RX12_229 dX12_sure_10 (by decide) rfl (Nat.le_of_ble_eq_true rfl) ?_
  refine V.if_ne (pc := 13) (tgt := 18) hK dX12_sure_13 (by decide) (fun c => ?_) (fun c => ?_)
  · rw [if_neg c] at h
    refine V.aload_n (pc := 18) (i := 0) hK rfl ⟨_, rfl⟩ dX12_sure_18 ?_
    obtain ⟨z2, hz2, h⟩ := v_bdS h
    refine V.cVv (pc := 19) (ci := 12) hK (c_X12_looks E hL N _ hz2) Y_X12_looks cv_RX12_525 (by decide) rfl (hL.1 79 _ ls_79) dX12_sure_19 (by decide) rfl (Nat.le_of_ble_eq_true rfl) ?_
    refine V.aload_n (pc := 22) (i := 0) hK rfl ⟨_, rfl⟩ dX12_sure_22 ?_
    refine V.iconst (pc := 23) (v := -1) hK (by decide) dX12_sure_23 ?_
    refine V.iconst (pc := 24) (v := -1) hK (by decide) dX12_sure_24 ?_
    obtain ⟨z3, hz3, h⟩ := v_bdS h
    refine V.cV (pc := 25) (ci := 12) hK (c_X12_canBe E hL N _ _ _ hz3) Y_X12_canBe cv_RX12_528 (by decide) rfl (hL.1 79 _ ls_79) dX12_sure_25 (by decide) rfl (Nat.le_of_ble_eq_true rfl) ?_
    refine V.if_ne (pc := 28) (tgt := 34) hK dX12_sure_28 (by decide) (fun c => ?_) (fun c => ?_)
    · rw [if_neg c] at h
      refine V.aload_n (pc := 34) (i := 0) hK rfl ⟨_, rfl⟩ dX12_sure_34 ?_
      refine V.iload_n (pc := 35) (i := 1) hK rfl dX12_sure_35 ?_
      refine V.iconst (pc := 36) (v := -1) hK (by decide) dX12_sure_36 ?_
      obtain ⟨z4, hz4, h⟩ := v_bdS h
      refine V.cV (pc := 37) (ci := 12) hK (c_X12_canBe E hL N _ _ _ hz4) Y_X12_canBe cv_RX12_528 (by decide) rfl (hL.1 79 _ ls_79) dX12_sure_37 (by decide) rfl (Nat.le_of_ble_eq_true rfl) ?_
      refine V.if_ne (pc := 40) (tgt := 45) hK dX12_sure_40 (by decide) (fun c => ?_) (fun c => ?_)
      · rw [if_neg c] at h
        refine V.aload_n (pc := 45) (i := 0) hK rfl ⟨_, rfl⟩ dX12_sure_45 ?_
        refine V.getR (pc := 46) hK fl_RX12_169 rfl (hL.1 79 _ ls_79) (hL.2 79 72 132 rfl) dX12_sure_46 ?_
        refine V.iload_n (pc := 49) (i := 1) hK rfl dX12_sure_49 ?_
        obtain ⟨hb, h⟩ := v_ckS h
        refine V.zald (pc := 50) hK (hL.1 132 _ ls_132) (v_ibS hb) dX12_sure_50 ?_
        refine V.if_eq (pc := 51) (tgt := 67) hK dX12_sure_51 (by decide) (fun c => ?_) (fun c => ?_)
        · rw [if_pos c] at h
          refine V.iconst (pc := 67) (v := 2) hK (by decide) dX12_sure_67 ?_
          exact V.iret (pc := 68) hO dX12_sure_68 (v_finI h)
        · rw [if_neg c] at h
          refine V.aload_n (pc := 54) (i := 0) hK rfl ⟨_, rfl⟩ dX12_sure_54 ?_
          refine V.iconst (pc := 55) (v := -1) hK (by decide) dX12_sure_55 ?_
          refine V.iload_n (pc := 56) (i := 1) hK rfl dX12_sure_56 ?_
          obtain ⟨z5, hz5, h⟩ := v_bdS h
          refine V.cV (pc := 57) (ci := 12) hK (c_X12_canBe E hL N _ _ _ hz5) Y_X12_canBe cv_RX12_528 (by decide) rfl (hL.1 79 _ ls_79) dX12_sure_57 (by decide) rfl (Nat.le_of_ble_eq_true rfl) ?_
          refine V.if_eq (pc := 60) (tgt := 67) hK dX12_sure_60 (by decide) (fun c => ?_) (fun c => ?_)
          · rw [if_pos c] at h
            refine V.iconst (pc := 67) (v := 2) hK (by decide) dX12_sure_67 ?_
            exact V.iret (pc := 68) hO dX12_sure_68 (v_finI h)
          · rw [if_neg c] at h
            refine V.iconst (pc := 63) (v := 0) hK (by decide) dX12_sure_63 ?_
            refine V.goto (pc := 64) (tgt := 68) hK dX12_sure_64 (by decide) ?_
            exact V.iret (pc := 68) hO dX12_sure_68 (v_finI h)
      · rw [if_pos c] at h
        refine V.iconst (pc := 43) (v := 1) hK (by decide) dX12_sure_43 ?_
        exact V.iret (pc := 44) hO dX12_sure_44 (v_finI h)
    · rw [if_pos c] at h
      refine V.bipush (pc := 31) (v := -2) hK (by decide) dX12_sure_31 ?_
      exact V.iret (pc := 33) hO dX12_sure_33 (v_finI h)
  · rw [if_pos c] at h
    refine V.iconst (pc := 16) (v := -1) hK (by decide) dX12_sure_16 ?_
    exact V.iret (pc := 17) hO dX12_sure_17 (v_finI h)
set_option maxHeartbeats 4000000 in
set_option maxRecDepth 100000 in
theorem w_X12_back_L70 {E : v_E} {X : v_X} {sh : v_S} {P : v_P} {out : Int32 × v_M} (hL : v_Lay sh P) (hO : v_O E X cX12_back RX12 4 2 (some .int) "back" (v_Q1 (some (.int out.1)) sh P out.2)) (N : Nat) (k55 : Int32 → Int32 → v_M → Option (Int32 × v_M)) (hk55 : ∀ (x1 : Int32) (x2 : Int32) (M : v_M), k55 x1 x2 M = some out → V E X (0, 0) 55 [(0, v_rf E 79), (1, .int x1), (2, .int x2)] [] sh P M) (n : Nat) : ∀ (x1 : Int32) (x2 : Int32) (x3 : Int32) (M : v_M), f_X12_back_L70 N k55 n x1 x2 x3 M = some out → V E X (0, 0) 70 [(0, v_rf E 79), (1, .int x1), (2, .int x2), (3, .int x3)] [] sh P M := by
  have hK := hO.1
  induction n with
  | zero => intro x1 x2 x3 M h; rw [f_X12_back_L70] at h; cases h
  | succ n ih =>
    intro x1 x2 x3 M h
    rw [f_X12_back_L70] at h
    refine V.iload_n (pc := 70) (i := 3) hK rfl dX12_back_70 ?_
    refine V.bipush (pc := 71) (v := 24) hK (by decide) dX12_back_71 ?_
    refine V.icmp_ge (pc := 73) (tgt := 88) hK dX12_back_73 (by decide) (fun c => ?_) (fun c => ?_)
    · rw [if_pos c] at h
      refine V.iinc (pc := 88) (i := 2) (v := 1) (lv' := [(0, _), (1, _), (2, _), (3, _)]) hK rfl (by decide) (by decide) rfl dX12_back_88 ?_
      refine V.goto (pc := 91) (tgt := 55) hK dX12_back_91 (by decide) ?_
      refine V.pick [0, 1, 2] (l := [(0, _), (1, _), (2, _)]) rfl ?_
      exact hk55 _ _ _ h
    · rw [if_neg c] at h
      refine V.aload_n (pc := 76) (i := 0) hK rfl ⟨_, rfl⟩ dX12_back_76 ?_
      refine V.iload_n (pc := 77) (i := 2) hK rfl dX12_back_77 ?_
      refine V.iload_n (pc := 78) (i := 3) hK rfl dX12_back_78 ?_
      obtain ⟨z1, hz1, h⟩ := v_bdS h
      refine V.cVv (pc := 79) (ci := 12) hK (c_X12_clears E hL N _ _ _ hz1) Y_X12_clears cv_RX12_258 (by decide) rfl (hL.1 79 _ ls_79) dX12_back_79 (by decide) rfl (Nat.le_of_ble_eq_true rfl) ?_
      refine V.iinc (pc := 82) (i := 3) (v := 1) (lv' := [(0, _), (1, _), (2, _), (3, _)]) hK rfl (by decide) (by decide) rfl dX12_back_82 ?_
      refine V.goto (pc := 85) (tgt := 70) hK dX12_back_85 (by decide) ?_
      refine V.pick [0, 1, 2, 3] (l := [(0, _), (1, _), (2, _), (3, _)]) rfl ?_
      exact ih _ _ _ _ h
set_option maxHeartbeats 4000000 in
set_option maxRecDepth 100000 in
theorem w_X12_back_L55 {E : v_E} {X : v_X} {sh : v_S} {P : v_P} {out : Int32 × v_M} (hL : v_Lay sh P) (hO : v_O E X cX12_back RX12 4 2 (some .int) "back" (v_Q1 (some (.int out.1)) sh P out.2)) (N : Nat) (n : Nat) : ∀ (x1 : Int32) (x2 : Int32) (M : v_M), f_X12_back_L55 N n x1 x2 M = some out → V E X (0, 0) 55 [(0, v_rf E 79), (1, .int x1), (2, .int x2)] [] sh P M := by
  have hK := hO.1
  induction n with
  | zero => intro x1 x2 M h; rw [f_X12_back_L55] at h; cases h
  | succ n ih =>
    intro x1 x2 M h
    rw [f_X12_back_L55] at h
    refine V.iload_n (pc := 55) (i := 2) hK rfl dX12_back_55 ?_
    refine V.aload_n (pc := 56) (i := 0) hK rfl ⟨_, rfl⟩ dX12_back_56 ?_
    refine V.getI (pc := 57) hK fl_RX12_239 rfl (hL.1 79 _ ls_79) dX12_back_57 ?_
    refine V.icmp_ge (pc := 60) (tgt := 94) hK dX12_back_60 (by decide) (fun c => ?_) (fun c => ?_)
    · rw [if_pos c] at h
      refine V.aload_n (pc := 94) (i := 0) hK rfl ⟨_, rfl⟩ dX12_back_94 ?_
      obtain ⟨z1, hz1, h⟩ := v_bdS h
      refine V.cVv (pc := 95) (ci := 12) hK (c_X12_forgets E hL N _ hz1) Y_X12_forgets cv_RX12_565 (by decide) rfl (hL.1 79 _ ls_79) dX12_back_95 (by decide) rfl (Nat.le_of_ble_eq_true rfl) ?_
      refine V.aload_n (pc := 98) (i := 0) hK rfl ⟨_, rfl⟩ dX12_back_98 ?_
      refine V.getI (pc := 99) hK fl_RX12_233 rfl (hL.1 79 _ ls_79) dX12_back_99 ?_
      exact V.iret (pc := 102) hO dX12_back_102 (v_finI h)
    · rw [if_neg c] at h
      refine V.aload_n (pc := 63) (i := 0) hK rfl ⟨_, rfl⟩ dX12_back_63 ?_
      refine V.getR (pc := 64) hK fl_RX12_211 rfl (hL.1 79 _ ls_79) (hL.2 79 87 146 rfl) dX12_back_64 ?_
      refine V.iload_n (pc := 67) (i := 1) hK rfl dX12_back_67 ?_
      obtain ⟨hb, h⟩ := v_ckS h
      refine V.iald (pc := 68) hK (hL.1 146 _ ls_146) (v_ibS hb) dX12_back_68 ?_
      refine V.topi (fun y2 ey2 => ?_)
      have h := v_lt ey2 h
      refine V.istore_n (pc := 69) (i := 3) (lv' := [(0, _), (1, _), (2, _), (3, _)]) hK (by decide) rfl dX12_back_69 ?_
      refine V.pick [0, 1, 2, 3] (l := [(0, _), (1, _), (2, _), (3, _)]) rfl ?_
      exact w_X12_back_L70 hL hO N _ ih N _ _ _ _ h
set_option maxHeartbeats 4000000 in
set_option maxRecDepth 100000 in
theorem c_X12_back (E : v_E) {sh : v_S} {P : v_P} (hL : v_Lay sh P) (N : Nat) (x1 : Int32) (M : v_M) {out : Int32 × v_M} (h : f_X12_back N x1 M = some out) : v_Ct E 2 yX12_back cX12_back 4 (some .int) 0 0 [v_rf E 79, .int x1] sh P M (v_Q1 (some (.int out.1)) sh P out.2) := by
  refine v_Ct.of (by decide +kernel) (Nat.le_of_ble_eq_true rfl) (fun X hO => ?_)
  have hK : v_K E X cX12_back RX12 4 2 := hO.1
  have hO : v_O E X cX12_back RX12 4 2 (some .int) "back" (v_Q1 (some (.int out.1)) sh P out.2) := hO
  show V E X (0, 0) 0 [(0, v_rf E 79), (1, .int x1)] [] sh P M
  unfold f_X12_back at h
  refine V.iload_n (pc := 0) (i := 1) hK rfl dX12_back_0 ?_
  refine V.i2l (pc := 1) hK dX12_back_1 ?_
  refine V.lconst (pc := 2) (v := 0) hK (by decide) dX12_back_2 ?_
  refine V.ldc2 (pc := 3) hK tw_1781 dX12_back_3 ?_
  obtain ⟨z1, hz1, h⟩ := v_bdS h
  refine V.cS (pc := 6) hK (c_X12_in E hL N _ _ _ _ hz1) Y_X12_in cs_RX12_229 dX12_back_6 (by decide) rfl (Nat.le_of_ble_eq_true rfl) ?_
  refine V.if_eq (pc := 9) (tgt := 21) hK dX12_back_9 (by decide) (fun c => ?_) (fun c => ?_)
  · rw [if_pos c] at h
    refine V.iconst (pc := 21) (v := -1) hK (by decide) dX12_back_21 ?_
    exact V.iret (pc := 22) hO dX12_back_22 (v_finI h)
  · rw [if_neg c] at h
    refine V.aload_n (pc := 12) (i := 0) hK rfl ⟨_, rfl⟩ dX12_back_12 ?_
    refine V.getR (pc := 13) hK fl_RX12_220 rfl (hL.1 79 _ ls_79) (hL.2 79 90 149 rfl) dX12_back_13 ?_
    refine V.iload_n (pc := 16) (i := 1) hK rfl dX12_back_16 ?_
    obtain ⟨hb, h⟩ := v_ckS h
    refine V.zald (pc := 17) hK (hL.1 149 _ ls_149) (v_ibS hb) dX12_back_17 ?_
    refine V.if_ne (pc := 18) (tgt := 23) hK dX12_back_18 (by decide) (fun c => ?_) (fun c => ?_)
    · rw [if_neg c] at h
      refine V.aload_n (pc := 23) (i := 0) hK rfl ⟨_, rfl⟩ dX12_back_23 ?_
      refine V.iconst (pc := 24) (v := 1) hK (by decide) dX12_back_24 ?_
      obtain ⟨hb, h⟩ := v_ckS h
      refine V.putI (pc := 25) hK fl_RX12_550 rfl rfl (v_okZ hb) (hL.1 79 _ ls_79) dX12_back_25 ?_
      refine V.nmM (fun M2 eM2 => ?_)
      have h := v_lt eM2 h
      refine V.aload_n (pc := 28) (i := 0) hK rfl ⟨_, rfl⟩ dX12_back_28 ?_
      refine V.iload_n (pc := 29) (i := 1) hK rfl dX12_back_29 ?_
      obtain ⟨z3, hz3, h⟩ := v_bdS h
      refine V.cVv (pc := 30) (ci := 12) hK (c_X12_carries E hL N _ _ hz3) Y_X12_carries cv_RX12_562 (by decide) rfl (hL.1 79 _ ls_79) dX12_back_30 (by decide) rfl (Nat.le_of_ble_eq_true rfl) ?_
      refine V.aload_n (pc := 33) (i := 0) hK rfl ⟨_, rfl⟩ dX12_back_33 ?_
      refine V.aload_n (pc := 34) (i := 0) hK rfl ⟨_, rfl⟩ dX12_back_34 ?_
      refine V.getR (pc := 35) hK fl_RX12_217 rfl (hL.1 79 _ ls_79) (hL.2 79 89 148 rfl) dX12_back_35 ?_
      refine V.iload_n (pc := 38) (i := 1) hK rfl dX12_back_38 ?_
      obtain ⟨hb, h⟩ := v_ckS h
      refine V.iald (pc := 39) hK (hL.1 148 _ ls_148) (v_ibS hb) dX12_back_39 ?_
      refine V.putI (pc := 40) hK fl_RX12_233 rfl rfl ⟨rfl, rfl⟩ (hL.1 79 _ ls_79) dX12_back_40 ?_
      refine V.nmM (fun M4 eM4 => ?_)
      have h := v_lt eM4 h
      refine V.aload_n (pc := 43) (i := 0) hK rfl ⟨_, rfl⟩ dX12_back_43 ?_
      refine V.aload_n (pc := 44) (i := 0) hK rfl ⟨_, rfl⟩ dX12_back_44 ?_
      refine V.getR (pc := 45) hK fl_RX12_214 rfl (hL.1 79 _ ls_79) (hL.2 79 88 147 rfl) dX12_back_45 ?_
      refine V.iload_n (pc := 48) (i := 1) hK rfl dX12_back_48 ?_
      obtain ⟨hb, h⟩ := v_ckS h
      refine V.iald (pc := 49) hK (hL.1 147 _ ls_147) (v_ibS hb) dX12_back_49 ?_
      refine V.putI (pc := 50) hK fl_RX12_239 rfl rfl ⟨rfl, rfl⟩ (hL.1 79 _ ls_79) dX12_back_50 ?_
      refine V.nmM (fun M5 eM5 => ?_)
      have h := v_lt eM5 h
      refine V.iconst (pc := 53) (v := 0) hK (by decide) dX12_back_53 ?_
      refine V.istore_n (pc := 54) (i := 2) (lv' := [(0, _), (1, _), (2, _)]) hK (by decide) rfl dX12_back_54 ?_
      refine V.pick [0, 1, 2] (l := [(0, _), (1, _), (2, _)]) rfl ?_
      exact w_X12_back_L55 hL hO N N _ _ _ h
    · rw [if_pos c] at h
      refine V.iconst (pc := 21) (v := -1) hK (by decide) dX12_back_21 ?_
      exact V.iret (pc := 22) hO dX12_back_22 (v_finI h)
set_option maxHeartbeats 4000000 in
set_option maxRecDepth 100000 in
theorem c_X0_know (E : v_E) {sh : v_S} {P : v_P} (hL : v_Lay sh P) (N : Nat) (q1 : Nat) (hq1 : v_Fl sh P q1) (x2 : Int32) (M : v_M) {out : Int32 × v_M} (h : f_X0_know N q1 x2 M = some out) : v_Ct E 2 yX0_know cX0_know 3 none 0 0 [v_rf E 49, v_rf E q1, .int x2] sh P M (v_Q1 (none) sh P out.2) := by
  refine v_Ct.of (by decide +kernel) (Nat.le_of_ble_eq_true rfl) (fun X hO => ?_)
  have hK : v_K E X cX0_know RX0 3 2 := hO.1
  have hO : v_O E X cX0_know RX0 3 2 none "know" (v_Q1 (none) sh P out.2) := hO
  show V E X (0, 0) 0 [(0, v_rf E 49), (1, v_rf E q1), (2, .int x2)] [] sh P M
  unfold f_X0_know at h
  refine V.iload_n (pc := 0) (i := 2) hK rfl dX0_know_0 ?_
  refine V.iconst (pc := 1) (v := 0) hK (by decide) dX0_know_1 ?_
  refine V.bipush (pc := 2) (v := 19) hK (by decide) dX0_know_2 ?_
  obtain ⟨z1, hz1, h⟩ := v_bdS h
  refine V.cSN (pc := 4) hK (c_X11_within E hL N _ _ _ _ hz1) Y_X11_within cn_RX0_44 dX0_know_4 (by decide) rfl (Nat.le_of_ble_eq_true rfl) ?_
  refine V.if_ne (pc := 7) (tgt := 11) hK dX0_know_7 (by decide) (fun c => ?_) (fun c => ?_)
  · rw [if_neg c] at h
    refine V.aload_n (pc := 11) (i := 0) hK rfl ⟨_, rfl⟩ dX0_know_11 ?_
    refine V.getR (pc := 12) hK fl_RX0_31 rfl (hL.1 49 _ ls_49) (hL.2 49 6 50 rfl) dX0_know_12 ?_
    refine V.iconst (pc := 15) (v := 2) hK (by decide) dX0_know_15 ?_
    refine V.aload_n (pc := 16) (i := 1) hK rfl ⟨_, rfl⟩ dX0_know_16 ?_
    refine V.getR (pc := 17) hK fl_RX0_48 rfl (hq1.1 0 _ rfl) (hq1.2 5 5 rfl) dX0_know_17 ?_
    refine V.iload_n (pc := 20) (i := 2) hK rfl dX0_know_20 ?_
    obtain ⟨hb, h⟩ := v_ckS h
    refine V.iald (pc := 21) hK (hq1.1 5 _ rfl) (v_ibS hb) dX0_know_21 ?_
    obtain ⟨hb, h⟩ := v_ckS h
    refine V.iast (pc := 22) hK (hL.1 50 _ ls_50) (v_ibS hb) dX0_know_22 ?_
    refine V.nmM (fun M2 eM2 => ?_)
    have h := v_lt eM2 h
    refine V.aload_n (pc := 23) (i := 0) hK rfl ⟨_, rfl⟩ dX0_know_23 ?_
    refine V.getR (pc := 24) hK fl_RX0_31 rfl (hL.1 49 _ ls_49) (hL.2 49 6 50 rfl) dX0_know_24 ?_
    refine V.iconst (pc := 27) (v := 3) hK (by decide) dX0_know_27 ?_
    refine V.aload_n (pc := 28) (i := 1) hK rfl ⟨_, rfl⟩ dX0_know_28 ?_
    refine V.aload_n (pc := 29) (i := 1) hK rfl ⟨_, rfl⟩ dX0_know_29 ?_
    refine V.getR (pc := 30) hK fl_RX0_53 rfl (hq1.1 0 _ rfl) (hq1.2 3 3 rfl) dX0_know_30 ?_
    refine V.iload_n (pc := 33) (i := 2) hK rfl dX0_know_33 ?_
    obtain ⟨z3, hz3, h⟩ := v_bdS h
    refine V.cV (pc := 34) (ci := 4) hK (c_X4_sumOf E hL N _ hq1 _ _ (hq1.1 3 _ rfl) _ _ hz3) Y_X4_sumOf cv_RX0_56 (by decide) rfl (hq1.1 0 _ rfl) dX0_know_34 (by decide) rfl (Nat.le_of_ble_eq_true rfl) ?_
    obtain ⟨hb, h⟩ := v_ckS h
    refine V.iast (pc := 37) hK (hL.1 50 _ ls_50) (v_ibS hb) dX0_know_37 ?_
    refine V.nmM (fun M4 eM4 => ?_)
    have h := v_lt eM4 h
    refine V.aload_n (pc := 38) (i := 0) hK rfl ⟨_, rfl⟩ dX0_know_38 ?_
    refine V.getR (pc := 39) hK fl_RX0_31 rfl (hL.1 49 _ ls_49) (hL.2 49 6 50 rfl) dX0_know_39 ?_
    refine V.iconst (pc := 42) (v := 4) hK (by decide) dX0_know_42 ?_
    refine V.aload_n (pc := 43) (i := 1) hK rfl ⟨_, rfl⟩ dX0_know_43 ?_
    refine V.aload_n (pc := 44) (i := 1) hK rfl ⟨_, rfl⟩ dX0_know_44 ?_
    refine V.getR (pc := 45) hK fl_RX0_60 rfl (hq1.1 0 _ rfl) (hq1.2 1 1 rfl) dX0_know_45 ?_
    refine V.iload_n (pc := 48) (i := 2) hK rfl dX0_know_48 ?_
    obtain ⟨z5, hz5, h⟩ := v_bdS h
    refine V.cV (pc := 49) (ci := 4) hK (c_X4_sumOf E hL N _ hq1 _ _ (hq1.1 1 _ rfl) _ _ hz5) Y_X4_sumOf cv_RX0_56 (by decide) rfl (hq1.1 0 _ rfl) dX0_know_49 (by decide) rfl (Nat.le_of_ble_eq_true rfl) ?_
    obtain ⟨hb, h⟩ := v_ckS h
    refine V.iast (pc := 52) hK (hL.1 50 _ ls_50) (v_ibS hb) dX0_know_52 ?_
    refine V.nmM (fun M6 eM6 => ?_)
    have h := v_lt eM6 h
    exact V.vret (pc := 53) hO dX0_know_53 (v_finV h)
  · rw [if_pos c] at h
    exact V.vret (pc := 10) hO dX0_know_10 (v_finV h)
set_option maxHeartbeats 4000000 in
set_option maxRecDepth 100000 in
theorem w_X0_valueOf_L159 {E : v_E} {X : v_X} {sh : v_S} {P : v_P} {out : Int32 × v_M} (hL : v_Lay sh P) (q1 : Nat) (hq1 : v_Or sh P q1) (hO : v_O E X cX0_valueOf RX0 7 2 (some .int) "valueOf" (v_Q1 (some (.int out.1)) sh P out.2)) (N : Nat) (M : v_M) (h : f_X0_valueOf_L159 N q1 M = some out) : V E X (0, 0) 159 [(0, v_rf E 49)] [] sh P M := by
  have hK := hO.1
  unfold f_X0_valueOf_L159 at h
  refine V.aload_n (pc := 159) (i := 0) hK rfl ⟨_, rfl⟩ dX0_valueOf_159 ?_
  refine V.getR (pc := 160) hK fl_RX0_35 rfl (hL.1 49 _ ls_49) (hL.2 49 7 51 rfl) dX0_valueOf_160 ?_
  refine V.iconst (pc := 163) (v := 0) hK (by decide) dX0_valueOf_163 ?_
  obtain ⟨hb, h⟩ := v_ckS h
  refine V.iald (pc := 164) hK (hL.1 51 _ ls_51) (v_ibS hb) dX0_valueOf_164 ?_
  exact V.iret (pc := 165) hO dX0_valueOf_165 (v_finI h)
set_option maxHeartbeats 4000000 in
set_option maxRecDepth 100000 in
theorem w_X0_valueOf_L153 {E : v_E} {X : v_X} {sh : v_S} {P : v_P} {out : Int32 × v_M} (hL : v_Lay sh P) (q1 : Nat) (hq1 : v_Or sh P q1) (hO : v_O E X cX0_valueOf RX0 7 2 (some .int) "valueOf" (v_Q1 (some (.int out.1)) sh P out.2)) (N : Nat) (k10 : Int32 → Int32 → Int32 → v_M → Option (Int32 × v_M)) (hk10 : ∀ (x3 : Int32) (x4 : Int32) (x5 : Int32) (M : v_M), k10 x3 x4 x5 M = some out → V E X (0, 0) 10 [(0, v_rf E 49), (1, v_rf E q1), (3, .int x3), (4, .int x4), (5, .int x5)] [] sh P M) (x3 : Int32) (x4 : Int32) (x5 : Int32) (M : v_M) (h : f_X0_valueOf_L153 N q1 k10 x3 x4 x5 M = some out) : V E X (0, 0) 153 [(0, v_rf E 49), (1, v_rf E q1), (3, .int x3), (4, .int x4), (5, .int x5)] [] sh P M := by
  have hK := hO.1
  unfold f_X0_valueOf_L153 at h
  refine V.iinc (pc := 153) (i := 5) (v := 1) (lv' := [(0, _), (1, _), (3, _), (4, _), (5, _)]) hK rfl (by decide) (by decide) rfl dX0_valueOf_153 ?_
  refine V.goto (pc := 156) (tgt := 10) hK dX0_valueOf_156 (by decide) ?_
  refine V.pick [0, 1, 3, 4, 5] (l := [(0, _), (1, _), (3, _), (4, _), (5, _)]) rfl ?_
  exact hk10 _ _ _ _ h
set_option maxHeartbeats 4000000 in
set_option maxRecDepth 100000 in
theorem w_X0_valueOf_L72 {E : v_E} {X : v_X} {sh : v_S} {P : v_P} {out : Int32 × v_M} (hL : v_Lay sh P) (q1 : Nat) (hq1 : v_Or sh P q1) (hO : v_O E X cX0_valueOf RX0 7 2 (some .int) "valueOf" (v_Q1 (some (.int out.1)) sh P out.2)) (N : Nat) (k10 : Int32 → Int32 → Int32 → v_M → Option (Int32 × v_M)) (hk10 : ∀ (x3 : Int32) (x4 : Int32) (x5 : Int32) (M : v_M), k10 x3 x4 x5 M = some out → V E X (0, 0) 10 [(0, v_rf E 49), (1, v_rf E q1), (3, .int x3), (4, .int x4), (5, .int x5)] [] sh P M) (x3 : Int32) (x4 : Int32) (x5 : Int32) (t0 : Int32) (t1 : Int32) (M : v_M) (h : f_X0_valueOf_L72 N q1 k10 x3 x4 x5 t0 t1 M = some out) : V E X (0, 0) 72 [(0, v_rf E 49), (1, v_rf E q1), (3, .int x3), (4, .int x4), (5, .int x5)] [.int t0, .int t1, v_rf E 51] sh P M := by
  have hK := hO.1
  unfold f_X0_valueOf_L72 at h
  obtain ⟨hb, h⟩ := v_ckS h
  refine V.iast (pc := 72) hK (hL.1 51 _ ls_51) (v_ibS hb) dX0_valueOf_72 ?_
  refine V.nmM (fun M1 eM1 => ?_)
  have h := v_lt eM1 h
  refine V.iinc (pc := 73) (i := 4) (v := 1) (lv' := [(0, _), (1, _), (3, _), (4, _), (5, _)]) hK rfl (by decide) (by decide) rfl dX0_valueOf_73 ?_
  refine V.goto (pc := 76) (tgt := 153) hK dX0_valueOf_76 (by decide) ?_
  refine V.pick [0, 1, 3, 4, 5] (l := [(0, _), (1, _), (3, _), (4, _), (5, _)]) rfl ?_
  exact w_X0_valueOf_L153 hL q1 hq1 hO N _ hk10 _ _ _ _ h
set_option maxHeartbeats 4000000 in
set_option maxRecDepth 100000 in
theorem w_X0_valueOf_L10 {E : v_E} {X : v_X} {sh : v_S} {P : v_P} {out : Int32 × v_M} (hL : v_Lay sh P) (q1 : Nat) (hq1 : v_Or sh P q1) (hO : v_O E X cX0_valueOf RX0 7 2 (some .int) "valueOf" (v_Q1 (some (.int out.1)) sh P out.2)) (N : Nat) (n : Nat) : ∀ (x3 : Int32) (x4 : Int32) (x5 : Int32) (M : v_M), f_X0_valueOf_L10 N q1 n x3 x4 x5 M = some out → V E X (0, 0) 10 [(0, v_rf E 49), (1, v_rf E q1), (3, .int x3), (4, .int x4), (5, .int x5)] [] sh P M := by
  have hK := hO.1
  induction n with
  | zero => intro x3 x4 x5 M h; rw [f_X0_valueOf_L10] at h; cases h
  | succ n ih =>
    intro x3 x4 x5 M h
    rw [f_X0_valueOf_L10] at h
    refine V.iload (pc := 10) (i := 5) hK rfl dX0_valueOf_10 ?_
    refine V.iload_n (pc := 12) (i := 3) hK rfl dX0_valueOf_12 ?_
    refine V.icmp_ge (pc := 13) (tgt := 159) hK dX0_valueOf_13 (by decide) (fun c => ?_) (fun c => ?_)
    · rw [if_pos c] at h
      refine V.pick [0] (l := [(0, _)]) rfl ?_
      exact w_X0_valueOf_L159 hL q1 hq1 hO N  _ h
    · rw [if_neg c] at h
      refine V.iload (pc := 16) (i := 5) hK rfl dX0_valueOf_16 ?_
      refine V.sipush (pc := 18) (v := 400) hK (by decide) dX0_valueOf_18 ?_
      refine V.icmp_ge (pc := 21) (tgt := 159) hK dX0_valueOf_21 (by decide) (fun c => ?_) (fun c => ?_)
      · rw [if_pos c] at h
        refine V.pick [0] (l := [(0, _)]) rfl ?_
        exact w_X0_valueOf_L159 hL q1 hq1 hO N  _ h
      · rw [if_neg c] at h
        refine V.aload_n (pc := 24) (i := 1) hK rfl ⟨_, rfl⟩ dX0_valueOf_24 ?_
        refine V.getR (pc := 25) hK fl_RX0_100 rfl (hq1.1 0 _ rfl) (hq1.2 9 6 rfl) dX0_valueOf_25 ?_
        refine V.iload (pc := 28) (i := 5) hK rfl dX0_valueOf_28 ?_
        obtain ⟨hb, h⟩ := v_ckS h
        refine V.iald (pc := 30) hK (hq1.1 6 _ rfl) (v_ibS hb) dX0_valueOf_30 ?_
        refine V.topi (fun y1 ey1 => ?_)
        have h := v_lt ey1 h
        refine V.istore (pc := 31) (i := 6) (lv' := [(0, _), (1, _), (3, _), (4, _), (5, _), (6, _)]) hK (by decide) rfl dX0_valueOf_31 ?_
        refine V.iload (pc := 33) (i := 6) hK rfl dX0_valueOf_33 ?_
        refine V.bipush (pc := 35) (v := -7) hK (by decide) dX0_valueOf_35 ?_
        refine V.icmp_lt (pc := 37) (tgt := 79) hK dX0_valueOf_37 (by decide) (fun c => ?_) (fun c => ?_)
        · rw [if_pos c] at h
          refine V.iload (pc := 79) (i := 6) hK rfl dX0_valueOf_79 ?_
          refine V.bipush (pc := 81) (v := -8) hK (by decide) dX0_valueOf_81 ?_
          refine V.icmp_ne (pc := 83) (tgt := 114) hK dX0_valueOf_83 (by decide) (fun c => ?_) (fun c => ?_)
          · rw [if_neg c] at h
            refine V.iload (pc := 114) (i := 4) hK rfl dX0_valueOf_114 ?_
            refine V.iconst (pc := 116) (v := 1) hK (by decide) dX0_valueOf_116 ?_
            refine V.icmp_le (pc := 117) (tgt := 153) hK dX0_valueOf_117 (by decide) (fun c => ?_) (fun c => ?_)
            · rw [if_pos c] at h
              refine V.pick [0, 1, 3, 4, 5] (l := [(0, _), (1, _), (3, _), (4, _), (5, _)]) rfl ?_
              exact w_X0_valueOf_L153 hL q1 hq1 hO N _ ih _ _ _ _ h
            · rw [if_neg c] at h
              refine V.iinc (pc := 120) (i := 4) (v := -1) (lv' := [(0, _), (1, _), (3, _), (4, _), (5, _), (6, _)]) hK rfl (by decide) (by decide) rfl dX0_valueOf_120 ?_
              refine V.aload_n (pc := 123) (i := 0) hK rfl ⟨_, rfl⟩ dX0_valueOf_123 ?_
              refine V.getR (pc := 124) hK fl_RX0_35 rfl (hL.1 49 _ ls_49) (hL.2 49 7 51 rfl) dX0_valueOf_124 ?_
              refine V.iload (pc := 127) (i := 4) hK rfl dX0_valueOf_127 ?_
              refine V.iconst (pc := 129) (v := 1) hK (by decide) dX0_valueOf_129 ?_
              refine V.isub (pc := 130) hK dX0_valueOf_130 ?_
              refine V.iload (pc := 131) (i := 6) hK rfl dX0_valueOf_131 ?_
              refine V.aload_n (pc := 133) (i := 0) hK rfl ⟨_, rfl⟩ dX0_valueOf_133 ?_
              refine V.getR (pc := 134) hK fl_RX0_35 rfl (hL.1 49 _ ls_49) (hL.2 49 7 51 rfl) dX0_valueOf_134 ?_
              refine V.iload (pc := 137) (i := 4) hK rfl dX0_valueOf_137 ?_
              refine V.iconst (pc := 139) (v := 1) hK (by decide) dX0_valueOf_139 ?_
              refine V.isub (pc := 140) hK dX0_valueOf_140 ?_
              obtain ⟨hb, h⟩ := v_ckS h
              refine V.iald (pc := 141) hK (hL.1 51 _ ls_51) (v_ibS hb) dX0_valueOf_141 ?_
              refine V.aload_n (pc := 142) (i := 0) hK rfl ⟨_, rfl⟩ dX0_valueOf_142 ?_
              refine V.getR (pc := 143) hK fl_RX0_35 rfl (hL.1 49 _ ls_49) (hL.2 49 7 51 rfl) dX0_valueOf_143 ?_
              refine V.iload (pc := 146) (i := 4) hK rfl dX0_valueOf_146 ?_
              obtain ⟨hb, h⟩ := v_ckS h
              refine V.iald (pc := 148) hK (hL.1 51 _ ls_51) (v_ibS hb) dX0_valueOf_148 ?_
              obtain ⟨z2, hz2, h⟩ := v_bdS h
              refine V.cS (pc := 149) hK (c_X0_joined E hL N _ _ _ _ hz2) Y_X0_joined cs_RX0_103 dX0_valueOf_149 (by decide) rfl (Nat.le_of_ble_eq_true rfl) ?_
              obtain ⟨hb, h⟩ := v_ckS h
              refine V.iast (pc := 152) hK (hL.1 51 _ ls_51) (v_ibS hb) dX0_valueOf_152 ?_
              refine V.nmM (fun M3 eM3 => ?_)
              have h := v_lt eM3 h
              refine V.pick [0, 1, 3, 4, 5] (l := [(0, _), (1, _), (3, _), (4, _), (5, _)]) rfl ?_
              exact w_X0_valueOf_L153 hL q1 hq1 hO N _ ih _ _ _ _ h
          · rw [if_pos c] at h
            refine V.iload (pc := 86) (i := 4) hK rfl dX0_valueOf_86 ?_
            refine V.if_le (pc := 88) (tgt := 153) hK dX0_valueOf_88 (by decide) (fun c => ?_) (fun c => ?_)
            · rw [if_pos c] at h
              refine V.pick [0, 1, 3, 4, 5] (l := [(0, _), (1, _), (3, _), (4, _), (5, _)]) rfl ?_
              exact w_X0_valueOf_L153 hL q1 hq1 hO N _ ih _ _ _ _ h
            · rw [if_neg c] at h
              refine V.aload_n (pc := 91) (i := 0) hK rfl ⟨_, rfl⟩ dX0_valueOf_91 ?_
              refine V.getR (pc := 92) hK fl_RX0_35 rfl (hL.1 49 _ ls_49) (hL.2 49 7 51 rfl) dX0_valueOf_92 ?_
              refine V.iload (pc := 95) (i := 4) hK rfl dX0_valueOf_95 ?_
              refine V.iconst (pc := 97) (v := 1) hK (by decide) dX0_valueOf_97 ?_
              refine V.isub (pc := 98) hK dX0_valueOf_98 ?_
              refine V.iconst (pc := 99) (v := 1) hK (by decide) dX0_valueOf_99 ?_
              refine V.aload_n (pc := 100) (i := 0) hK rfl ⟨_, rfl⟩ dX0_valueOf_100 ?_
              refine V.getR (pc := 101) hK fl_RX0_35 rfl (hL.1 49 _ ls_49) (hL.2 49 7 51 rfl) dX0_valueOf_101 ?_
              refine V.iload (pc := 104) (i := 4) hK rfl dX0_valueOf_104 ?_
              refine V.iconst (pc := 106) (v := 1) hK (by decide) dX0_valueOf_106 ?_
              refine V.isub (pc := 107) hK dX0_valueOf_107 ?_
              obtain ⟨hb, h⟩ := v_ckS h
              refine V.iald (pc := 108) hK (hL.1 51 _ ls_51) (v_ibS hb) dX0_valueOf_108 ?_
              refine V.isub (pc := 109) hK dX0_valueOf_109 ?_
              obtain ⟨hb, h⟩ := v_ckS h
              refine V.iast (pc := 110) hK (hL.1 51 _ ls_51) (v_ibS hb) dX0_valueOf_110 ?_
              refine V.nmM (fun M4 eM4 => ?_)
              have h := v_lt eM4 h
              refine V.goto (pc := 111) (tgt := 153) hK dX0_valueOf_111 (by decide) ?_
              refine V.pick [0, 1, 3, 4, 5] (l := [(0, _), (1, _), (3, _), (4, _), (5, _)]) rfl ?_
              exact w_X0_valueOf_L153 hL q1 hq1 hO N _ ih _ _ _ _ h
        · rw [if_neg c] at h
          refine V.iload (pc := 40) (i := 4) hK rfl dX0_valueOf_40 ?_
          refine V.bipush (pc := 42) (v := 64) hK (by decide) dX0_valueOf_42 ?_
          refine V.icmp_ge (pc := 44) (tgt := 153) hK dX0_valueOf_44 (by decide) (fun c => ?_) (fun c => ?_)
          · rw [if_pos c] at h
            refine V.pick [0, 1, 3, 4, 5] (l := [(0, _), (1, _), (3, _), (4, _), (5, _)]) rfl ?_
            exact w_X0_valueOf_L153 hL q1 hq1 hO N _ ih _ _ _ _ h
          · rw [if_neg c] at h
            refine V.aload_n (pc := 47) (i := 0) hK rfl ⟨_, rfl⟩ dX0_valueOf_47 ?_
            refine V.getR (pc := 48) hK fl_RX0_35 rfl (hL.1 49 _ ls_49) (hL.2 49 7 51 rfl) dX0_valueOf_48 ?_
            refine V.iload (pc := 51) (i := 4) hK rfl dX0_valueOf_51 ?_
            refine V.iload (pc := 53) (i := 6) hK rfl dX0_valueOf_53 ?_
            refine V.if_lt (pc := 55) (tgt := 63) hK dX0_valueOf_55 (by decide) (fun c => ?_) (fun c => ?_)
            · rw [if_pos c] at h
              refine V.aload_n (pc := 63) (i := 0) hK rfl ⟨_, rfl⟩ dX0_valueOf_63 ?_
              refine V.getR (pc := 64) hK fl_RX0_31 rfl (hL.1 49 _ ls_49) (hL.2 49 6 50 rfl) dX0_valueOf_64 ?_
              refine V.iconst (pc := 67) (v := -1) hK (by decide) dX0_valueOf_67 ?_
              refine V.iload (pc := 68) (i := 6) hK rfl dX0_valueOf_68 ?_
              refine V.isub (pc := 70) hK dX0_valueOf_70 ?_
              obtain ⟨hb, h⟩ := v_ckS h
              refine V.iald (pc := 71) hK (hL.1 50 _ ls_50) (v_ibS hb) dX0_valueOf_71 ?_
              refine V.pick [0, 1, 3, 4, 5] (l := [(0, _), (1, _), (3, _), (4, _), (5, _)]) rfl ?_
              exact w_X0_valueOf_L72 hL q1 hq1 hO N _ ih _ _ _ _ _ _ h
            · rw [if_neg c] at h
              refine V.iload (pc := 58) (i := 6) hK rfl dX0_valueOf_58 ?_
              refine V.goto (pc := 60) (tgt := 72) hK dX0_valueOf_60 (by decide) ?_
              refine V.pick [0, 1, 3, 4, 5] (l := [(0, _), (1, _), (3, _), (4, _), (5, _)]) rfl ?_
              exact w_X0_valueOf_L72 hL q1 hq1 hO N _ ih _ _ _ _ _ _ h
set_option maxHeartbeats 4000000 in
set_option maxRecDepth 100000 in
theorem c_X0_valueOf (E : v_E) {sh : v_S} {P : v_P} (hL : v_Lay sh P) (N : Nat) (q1 : Nat) (hq1 : v_Or sh P q1) (x2 : Int32) (x3 : Int32) (M : v_M) {out : Int32 × v_M} (h : f_X0_valueOf N q1 x2 x3 M = some out) : v_Ct E 2 yX0_valueOf cX0_valueOf 7 (some .int) 0 0 [v_rf E 49, v_rf E q1, .int x2, .int x3] sh P M (v_Q1 (some (.int out.1)) sh P out.2) := by
  refine v_Ct.of (by decide +kernel) (Nat.le_of_ble_eq_true rfl) (fun X hO => ?_)
  have hK : v_K E X cX0_valueOf RX0 7 2 := hO.1
  have hO : v_O E X cX0_valueOf RX0 7 2 (some .int) "valueOf" (v_Q1 (some (.int out.1)) sh P out.2) := hO
  show V E X (0, 0) 0 [(0, v_rf E 49), (1, v_rf E q1), (2, .int x2), (3, .int x3)] [] sh P M
  unfold f_X0_valueOf at h
  refine V.iconst (pc := 0) (v := 0) hK (by decide) dX0_valueOf_0 ?_
  refine V.istore (pc := 1) (i := 4) (lv' := [(0, _), (1, _), (2, _), (3, _), (4, _)]) hK (by decide) rfl dX0_valueOf_1 ?_
  refine V.iconst (pc := 3) (v := 0) hK (by decide) dX0_valueOf_3 ?_
  refine V.iload_n (pc := 4) (i := 2) hK rfl dX0_valueOf_4 ?_
  refine V.mmax (pc := 5) hK tw_931 tw_mmaxs tw_mi tw_mmaxc dX0_valueOf_5 (by decide) (Nat.le_of_ble_eq_true rfl) ?_
  refine V.topi (fun y1 ey1 => ?_)
  have h := v_lt ey1 h
  refine V.istore (pc := 8) (i := 5) (lv' := [(0, _), (1, _), (2, _), (3, _), (4, _), (5, _)]) hK (by decide) rfl dX0_valueOf_8 ?_
  refine V.pick [0, 1, 3, 4, 5] (l := [(0, _), (1, _), (3, _), (4, _), (5, _)]) rfl ?_
  exact w_X0_valueOf_L10 hL q1 hq1 hO N N _ _ _ _ h
set_option maxHeartbeats 4000000 in
set_option maxRecDepth 100000 in
theorem w_X2_press_L164 {E : v_E} {X : v_X} {sh : v_S} {P : v_P} {out : Int32 × v_M} (hL : v_Lay sh P) (hO : v_O E X cX2_press RX2 9 3 none "press" (v_Q1 (none) sh P out.2)) (N : Nat) (k31 : Int32 → v_M → Option (Int32 × v_M)) (hk31 : ∀ (x5 : Int32) (M : v_M), k31 x5 M = some out → V E X (0, 0) 31 [(0, v_rf E 18), (1, v_rf E 1), (5, .int x5)] [] sh P M) (x5 : Int32) (M : v_M) (h : f_X2_press_L164 N k31 x5 M = some out) : V E X (0, 0) 164 [(0, v_rf E 18), (1, v_rf E 1), (5, .int x5)] [] sh P M := by
  have hK := hO.1
  unfold f_X2_press_L164 at h
  refine V.iinc (pc := 164) (i := 5) (v := 1) (lv' := [(0, _), (1, _), (5, _)]) hK rfl (by decide) (by decide) rfl dX2_press_164 ?_
  refine V.goto (pc := 167) (tgt := 31) hK dX2_press_167 (by decide) ?_
  refine V.pick [0, 1, 5] (l := [(0, _), (1, _), (5, _)]) rfl ?_
  exact hk31 _ _ h
set_option maxHeartbeats 4000000 in
set_option maxRecDepth 100000 in
theorem w_X2_press_L31 {E : v_E} {X : v_X} {sh : v_S} {P : v_P} {out : Int32 × v_M} (hL : v_Lay sh P) (hO : v_O E X cX2_press RX2 9 3 none "press" (v_Q1 (none) sh P out.2)) (N : Nat) (n : Nat) : ∀ (x5 : Int32) (M : v_M), f_X2_press_L31 N n x5 M = some out → V E X (0, 0) 31 [(0, v_rf E 18), (1, v_rf E 1), (5, .int x5)] [] sh P M := by
  have hK := hO.1
  induction n with
  | zero => intro x5 M h; rw [f_X2_press_L31] at h; cases h
  | succ n ih =>
    intro x5 M h
    rw [f_X2_press_L31] at h
    refine V.iload (pc := 31) (i := 5) hK rfl dX2_press_31 ?_
    refine V.aload_n (pc := 33) (i := 1) hK rfl ⟨_, rfl⟩ dX2_press_33 ?_
    refine V.getI (pc := 34) hK fl_RX2_76 rfl (hL.1 1 _ ls_1) dX2_press_34 ?_
    refine V.icmp_ge (pc := 37) (tgt := 170) hK dX2_press_37 (by decide) (fun c => ?_) (fun c => ?_)
    · rw [if_pos c] at h
      exact V.vret (pc := 170) hO dX2_press_170 (v_finV h)
    · rw [if_neg c] at h
      refine V.aload_n (pc := 40) (i := 1) hK rfl ⟨_, rfl⟩ dX2_press_40 ?_
      refine V.getR (pc := 41) hK fl_RX2_80 rfl (hL.1 1 _ ls_1) (hL.2 1 2 3 rfl) dX2_press_41 ?_
      refine V.iload (pc := 44) (i := 5) hK rfl dX2_press_44 ?_
      obtain ⟨hb, h⟩ := v_ckS h
      refine V.iald (pc := 46) hK (hL.1 3 _ ls_3) (v_ibS hb) dX2_press_46 ?_
      refine V.topi (fun y1 ey1 => ?_)
      have h := v_lt ey1 h
      refine V.istore (pc := 47) (i := 6) (lv' := [(0, _), (1, _), (5, _), (6, _)]) hK (by decide) rfl dX2_press_47 ?_
      refine V.aload_n (pc := 49) (i := 1) hK rfl ⟨_, rfl⟩ dX2_press_49 ?_
      refine V.getR (pc := 50) hK fl_RX2_83 rfl (hL.1 1 _ ls_1) (hL.2 1 5 6 rfl) dX2_press_50 ?_
      refine V.iload (pc := 53) (i := 5) hK rfl dX2_press_53 ?_
      obtain ⟨hb, h⟩ := v_ckS h
      refine V.iald (pc := 55) hK (hL.1 6 _ ls_6) (v_ibS hb) dX2_press_55 ?_
      refine V.topi (fun y2 ey2 => ?_)
      have h := v_lt ey2 h
      refine V.istore (pc := 56) (i := 7) (lv' := [(0, _), (1, _), (5, _), (6, _), (7, _)]) hK (by decide) rfl dX2_press_56 ?_
      refine V.iload (pc := 58) (i := 6) hK rfl dX2_press_58 ?_
      refine V.if_lt (pc := 60) (tgt := 164) hK dX2_press_60 (by decide) (fun c => ?_) (fun c => ?_)
      · rw [if_pos c] at h
        refine V.pick [0, 1, 5] (l := [(0, _), (1, _), (5, _)]) rfl ?_
        exact w_X2_press_L164 hL hO N _ ih _ _ h
      · rw [if_neg c] at h
        refine V.iload (pc := 63) (i := 6) hK rfl dX2_press_63 ?_
        refine V.iload (pc := 65) (i := 5) hK rfl dX2_press_65 ?_
        refine V.icmp_ge (pc := 67) (tgt := 164) hK dX2_press_67 (by decide) (fun c => ?_) (fun c => ?_)
        · rw [if_pos c] at h
          refine V.pick [0, 1, 5] (l := [(0, _), (1, _), (5, _)]) rfl ?_
          exact w_X2_press_L164 hL hO N _ ih _ _ h
        · rw [if_neg c] at h
          refine V.iload (pc := 70) (i := 7) hK rfl dX2_press_70 ?_
          refine V.iconst (pc := 72) (v := 1) hK (by decide) dX2_press_72 ?_
          refine V.icmp_ge (pc := 73) (tgt := 79) hK dX2_press_73 (by decide) (fun c => ?_) (fun c => ?_)
          · rw [if_pos c] at h
            refine V.iconst (pc := 79) (v := 0) hK (by decide) dX2_press_79 ?_
            refine V.aload_n (pc := 80) (i := 0) hK rfl ⟨_, rfl⟩ dX2_press_80 ?_
            refine V.getR (pc := 81) hK fl_RX2_30 rfl (hL.1 18 _ ls_18) (hL.2 18 6 25 rfl) dX2_press_81 ?_
            refine V.iload (pc := 84) (i := 6) hK rfl dX2_press_84 ?_
            obtain ⟨hb, h⟩ := v_ckS h
            refine V.iald (pc := 86) hK (hL.1 25 _ ls_25) (v_ibS hb) dX2_press_86 ?_
            refine V.aload_n (pc := 87) (i := 0) hK rfl ⟨_, rfl⟩ dX2_press_87 ?_
            refine V.getR (pc := 88) hK fl_RX2_9 rfl (hL.1 18 _ ls_18) (hL.2 18 0 19 rfl) dX2_press_88 ?_
            refine V.iload (pc := 91) (i := 5) hK rfl dX2_press_91 ?_
            obtain ⟨hb, h⟩ := v_ckS h
            refine V.iald (pc := 93) hK (hL.1 19 _ ls_19) (v_ibS hb) dX2_press_93 ?_
            refine V.isub (pc := 94) hK dX2_press_94 ?_
            refine V.aload_n (pc := 95) (i := 0) hK rfl ⟨_, rfl⟩ dX2_press_95 ?_
            refine V.getR (pc := 96) hK fl_RX2_21 rfl (hL.1 18 _ ls_18) (hL.2 18 3 22 rfl) dX2_press_96 ?_
            refine V.iload (pc := 99) (i := 5) hK rfl dX2_press_99 ?_
            obtain ⟨hb, h⟩ := v_ckS h
            refine V.iald (pc := 101) hK (hL.1 22 _ ls_22) (v_ibS hb) dX2_press_101 ?_
            refine V.isub (pc := 102) hK dX2_press_102 ?_
            refine V.mmax (pc := 103) hK tw_593 tw_mmaxs tw_mi tw_mmaxc dX2_press_103 (by decide) (Nat.le_of_ble_eq_true rfl) ?_
            refine V.topi (fun y3 ey3 => ?_)
            have h := v_lt ey3 h
            refine V.istore (pc := 106) (i := 8) (lv' := [(0, _), (1, _), (5, _), (6, _), (7, _), (8, _)]) hK (by decide) rfl dX2_press_106 ?_
            refine V.aload_n (pc := 108) (i := 0) hK rfl ⟨_, rfl⟩ dX2_press_108 ?_
            refine V.getR (pc := 109) hK fl_RX2_33 rfl (hL.1 18 _ ls_18) (hL.2 18 7 26 rfl) dX2_press_109 ?_
            refine V.iload (pc := 112) (i := 5) hK rfl dX2_press_112 ?_
            refine V.iload (pc := 114) (i := 8) hK rfl dX2_press_114 ?_
            refine V.aload_n (pc := 116) (i := 1) hK rfl ⟨_, rfl⟩ dX2_press_116 ?_
            refine V.getR (pc := 117) hK fl_RX2_89 rfl (hL.1 1 _ ls_1) (hL.2 1 4 5 rfl) dX2_press_117 ?_
            refine V.iload (pc := 120) (i := 5) hK rfl dX2_press_120 ?_
            obtain ⟨hb, h⟩ := v_ckS h
            refine V.iald (pc := 122) hK (hL.1 5 _ ls_5) (v_ibS hb) dX2_press_122 ?_
            refine V.imul (pc := 123) hK dX2_press_123 ?_
            refine V.iload (pc := 124) (i := 7) hK rfl dX2_press_124 ?_
            obtain ⟨hb, h⟩ := v_ckS h
            refine V.idiv (pc := 126) hK (v_nzS hb) dX2_press_126 ?_
            obtain ⟨hb, h⟩ := v_ckS h
            refine V.iast (pc := 127) hK (hL.1 26 _ ls_26) (v_ibS hb) dX2_press_127 ?_
            refine V.nmM (fun M4 eM4 => ?_)
            have h := v_lt eM4 h
            refine V.aload_n (pc := 128) (i := 0) hK rfl ⟨_, rfl⟩ dX2_press_128 ?_
            refine V.getR (pc := 129) hK fl_RX2_30 rfl (hL.1 18 _ ls_18) (hL.2 18 6 25 rfl) dX2_press_129 ?_
            refine V.iload (pc := 132) (i := 5) hK rfl dX2_press_132 ?_
            refine V.iconst (pc := 134) (v := 0) hK (by decide) dX2_press_134 ?_
            refine V.aload_n (pc := 135) (i := 0) hK rfl ⟨_, rfl⟩ dX2_press_135 ?_
            refine V.getR (pc := 136) hK fl_RX2_33 rfl (hL.1 18 _ ls_18) (hL.2 18 7 26 rfl) dX2_press_136 ?_
            refine V.iload (pc := 139) (i := 5) hK rfl dX2_press_139 ?_
            obtain ⟨hb, h⟩ := v_ckS h
            refine V.iald (pc := 141) hK (hL.1 26 _ ls_26) (v_ibS hb) dX2_press_141 ?_
            refine V.aload_n (pc := 142) (i := 1) hK rfl ⟨_, rfl⟩ dX2_press_142 ?_
            refine V.getR (pc := 143) hK fl_RX2_92 rfl (hL.1 1 _ ls_1) (hL.2 1 6 7 rfl) dX2_press_143 ?_
            refine V.iload (pc := 146) (i := 5) hK rfl dX2_press_146 ?_
            obtain ⟨hb, h⟩ := v_ckS h
            refine V.iald (pc := 148) hK (hL.1 7 _ ls_7) (v_ibS hb) dX2_press_148 ?_
            refine V.mmin (pc := 149) hK tw_590 tw_mmins tw_mi tw_mminc dX2_press_149 (by decide) (Nat.le_of_ble_eq_true rfl) ?_
            refine V.aload_n (pc := 152) (i := 0) hK rfl ⟨_, rfl⟩ dX2_press_152 ?_
            refine V.getR (pc := 153) hK fl_RX2_27 rfl (hL.1 18 _ ls_18) (hL.2 18 5 24 rfl) dX2_press_153 ?_
            refine V.iload (pc := 156) (i := 5) hK rfl dX2_press_156 ?_
            obtain ⟨hb, h⟩ := v_ckS h
            refine V.iald (pc := 158) hK (hL.1 24 _ ls_24) (v_ibS hb) dX2_press_158 ?_
            refine V.isub (pc := 159) hK dX2_press_159 ?_
            refine V.mmax (pc := 160) hK tw_593 tw_mmaxs tw_mi tw_mmaxc dX2_press_160 (by decide) (Nat.le_of_ble_eq_true rfl) ?_
            obtain ⟨hb, h⟩ := v_ckS h
            refine V.iast (pc := 163) hK (hL.1 25 _ ls_25) (v_ibS hb) dX2_press_163 ?_
            refine V.nmM (fun M5 eM5 => ?_)
            have h := v_lt eM5 h
            refine V.pick [0, 1, 5] (l := [(0, _), (1, _), (5, _)]) rfl ?_
            exact w_X2_press_L164 hL hO N _ ih _ _ h
          · rw [if_neg c] at h
            refine V.goto (pc := 76) (tgt := 164) hK dX2_press_76 (by decide) ?_
            refine V.pick [0, 1, 5] (l := [(0, _), (1, _), (5, _)]) rfl ?_
            exact w_X2_press_L164 hL hO N _ ih _ _ h
set_option maxHeartbeats 4000000 in
set_option maxRecDepth 100000 in
theorem c_X2_press (E : v_E) {sh : v_S} {P : v_P} (hL : v_Lay sh P) (N : Nat) (x2 : Int32) (x3 : Int32) (M : v_M) {out : Int32 × v_M} (h : f_X2_press N x2 x3 M = some out) : v_Ct E 3 yX2_press cX2_press 9 none 0 0 [v_rf E 18, v_rf E 1, .int x2, .int x3] sh P M (v_Q1 (none) sh P out.2) := by
  refine v_Ct.of (by decide +kernel) (Nat.le_of_ble_eq_true rfl) (fun X hO => ?_)
  have hK : v_K E X cX2_press RX2 9 3 := hO.1
  have hO : v_O E X cX2_press RX2 9 3 none "press" (v_Q1 (none) sh P out.2) := hO
  show V E X (0, 0) 0 [(0, v_rf E 18), (1, v_rf E 1), (2, .int x2), (3, .int x3)] [] sh P M
  unfold f_X2_press at h
  refine V.iload_n (pc := 0) (i := 2) hK rfl dX2_press_0 ?_
  refine V.aload_n (pc := 1) (i := 0) hK rfl ⟨_, rfl⟩ dX2_press_1 ?_
  refine V.aload_n (pc := 2) (i := 1) hK rfl ⟨_, rfl⟩ dX2_press_2 ?_
  refine V.iload_n (pc := 3) (i := 3) hK rfl dX2_press_3 ?_
  obtain ⟨z1, hz1, h⟩ := v_bdS h
  refine V.cV (pc := 4) (ci := 2) hK (c_X2_farthest E hL N _ _ hz1) Y_X2_farthest cv_RX2_67 (by decide) rfl (hL.1 18 _ ls_18) dX2_press_4 (by decide) rfl (Nat.le_of_ble_eq_true rfl) ?_
  refine V.mmin (pc := 7) hK tw_590 tw_mmins tw_mi tw_mminc dX2_press_7 (by decide) (Nat.le_of_ble_eq_true rfl) ?_
  refine V.topi (fun y2 ey2 => ?_)
  have h := v_lt ey2 h
  refine V.istore (pc := 10) (i := 4) (lv' := [(0, _), (1, _), (2, _), (3, _), (4, _)]) hK (by decide) rfl dX2_press_10 ?_
  refine V.aload_n (pc := 12) (i := 0) hK rfl ⟨_, rfl⟩ dX2_press_12 ?_
  refine V.getR (pc := 13) hK fl_RX2_33 rfl (hL.1 18 _ ls_18) (hL.2 18 7 26 rfl) dX2_press_13 ?_
  refine V.iconst (pc := 16) (v := 0) hK (by decide) dX2_press_16 ?_
  refine V.iload (pc := 17) (i := 4) hK rfl dX2_press_17 ?_
  obtain ⟨hb, h⟩ := v_ckS h
  refine V.iast (pc := 19) hK (hL.1 26 _ ls_26) (v_ibS hb) dX2_press_19 ?_
  refine V.nmM (fun M3 eM3 => ?_)
  have h := v_lt eM3 h
  refine V.aload_n (pc := 20) (i := 0) hK rfl ⟨_, rfl⟩ dX2_press_20 ?_
  refine V.getR (pc := 21) hK fl_RX2_30 rfl (hL.1 18 _ ls_18) (hL.2 18 6 25 rfl) dX2_press_21 ?_
  refine V.iconst (pc := 24) (v := 0) hK (by decide) dX2_press_24 ?_
  refine V.iload (pc := 25) (i := 4) hK rfl dX2_press_25 ?_
  obtain ⟨hb, h⟩ := v_ckS h
  refine V.iast (pc := 27) hK (hL.1 25 _ ls_25) (v_ibS hb) dX2_press_27 ?_
  refine V.nmM (fun M4 eM4 => ?_)
  have h := v_lt eM4 h
  refine V.iconst (pc := 28) (v := 1) hK (by decide) dX2_press_28 ?_
  refine V.istore (pc := 29) (i := 5) (lv' := [(0, _), (1, _), (2, _), (3, _), (4, _), (5, _)]) hK (by decide) rfl dX2_press_29 ?_
  refine V.pick [0, 1, 5] (l := [(0, _), (1, _), (5, _)]) rfl ?_
  exact w_X2_press_L31 hL hO N N _ _ h
set_option maxHeartbeats 4000000 in
set_option maxRecDepth 100000 in
theorem w_X2_heightItGoes_L9 {E : v_E} {X : v_X} {sh : v_S} {P : v_P} {out : Int32 × v_M} (hL : v_Lay sh P) (hO : v_O E X cX2_heightItGoes RX2 5 3 (some .int) "heightItGoes" (v_Q1 (some (.int out.1)) sh P out.2)) (N : Nat) (n : Nat) : ∀ (x2 : Int32) (x3 : Int32) (x4 : Int32) (M : v_M), f_X2_heightItGoes_L9 N n x2 x3 x4 M = some out → V E X (0, 0) 9 [(0, v_rf E 18), (2, .int x2), (3, .int x3), (4, .int x4)] [] sh P M := by
  have hK := hO.1
  induction n with
  | zero => intro x2 x3 x4 M h; rw [f_X2_heightItGoes_L9] at h; cases h
  | succ n ih =>
    intro x2 x3 x4 M h
    rw [f_X2_heightItGoes_L9] at h
    refine V.iload (pc := 9) (i := 4) hK rfl dX2_heightItGoes_9 ?_
    refine V.sipush (pc := 11) (v := 400) hK (by decide) dX2_heightItGoes_11 ?_
    refine V.icmp_gt (pc := 14) (tgt := 40) hK dX2_heightItGoes_14 (by decide) (fun c => ?_) (fun c => ?_)
    · rw [if_pos c] at h
      refine V.bipush (pc := 40) (v := -2) hK (by decide) dX2_heightItGoes_40 ?_
      exact V.iret (pc := 42) hO dX2_heightItGoes_42 (v_finI h)
    · rw [if_neg c] at h
      refine V.aload_n (pc := 17) (i := 0) hK rfl ⟨_, rfl⟩ dX2_heightItGoes_17 ?_
      refine V.iload (pc := 18) (i := 4) hK rfl dX2_heightItGoes_18 ?_
      refine V.iload_n (pc := 20) (i := 2) hK rfl dX2_heightItGoes_20 ?_
      refine V.imul (pc := 21) hK dX2_heightItGoes_21 ?_
      refine V.iload_n (pc := 22) (i := 3) hK rfl dX2_heightItGoes_22 ?_
      obtain ⟨z1, hz1, h⟩ := v_bdS h
      refine V.cV (pc := 23) (ci := 2) hK (c_X2_holdAgainst E hL N _ _ _ hz1) Y_X2_holdAgainst cv_RX2_128 (by decide) rfl (hL.1 18 _ ls_18) dX2_heightItGoes_23 (by decide) rfl (Nat.le_of_ble_eq_true rfl) ?_
      refine V.topi (fun y2 ey2 => ?_)
      have h := v_lt ey2 h
      refine V.istore_n (pc := 26) (i := 3) (lv' := [(0, _), (2, _), (3, _), (4, _)]) hK (by decide) rfl dX2_heightItGoes_26 ?_
      refine V.iload_n (pc := 27) (i := 3) hK rfl dX2_heightItGoes_27 ?_
      refine V.if_ne (pc := 28) (tgt := 34) hK dX2_heightItGoes_28 (by decide) (fun c => ?_) (fun c => ?_)
      · rw [if_neg c] at h
        refine V.iinc (pc := 34) (i := 4) (v := 1) (lv' := [(0, _), (2, _), (3, _), (4, _)]) hK rfl (by decide) (by decide) rfl dX2_heightItGoes_34 ?_
        refine V.goto (pc := 37) (tgt := 9) hK dX2_heightItGoes_37 (by decide) ?_
        refine V.pick [0, 2, 3, 4] (l := [(0, _), (2, _), (3, _), (4, _)]) rfl ?_
        exact ih _ _ _ _ h
      · rw [if_pos c] at h
        refine V.iload (pc := 31) (i := 4) hK rfl dX2_heightItGoes_31 ?_
        exact V.iret (pc := 33) hO dX2_heightItGoes_33 (v_finI h)
set_option maxHeartbeats 4000000 in
set_option maxRecDepth 100000 in
theorem c_X2_heightItGoes (E : v_E) {sh : v_S} {P : v_P} (hL : v_Lay sh P) (N : Nat) (x2 : Int32) (M : v_M) {out : Int32 × v_M} (h : f_X2_heightItGoes N x2 M = some out) : v_Ct E 3 yX2_heightItGoes cX2_heightItGoes 5 (some .int) 0 0 [v_rf E 18, v_rf E 1, .int x2] sh P M (v_Q1 (some (.int out.1)) sh P out.2) := by
  refine v_Ct.of (by decide +kernel) (Nat.le_of_ble_eq_true rfl) (fun X hO => ?_)
  have hK : v_K E X cX2_heightItGoes RX2 5 3 := hO.1
  have hO : v_O E X cX2_heightItGoes RX2 5 3 (some .int) "heightItGoes" (v_Q1 (some (.int out.1)) sh P out.2) := hO
  show V E X (0, 0) 0 [(0, v_rf E 18), (1, v_rf E 1), (2, .int x2)] [] sh P M
  unfold f_X2_heightItGoes at h
  refine V.aload_n (pc := 0) (i := 0) hK rfl ⟨_, rfl⟩ dX2_heightItGoes_0 ?_
  refine V.aload_n (pc := 1) (i := 1) hK rfl ⟨_, rfl⟩ dX2_heightItGoes_1 ?_
  obtain ⟨z1, hz1, h⟩ := v_bdS h
  refine V.cV (pc := 2) (ci := 2) hK (c_X2_gatherHooks E hL N _ hz1) Y_X2_gatherHooks cv_RX2_124 (by decide) rfl (hL.1 18 _ ls_18) dX2_heightItGoes_2 (by decide) rfl (Nat.le_of_ble_eq_true rfl) ?_
  refine V.topi (fun y2 ey2 => ?_)
  have h := v_lt ey2 h
  refine V.istore_n (pc := 5) (i := 3) (lv' := [(0, _), (1, _), (2, _), (3, _)]) hK (by decide) rfl dX2_heightItGoes_5 ?_
  refine V.iconst (pc := 6) (v := 0) hK (by decide) dX2_heightItGoes_6 ?_
  refine V.istore (pc := 7) (i := 4) (lv' := [(0, _), (1, _), (2, _), (3, _), (4, _)]) hK (by decide) rfl dX2_heightItGoes_7 ?_
  refine V.pick [0, 2, 3, 4] (l := [(0, _), (2, _), (3, _), (4, _)]) rfl ?_
  exact w_X2_heightItGoes_L9 hL hO N N _ _ _ _ h
set_option maxHeartbeats 4000000 in
set_option maxRecDepth 100000 in
theorem c_X7_readMust (E : v_E) {sh : v_S} {P : v_P} (hL : v_Lay sh P) (N : Nat) (qo : Nat) (hqo : v_Or sh P qo) (hro : P 35 1 = some qo) (x1 : Int32) (M : v_M) {out : Int32 × v_M} (h : f_X7_readMust N qo x1 M = some out) : v_Ct E 2 yX7_readMust cX7_readMust 2 (some .boolean) 0 0 [v_rf E 35, .int x1] sh P M (v_Q1 (some (.int out.1)) sh P out.2) := by
  refine v_Ct.of (by decide +kernel) (Nat.le_of_ble_eq_true rfl) (fun X hO => ?_)
  have hK : v_K E X cX7_readMust RX7 2 2 := hO.1
  have hO : v_O E X cX7_readMust RX7 2 2 (some .boolean) "readMust" (v_Q1 (some (.int out.1)) sh P out.2) := hO
  show V E X (0, 0) 0 [(0, v_rf E 35), (1, .int x1)] [] sh P M
  unfold f_X7_readMust at h
  refine V.aload_n (pc := 0) (i := 0) hK rfl ⟨_, rfl⟩ dX7_readMust_0 ?_
  refine V.bipush (pc := 1) (v := 9) hK (by decide) dX7_readMust_1 ?_
  obtain ⟨z1, hz1, h⟩ := v_bdS h
  refine V.cV (pc := 3) (ci := 7) hK (c_X7_isNumberTo E hL N _ _ hz1) Y_X7_isNumberTo cv_RX7_105 (by decide) rfl (hL.1 35 _ ls_35) dX7_readMust_3 (by decide) rfl (Nat.le_of_ble_eq_true rfl) ?_
  refine V.if_ne (pc := 6) (tgt := 11) hK dX7_readMust_6 (by decide) (fun c => ?_) (fun c => ?_)
  · rw [if_neg c] at h
    refine V.aload_n (pc := 11) (i := 0) hK rfl ⟨_, rfl⟩ dX7_readMust_11 ?_
    refine V.getR (pc := 12) hK fl_RX7_21 rfl (hL.1 35 _ ls_35) hro dX7_readMust_12 ?_
    refine V.getR (pc := 15) hK fl_RX7_97 rfl (hqo.1 0 _ rfl) (hqo.2 5 2 rfl) dX7_readMust_15 ?_
    refine V.iload_n (pc := 18) (i := 1) hK rfl dX7_readMust_18 ?_
    refine V.aload_n (pc := 19) (i := 0) hK rfl ⟨_, rfl⟩ dX7_readMust_19 ?_
    refine V.getI (pc := 20) hK fl_RX7_32 rfl (hL.1 35 _ ls_35) dX7_readMust_20 ?_
    obtain ⟨hb, h⟩ := v_ckS h
    refine V.iast (pc := 23) hK (hqo.1 2 _ rfl) (v_ibS hb) dX7_readMust_23 ?_
    refine V.nmM (fun M2 eM2 => ?_)
    have h := v_lt eM2 h
    refine V.aload_n (pc := 24) (i := 0) hK rfl ⟨_, rfl⟩ dX7_readMust_24 ?_
    obtain ⟨z3, hz3, h⟩ := v_bdS h
    refine V.cVv (pc := 25) (ci := 7) hK (c_X7_step E hL N _ hz3) Y_X7_step cv_RX7_47 (by decide) rfl (hL.1 35 _ ls_35) dX7_readMust_25 (by decide) rfl (Nat.le_of_ble_eq_true rfl) ?_
    refine V.aload_n (pc := 28) (i := 0) hK rfl ⟨_, rfl⟩ dX7_readMust_28 ?_
    refine V.getI (pc := 29) hK fl_RX7_29 rfl (hL.1 35 _ ls_35) dX7_readMust_29 ?_
    refine V.sipush (pc := 32) (v := 275) hK (by decide) dX7_readMust_32 ?_
    refine V.icmp_eq (pc := 35) (tgt := 44) hK dX7_readMust_35 (by decide) (fun c => ?_) (fun c => ?_)
    · rw [if_pos c] at h
      refine V.aload_n (pc := 44) (i := 0) hK rfl ⟨_, rfl⟩ dX7_readMust_44 ?_
      obtain ⟨z4, hz4, h⟩ := v_bdS h
      refine V.cVv (pc := 45) (ci := 7) hK (c_X7_step E hL N _ hz4) Y_X7_step cv_RX7_47 (by decide) rfl (hL.1 35 _ ls_35) dX7_readMust_45 (by decide) rfl (Nat.le_of_ble_eq_true rfl) ?_
      refine V.aload_n (pc := 48) (i := 0) hK rfl ⟨_, rfl⟩ dX7_readMust_48 ?_
      refine V.sipush (pc := 49) (v := 999) hK (by decide) dX7_readMust_49 ?_
      obtain ⟨z5, hz5, h⟩ := v_bdS h
      refine V.cV (pc := 52) (ci := 7) hK (c_X7_isNumberTo E hL N _ _ hz5) Y_X7_isNumberTo cv_RX7_105 (by decide) rfl (hL.1 35 _ ls_35) dX7_readMust_52 (by decide) rfl (Nat.le_of_ble_eq_true rfl) ?_
      refine V.if_ne (pc := 55) (tgt := 60) hK dX7_readMust_55 (by decide) (fun c => ?_) (fun c => ?_)
      · rw [if_neg c] at h
        refine V.aload_n (pc := 60) (i := 0) hK rfl ⟨_, rfl⟩ dX7_readMust_60 ?_
        refine V.getR (pc := 61) hK fl_RX7_21 rfl (hL.1 35 _ ls_35) hro dX7_readMust_61 ?_
        refine V.getR (pc := 64) hK fl_RX7_108 rfl (hqo.1 0 _ rfl) (hqo.2 6 3 rfl) dX7_readMust_64 ?_
        refine V.iload_n (pc := 67) (i := 1) hK rfl dX7_readMust_67 ?_
        refine V.aload_n (pc := 68) (i := 0) hK rfl ⟨_, rfl⟩ dX7_readMust_68 ?_
        refine V.getI (pc := 69) hK fl_RX7_32 rfl (hL.1 35 _ ls_35) dX7_readMust_69 ?_
        obtain ⟨hb, h⟩ := v_ckS h
        refine V.iast (pc := 72) hK (hqo.1 3 _ rfl) (v_ibS hb) dX7_readMust_72 ?_
        refine V.nmM (fun M6 eM6 => ?_)
        have h := v_lt eM6 h
        refine V.aload_n (pc := 73) (i := 0) hK rfl ⟨_, rfl⟩ dX7_readMust_73 ?_
        obtain ⟨z7, hz7, h⟩ := v_bdS h
        refine V.cVv (pc := 74) (ci := 7) hK (c_X7_step E hL N _ hz7) Y_X7_step cv_RX7_47 (by decide) rfl (hL.1 35 _ ls_35) dX7_readMust_74 (by decide) rfl (Nat.le_of_ble_eq_true rfl) ?_
        refine V.iconst (pc := 77) (v := 1) hK (by decide) dX7_readMust_77 ?_
        obtain ⟨hb, h⟩ := v_ckS h
        exact V.zret (pc := 78) hO (v_z01 hb) dX7_readMust_78 (v_finI h)
      · rw [if_pos c] at h
        refine V.iconst (pc := 58) (v := 0) hK (by decide) dX7_readMust_58 ?_
        obtain ⟨hb, h⟩ := v_ckS h
        exact V.zret (pc := 59) hO (v_z01 hb) dX7_readMust_59 (v_finI h)
    · rw [if_neg c] at h
      refine V.aload_n (pc := 38) (i := 0) hK rfl ⟨_, rfl⟩ dX7_readMust_38 ?_
      refine V.iconst (pc := 39) (v := 0) hK (by decide) dX7_readMust_39 ?_
      obtain ⟨z8, hz8, h⟩ := v_bdS h
      refine V.cV (pc := 40) (ci := 7) hK (c_X7_fail E hL N _ _ hz8) Y_X7_fail cv_RX7_54 (by decide) rfl (hL.1 35 _ ls_35) dX7_readMust_40 (by decide) rfl (Nat.le_of_ble_eq_true rfl) ?_
      obtain ⟨hb, h⟩ := v_ckS h
      exact V.zret (pc := 43) hO (v_z01 hb) dX7_readMust_43 (v_finI h)
  · rw [if_pos c] at h
    refine V.iconst (pc := 9) (v := 0) hK (by decide) dX7_readMust_9 ?_
    obtain ⟨hb, h⟩ := v_ckS h
    exact V.zret (pc := 10) hO (v_z01 hb) dX7_readMust_10 (v_finI h)
set_option maxHeartbeats 4000000 in
set_option maxRecDepth 100000 in
theorem w_X7_readSum_L52 {E : v_E} {X : v_X} {sh : v_S} {P : v_P} {out : Int32 × v_M} (hL : v_Lay sh P) (qo : Nat) (hqo : v_Or sh P qo) (hro : P 35 1 = some qo) (hO : v_O E X cX7_readSum RX7 3 2 (some .boolean) "readSum" (v_Q1 (some (.int out.1)) sh P out.2)) (N : Nat) (k11 : Int32 → v_M → Option (Int32 × v_M)) (hk11 : ∀ (x1 : Int32) (M : v_M), k11 x1 M = some out → V E X (0, 0) 11 [(0, v_rf E 35), (1, .int x1)] [] sh P M) (x1 : Int32) (t0 : Int32) (M : v_M) (h : f_X7_readSum_L52 N qo k11 x1 t0 M = some out) : V E X (0, 0) 52 [(0, v_rf E 35), (1, .int x1)] [.int t0] sh P M := by
  have hK := hO.1
  unfold f_X7_readSum_L52 at h
  refine V.istore_n (pc := 52) (i := 2) (lv' := [(0, _), (1, _), (2, _)]) hK (by decide) rfl dX7_readSum_52 ?_
  refine V.aload_n (pc := 53) (i := 0) hK rfl ⟨_, rfl⟩ dX7_readSum_53 ?_
  obtain ⟨z1, hz1, h⟩ := v_bdS h
  refine V.cVv (pc := 54) (ci := 7) hK (c_X7_step E hL N _ hz1) Y_X7_step cv_RX7_47 (by decide) rfl (hL.1 35 _ ls_35) dX7_readSum_54 (by decide) rfl (Nat.le_of_ble_eq_true rfl) ?_
  refine V.aload_n (pc := 57) (i := 0) hK rfl ⟨_, rfl⟩ dX7_readSum_57 ?_
  obtain ⟨z2, hz2, h⟩ := v_bdS h
  refine V.cV (pc := 58) (ci := 7) hK (c_X7_readValue E hL N _ hqo hro _ hz2) Y_X7_readValue cv_RX7_125 (by decide) rfl (hL.1 35 _ ls_35) dX7_readSum_58 (by decide) rfl (Nat.le_of_ble_eq_true rfl) ?_
  refine V.if_ne (pc := 61) (tgt := 66) hK dX7_readSum_61 (by decide) (fun c => ?_) (fun c => ?_)
  · rw [if_neg c] at h
    refine V.aload_n (pc := 66) (i := 0) hK rfl ⟨_, rfl⟩ dX7_readSum_66 ?_
    refine V.getR (pc := 67) hK fl_RX7_21 rfl (hL.1 35 _ ls_35) hro dX7_readSum_67 ?_
    refine V.iload_n (pc := 70) (i := 2) hK rfl dX7_readSum_70 ?_
    obtain ⟨z3, hz3, h⟩ := v_bdS h
    refine V.cVv (pc := 71) (ci := 5) hK (c_X5_emit E hL N _ hqo _ _ hz3) Y_X5_emit cv_RX7_114 (by decide) rfl (hqo.1 0 _ rfl) dX7_readSum_71 (by decide) rfl (Nat.le_of_ble_eq_true rfl) ?_
    refine V.iinc (pc := 74) (i := 1) (v := 1) (lv' := [(0, _), (1, _), (2, _)]) hK rfl (by decide) (by decide) rfl dX7_readSum_74 ?_
    refine V.goto (pc := 77) (tgt := 11) hK dX7_readSum_77 (by decide) ?_
    refine V.pick [0, 1] (l := [(0, _), (1, _)]) rfl ?_
    exact hk11 _ _ h
  · rw [if_pos c] at h
    refine V.iconst (pc := 64) (v := 0) hK (by decide) dX7_readSum_64 ?_
    obtain ⟨hb, h⟩ := v_ckS h
    exact V.zret (pc := 65) hO (v_z01 hb) dX7_readSum_65 (v_finI h)
set_option maxHeartbeats 4000000 in
set_option maxRecDepth 100000 in
theorem w_X7_readSum_L36 {E : v_E} {X : v_X} {sh : v_S} {P : v_P} {out : Int32 × v_M} (hL : v_Lay sh P) (qo : Nat) (hqo : v_Or sh P qo) (hro : P 35 1 = some qo) (hO : v_O E X cX7_readSum RX7 3 2 (some .boolean) "readSum" (v_Q1 (some (.int out.1)) sh P out.2)) (N : Nat) (k11 : Int32 → v_M → Option (Int32 × v_M)) (hk11 : ∀ (x1 : Int32) (M : v_M), k11 x1 M = some out → V E X (0, 0) 11 [(0, v_rf E 35), (1, .int x1)] [] sh P M) (x1 : Int32) (M : v_M) (h : f_X7_readSum_L36 N qo k11 x1 M = some out) : V E X (0, 0) 36 [(0, v_rf E 35), (1, .int x1)] [] sh P M := by
  have hK := hO.1
  unfold f_X7_readSum_L36 at h
  refine V.aload_n (pc := 36) (i := 0) hK rfl ⟨_, rfl⟩ dX7_readSum_36 ?_
  refine V.getI (pc := 37) hK fl_RX7_29 rfl (hL.1 35 _ ls_35) dX7_readSum_37 ?_
  refine V.bipush (pc := 40) (v := 43) hK (by decide) dX7_readSum_40 ?_
  refine V.icmp_ne (pc := 42) (tgt := 50) hK dX7_readSum_42 (by decide) (fun c => ?_) (fun c => ?_)
  · rw [if_neg c] at h
    refine V.bipush (pc := 50) (v := -10) hK (by decide) dX7_readSum_50 ?_
    refine V.pick [0, 1] (l := [(0, _), (1, _)]) rfl ?_
    exact w_X7_readSum_L52 hL qo hqo hro hO N _ hk11 _ _ _ h
  · rw [if_pos c] at h
    refine V.bipush (pc := 45) (v := -9) hK (by decide) dX7_readSum_45 ?_
    refine V.goto (pc := 47) (tgt := 52) hK dX7_readSum_47 (by decide) ?_
    refine V.pick [0, 1] (l := [(0, _), (1, _)]) rfl ?_
    exact w_X7_readSum_L52 hL qo hqo hro hO N _ hk11 _ _ _ h
set_option maxHeartbeats 4000000 in
set_option maxRecDepth 100000 in
theorem w_X7_readSum_L11 {E : v_E} {X : v_X} {sh : v_S} {P : v_P} {out : Int32 × v_M} (hL : v_Lay sh P) (qo : Nat) (hqo : v_Or sh P qo) (hro : P 35 1 = some qo) (hO : v_O E X cX7_readSum RX7 3 2 (some .boolean) "readSum" (v_Q1 (some (.int out.1)) sh P out.2)) (N : Nat) (n : Nat) : ∀ (x1 : Int32) (M : v_M), f_X7_readSum_L11 N qo n x1 M = some out → V E X (0, 0) 11 [(0, v_rf E 35), (1, .int x1)] [] sh P M := by
  have hK := hO.1
  induction n with
  | zero => intro x1 M h; rw [f_X7_readSum_L11] at h; cases h
  | succ n ih =>
    intro x1 M h
    rw [f_X7_readSum_L11] at h
    refine V.iload_n (pc := 11) (i := 1) hK rfl dX7_readSum_11 ?_
    refine V.sipush (pc := 12) (v := 400) hK (by decide) dX7_readSum_12 ?_
    refine V.icmp_ge (pc := 15) (tgt := 80) hK dX7_readSum_15 (by decide) (fun c => ?_) (fun c => ?_)
    · rw [if_pos c] at h
      refine V.iconst (pc := 80) (v := 1) hK (by decide) dX7_readSum_80 ?_
      obtain ⟨hb, h⟩ := v_ckS h
      exact V.zret (pc := 81) hO (v_z01 hb) dX7_readSum_81 (v_finI h)
    · rw [if_neg c] at h
      refine V.aload_n (pc := 18) (i := 0) hK rfl ⟨_, rfl⟩ dX7_readSum_18 ?_
      refine V.getI (pc := 19) hK fl_RX7_29 rfl (hL.1 35 _ ls_35) dX7_readSum_19 ?_
      refine V.bipush (pc := 22) (v := 43) hK (by decide) dX7_readSum_22 ?_
      refine V.icmp_eq (pc := 24) (tgt := 36) hK dX7_readSum_24 (by decide) (fun c => ?_) (fun c => ?_)
      · rw [if_pos c] at h
        refine V.pick [0, 1] (l := [(0, _), (1, _)]) rfl ?_
        exact w_X7_readSum_L36 hL qo hqo hro hO N _ ih _ _ h
      · rw [if_neg c] at h
        refine V.aload_n (pc := 27) (i := 0) hK rfl ⟨_, rfl⟩ dX7_readSum_27 ?_
        refine V.getI (pc := 28) hK fl_RX7_29 rfl (hL.1 35 _ ls_35) dX7_readSum_28 ?_
        refine V.bipush (pc := 31) (v := 45) hK (by decide) dX7_readSum_31 ?_
        refine V.icmp_ne (pc := 33) (tgt := 80) hK dX7_readSum_33 (by decide) (fun c => ?_) (fun c => ?_)
        · rw [if_neg c] at h
          refine V.iconst (pc := 80) (v := 1) hK (by decide) dX7_readSum_80 ?_
          obtain ⟨hb, h⟩ := v_ckS h
          exact V.zret (pc := 81) hO (v_z01 hb) dX7_readSum_81 (v_finI h)
        · rw [if_pos c] at h
          refine V.pick [0, 1] (l := [(0, _), (1, _)]) rfl ?_
          exact w_X7_readSum_L36 hL qo hqo hro hO N _ ih _ _ h
set_option maxHeartbeats 4000000 in
set_option maxRecDepth 100000 in
theorem c_X7_readSum (E : v_E) {sh : v_S} {P : v_P} (hL : v_Lay sh P) (N : Nat) (qo : Nat) (hqo : v_Or sh P qo) (hro : P 35 1 = some qo) (M : v_M) {out : Int32 × v_M} (h : f_X7_readSum N qo M = some out) : v_Ct E 2 yX7_readSum cX7_readSum 3 (some .boolean) 0 0 [v_rf E 35] sh P M (v_Q1 (some (.int out.1)) sh P out.2) := by
  refine v_Ct.of (by decide +kernel) (Nat.le_of_ble_eq_true rfl) (fun X hO => ?_)
  have hK : v_K E X cX7_readSum RX7 3 2 := hO.1
  have hO : v_O E X cX7_readSum RX7 3 2 (some .boolean) "readSum" (v_Q1 (some (.int out.1)) sh P out.2) := hO
  show V E X (0, 0) 0 [(0, v_rf E 35)] [] sh P M
  unfold f_X7_readSum at h
  refine V.aload_n (pc := 0) (i := 0) hK rfl ⟨_, rfl⟩ dX7_readSum_0 ?_
  obtain ⟨z1, hz1, h⟩ := v_bdS h
  refine V.cV (pc := 1) (ci := 7) hK (c_X7_readValue E hL N _ hqo hro _ hz1) Y_X7_readValue cv_RX7_125 (by decide) rfl (hL.1 35 _ ls_35) dX7_readSum_1 (by decide) rfl (Nat.le_of_ble_eq_true rfl) ?_
  refine V.if_ne (pc := 4) (tgt := 9) hK dX7_readSum_4 (by decide) (fun c => ?_) (fun c => ?_)
  · rw [if_neg c] at h
    refine V.iconst (pc := 9) (v := 0) hK (by decide) dX7_readSum_9 ?_
    refine V.istore_n (pc := 10) (i := 1) (lv' := [(0, _), (1, _)]) hK (by decide) rfl dX7_readSum_10 ?_
    refine V.pick [0, 1] (l := [(0, _), (1, _)]) rfl ?_
    exact w_X7_readSum_L11 hL qo hqo hro hO N N _ _ h
  · rw [if_pos c] at h
    refine V.iconst (pc := 7) (v := 0) hK (by decide) dX7_readSum_7 ?_
    obtain ⟨hb, h⟩ := v_ckS h
    exact V.zret (pc := 8) hO (v_z01 hb) dX7_readSum_8 (v_finI h)
set_option maxHeartbeats 4000000 in
set_option maxRecDepth 100000 in
theorem w_X9_splitOne_L73 {E : v_E} {X : v_X} {sh : v_S} {P : v_P} {out : Int32 × v_M} (hL : v_Lay sh P) (hO : v_O E X cX9_splitOne RX9 3 6 (some .int) "splitOne" (v_Q1 (some (.int out.1)) sh P out.2)) (N : Nat) (x2 : Int32) (M : v_M) (h : f_X9_splitOne_L73 N x2 M = some out) : V E X (0, 0) 73 [(0, v_rf E 36), (2, .int x2)] [] sh P M := by
  have hK := hO.1
  unfold f_X9_splitOne_L73 at h
  refine V.aload_n (pc := 73) (i := 0) hK rfl ⟨_, rfl⟩ dX9_splitOne_73 ?_
  refine V.aload_n (pc := 74) (i := 0) hK rfl ⟨_, rfl⟩ dX9_splitOne_74 ?_
  refine V.getI (pc := 75) hK fl_RX9_18 rfl (hL.1 36 _ ls_36) dX9_splitOne_75 ?_
  obtain ⟨z1, hz1, h⟩ := v_bdS h
  refine V.cV (pc := 78) (ci := 9) hK (c_X9_byteAt E hL N _ _ hz1) Y_X9_byteAt cv_RX9_41 (by decide) rfl (hL.1 36 _ ls_36) dX9_splitOne_78 (by decide) rfl (Nat.le_of_ble_eq_true rfl) ?_
  refine V.bipush (pc := 81) (v := 61) hK (by decide) dX9_splitOne_81 ?_
  refine V.icmp_ne (pc := 83) (tgt := 112) hK dX9_splitOne_83 (by decide) (fun c => ?_) (fun c => ?_)
  · rw [if_neg c] at h
    refine V.iload_n (pc := 112) (i := 2) hK rfl dX9_splitOne_112 ?_
    exact V.iret (pc := 113) hO dX9_splitOne_113 (v_finI h)
  · rw [if_pos c] at h
    refine V.aload_n (pc := 86) (i := 0) hK rfl ⟨_, rfl⟩ dX9_splitOne_86 ?_
    refine V.dup (pc := 87) hK rfl dX9_splitOne_87 ?_
    refine V.getI (pc := 88) hK fl_RX9_18 rfl (hL.1 36 _ ls_36) dX9_splitOne_88 ?_
    refine V.iconst (pc := 91) (v := 1) hK (by decide) dX9_splitOne_91 ?_
    refine V.iadd (pc := 92) hK dX9_splitOne_92 ?_
    refine V.putI (pc := 93) hK fl_RX9_18 rfl rfl ⟨rfl, rfl⟩ (hL.1 36 _ ls_36) dX9_splitOne_93 ?_
    refine V.nmM (fun M2 eM2 => ?_)
    have h := v_lt eM2 h
    refine V.iload_n (pc := 96) (i := 2) hK rfl dX9_splitOne_96 ?_
    refine V.bipush (pc := 97) (v := 60) hK (by decide) dX9_splitOne_97 ?_
    refine V.icmp_ne (pc := 99) (tgt := 108) hK dX9_splitOne_99 (by decide) (fun c => ?_) (fun c => ?_)
    · rw [if_neg c] at h
      refine V.sipush (pc := 108) (v := 258) hK (by decide) dX9_splitOne_108 ?_
      exact V.iret (pc := 111) hO dX9_splitOne_111 (v_finI h)
    · rw [if_pos c] at h
      refine V.sipush (pc := 102) (v := 257) hK (by decide) dX9_splitOne_102 ?_
      refine V.goto (pc := 105) (tgt := 111) hK dX9_splitOne_105 (by decide) ?_
      exact V.iret (pc := 111) hO dX9_splitOne_111 (v_finI h)
set_option maxHeartbeats 4000000 in
set_option maxRecDepth 100000 in
theorem w_X9_splitOne_L57 {E : v_E} {X : v_X} {sh : v_S} {P : v_P} {out : Int32 × v_M} (hL : v_Lay sh P) (hO : v_O E X cX9_splitOne RX9 3 6 (some .int) "splitOne" (v_Q1 (some (.int out.1)) sh P out.2)) (N : Nat) (x2 : Int32) (t0 : Int32) (t1 : Int32) (M : v_M) (h : f_X9_splitOne_L57 N x2 t0 t1 M = some out) : V E X (0, 0) 57 [(0, v_rf E 36), (2, .int x2)] [.int t0, .int t1, v_rf E 36] sh P M := by
  have hK := hO.1
  unfold f_X9_splitOne_L57 at h
  refine V.iadd (pc := 57) hK dX9_splitOne_57 ?_
  refine V.putI (pc := 58) hK fl_RX9_18 rfl rfl ⟨rfl, rfl⟩ (hL.1 36 _ ls_36) dX9_splitOne_58 ?_
  refine V.nmM (fun M1 eM1 => ?_)
  have h := v_lt eM1 h
  refine V.iload_n (pc := 61) (i := 2) hK rfl dX9_splitOne_61 ?_
  refine V.bipush (pc := 62) (v := 60) hK (by decide) dX9_splitOne_62 ?_
  refine V.icmp_eq (pc := 64) (tgt := 73) hK dX9_splitOne_64 (by decide) (fun c => ?_) (fun c => ?_)
  · rw [if_pos c] at h
    refine V.pick [0, 2] (l := [(0, _), (2, _)]) rfl ?_
    exact w_X9_splitOne_L73 hL hO N _ _ h
  · rw [if_neg c] at h
    refine V.iload_n (pc := 67) (i := 2) hK rfl dX9_splitOne_67 ?_
    refine V.bipush (pc := 68) (v := 62) hK (by decide) dX9_splitOne_68 ?_
    refine V.icmp_ne (pc := 70) (tgt := 112) hK dX9_splitOne_70 (by decide) (fun c => ?_) (fun c => ?_)
    · rw [if_neg c] at h
      refine V.iload_n (pc := 112) (i := 2) hK rfl dX9_splitOne_112 ?_
      exact V.iret (pc := 113) hO dX9_splitOne_113 (v_finI h)
    · rw [if_pos c] at h
      refine V.pick [0, 2] (l := [(0, _), (2, _)]) rfl ?_
      exact w_X9_splitOne_L73 hL hO N _ _ h
set_option maxHeartbeats 4000000 in
set_option maxRecDepth 100000 in
theorem c_X9_splitOne (E : v_E) {sh : v_S} {P : v_P} (hL : v_Lay sh P) (N : Nat) (x1 : Int32) (M : v_M) {out : Int32 × v_M} (h : f_X9_splitOne N x1 M = some out) : v_Ct E 6 yX9_splitOne cX9_splitOne 3 (some .int) 0 0 [v_rf E 36, .int x1] sh P M (v_Q1 (some (.int out.1)) sh P out.2) := by
  refine v_Ct.of (by decide +kernel) (Nat.le_of_ble_eq_true rfl) (fun X hO => ?_)
  have hK : v_K E X cX9_splitOne RX9 3 6 := hO.1
  have hO : v_O E X cX9_splitOne RX9 3 6 (some .int) "splitOne" (v_Q1 (some (.int out.1)) sh P out.2) := hO
  show V E X (0, 0) 0 [(0, v_rf E 36), (1, .int x1)] [] sh P M
  unfold f_X9_splitOne at h
  refine V.aload_n (pc := 0) (i := 0) hK rfl ⟨_, rfl⟩ dX9_splitOne_0 ?_
  refine V.aload_n (pc := 1) (i := 0) hK rfl ⟨_, rfl⟩ dX9_splitOne_1 ?_
  refine V.getI (pc := 2) hK fl_RX9_18 rfl (hL.1 36 _ ls_36) dX9_splitOne_2 ?_
  obtain ⟨z1, hz1, h⟩ := v_bdS h
  refine V.cV (pc := 5) (ci := 9) hK (c_X9_byteAt E hL N _ _ hz1) Y_X9_byteAt cv_RX9_41 (by decide) rfl (hL.1 36 _ ls_36) dX9_splitOne_5 (by decide) rfl (Nat.le_of_ble_eq_true rfl) ?_
  refine V.topi (fun y2 ey2 => ?_)
  have h := v_lt ey2 h
  refine V.istore_n (pc := 8) (i := 2) (lv' := [(0, _), (1, _), (2, _)]) hK (by decide) rfl dX9_splitOne_8 ?_
  refine V.iload_n (pc := 9) (i := 2) hK rfl dX9_splitOne_9 ?_
  obtain ⟨z3, hz3, h⟩ := v_bdS h
  refine V.cS (pc := 10) hK (c_X9_isDigit E hL N _ _ hz3) Y_X9_isDigit cs_RX9_44 dX9_splitOne_10 (by decide) rfl (Nat.le_of_ble_eq_true rfl) ?_
  refine V.if_eq (pc := 13) (tgt := 30) hK dX9_splitOne_13 (by decide) (fun c => ?_) (fun c => ?_)
  · rw [if_pos c] at h
    refine V.iload_n (pc := 30) (i := 2) hK rfl dX9_splitOne_30 ?_
    obtain ⟨z4, hz4, h⟩ := v_bdS h
    refine V.cS (pc := 31) hK (c_X9_isLetter E hL N _ _ hz4) Y_X9_isLetter cs_RX9_52 dX9_splitOne_31 (by decide) rfl (Nat.le_of_ble_eq_true rfl) ?_
    refine V.if_eq (pc := 34) (tgt := 42) hK dX9_splitOne_34 (by decide) (fun c => ?_) (fun c => ?_)
    · rw [if_pos c] at h
      refine V.aload_n (pc := 42) (i := 0) hK rfl ⟨_, rfl⟩ dX9_splitOne_42 ?_
      refine V.dup (pc := 43) hK rfl dX9_splitOne_43 ?_
      refine V.getI (pc := 44) hK fl_RX9_18 rfl (hL.1 36 _ ls_36) dX9_splitOne_44 ?_
      refine V.iload_n (pc := 47) (i := 2) hK rfl dX9_splitOne_47 ?_
      refine V.iconst (pc := 48) (v := -1) hK (by decide) dX9_splitOne_48 ?_
      refine V.icmp_ne (pc := 49) (tgt := 56) hK dX9_splitOne_49 (by decide) (fun c => ?_) (fun c => ?_)
      · rw [if_neg c] at h
        refine V.iconst (pc := 56) (v := 1) hK (by decide) dX9_splitOne_56 ?_
        refine V.pick [0, 2] (l := [(0, _), (2, _)]) rfl ?_
        exact w_X9_splitOne_L57 hL hO N _ _ _ _ h
      · rw [if_pos c] at h
        refine V.iconst (pc := 52) (v := 0) hK (by decide) dX9_splitOne_52 ?_
        refine V.goto (pc := 53) (tgt := 57) hK dX9_splitOne_53 (by decide) ?_
        refine V.pick [0, 2] (l := [(0, _), (2, _)]) rfl ?_
        exact w_X9_splitOne_L57 hL hO N _ _ _ _ h
    · rw [if_neg c] at h
      refine V.aload_n (pc := 37) (i := 0) hK rfl ⟨_, rfl⟩ dX9_splitOne_37 ?_
      obtain ⟨z5, hz5, h⟩ := v_bdS h
      refine V.cV (pc := 38) (ci := 9) hK (c_X9_splitWord E hL N _ hz5) Y_X9_splitWord cv_RX9_55 (by decide) rfl (hL.1 36 _ ls_36) dX9_splitOne_38 (by decide) rfl (Nat.le_of_ble_eq_true rfl) ?_
      exact V.iret (pc := 41) hO dX9_splitOne_41 (v_finI h)
  · rw [if_neg c] at h
    refine V.aload_n (pc := 16) (i := 0) hK rfl ⟨_, rfl⟩ dX9_splitOne_16 ?_
    refine V.getR (pc := 17) hK fl_RX9_31 rfl (hL.1 36 _ ls_36) (hL.2 36 6 40 rfl) dX9_splitOne_17 ?_
    refine V.iload_n (pc := 20) (i := 1) hK rfl dX9_splitOne_20 ?_
    refine V.aload_n (pc := 21) (i := 0) hK rfl ⟨_, rfl⟩ dX9_splitOne_21 ?_
    obtain ⟨z6, hz6, h⟩ := v_bdS h
    refine V.cV (pc := 22) (ci := 9) hK (c_X9_splitNumber E hL N _ hz6) Y_X9_splitNumber cv_RX9_48 (by decide) rfl (hL.1 36 _ ls_36) dX9_splitOne_22 (by decide) rfl (Nat.le_of_ble_eq_true rfl) ?_
    obtain ⟨hb, h⟩ := v_ckS h
    refine V.iast (pc := 25) hK (hL.1 40 _ ls_40) (v_ibS hb) dX9_splitOne_25 ?_
    refine V.nmM (fun M7 eM7 => ?_)
    have h := v_lt eM7 h
    refine V.sipush (pc := 26) (v := 256) hK (by decide) dX9_splitOne_26 ?_
    exact V.iret (pc := 29) hO dX9_splitOne_29 (v_finI h)
set_option maxHeartbeats 4000000 in
set_option maxRecDepth 100000 in
theorem w_X10_canBe_L111 {E : v_E} {X : v_X} {sh : v_S} {P : v_P} {out : Int32 × v_M} (hL : v_Lay sh P) (hO : v_O E X cX10_canBe RX10 6 4 (some .boolean) "canBe" (v_Q1 (some (.int out.1)) sh P out.2)) (N : Nat) (k71 : Int32 → Int32 → v_M → Option (Int32 × v_M)) (hk71 : ∀ (x4 : Int32) (x5 : Int32) (M : v_M), k71 x4 x5 M = some out → V E X (0, 0) 71 [(0, v_rf E 64), (1, v_rf E 52), (4, .int x4), (5, .int x5)] [] sh P M) (x4 : Int32) (x5 : Int32) (M : v_M) (h : f_X10_canBe_L111 N k71 x4 x5 M = some out) : V E X (0, 0) 111 [(0, v_rf E 64), (1, v_rf E 52), (4, .int x4), (5, .int x5)] [] sh P M := by
  have hK := hO.1
  unfold f_X10_canBe_L111 at h
  refine V.iinc (pc := 111) (i := 5) (v := 1) (lv' := [(0, _), (1, _), (4, _), (5, _)]) hK rfl (by decide) (by decide) rfl dX10_canBe_111 ?_
  refine V.goto (pc := 114) (tgt := 71) hK dX10_canBe_114 (by decide) ?_
  refine V.pick [0, 1, 4, 5] (l := [(0, _), (1, _), (4, _), (5, _)]) rfl ?_
  exact hk71 _ _ _ h
set_option maxHeartbeats 4000000 in
set_option maxRecDepth 100000 in
theorem w_X10_canBe_L71 {E : v_E} {X : v_X} {sh : v_S} {P : v_P} {out : Int32 × v_M} (hL : v_Lay sh P) (hO : v_O E X cX10_canBe RX10 6 4 (some .boolean) "canBe" (v_Q1 (some (.int out.1)) sh P out.2)) (N : Nat) (n : Nat) : ∀ (x4 : Int32) (x5 : Int32) (M : v_M), f_X10_canBe_L71 N n x4 x5 M = some out → V E X (0, 0) 71 [(0, v_rf E 64), (1, v_rf E 52), (4, .int x4), (5, .int x5)] [] sh P M := by
  have hK := hO.1
  induction n with
  | zero => intro x4 x5 M h; rw [f_X10_canBe_L71] at h; cases h
  | succ n ih =>
    intro x4 x5 M h
    rw [f_X10_canBe_L71] at h
    refine V.iload (pc := 71) (i := 5) hK rfl dX10_canBe_71 ?_
    refine V.sipush (pc := 73) (v := 200) hK (by decide) dX10_canBe_73 ?_
    refine V.icmp_ge (pc := 76) (tgt := 117) hK dX10_canBe_76 (by decide) (fun c => ?_) (fun c => ?_)
    · rw [if_pos c] at h
      refine V.iconst (pc := 117) (v := 1) hK (by decide) dX10_canBe_117 ?_
      obtain ⟨hb, h⟩ := v_ckS h
      exact V.zret (pc := 118) hO (v_z01 hb) dX10_canBe_118 (v_finI h)
    · rw [if_neg c] at h
      refine V.aload_n (pc := 79) (i := 0) hK rfl ⟨_, rfl⟩ dX10_canBe_79 ?_
      refine V.getR (pc := 80) hK fl_RX10_21 rfl (hL.1 64 _ ls_64) (hL.2 64 2 66 rfl) dX10_canBe_80 ?_
      refine V.iload (pc := 83) (i := 5) hK rfl dX10_canBe_83 ?_
      obtain ⟨hb, h⟩ := v_ckS h
      refine V.iald (pc := 85) hK (hL.1 66 _ ls_66) (v_ibS hb) dX10_canBe_85 ?_
      refine V.sipush (pc := 86) (v := 10000) hK (by decide) dX10_canBe_86 ?_
      refine V.icmp_eq (pc := 89) (tgt := 111) hK dX10_canBe_89 (by decide) (fun c => ?_) (fun c => ?_)
      · rw [if_pos c] at h
        refine V.pick [0, 1, 4, 5] (l := [(0, _), (1, _), (4, _), (5, _)]) rfl ?_
        exact w_X10_canBe_L111 hL hO N _ ih _ _ _ h
      · rw [if_neg c] at h
        refine V.iload (pc := 92) (i := 5) hK rfl dX10_canBe_92 ?_
        refine V.iload (pc := 94) (i := 4) hK rfl dX10_canBe_94 ?_
        refine V.icmp_eq (pc := 96) (tgt := 111) hK dX10_canBe_96 (by decide) (fun c => ?_) (fun c => ?_)
        · rw [if_pos c] at h
          refine V.pick [0, 1, 4, 5] (l := [(0, _), (1, _), (4, _), (5, _)]) rfl ?_
          exact w_X10_canBe_L111 hL hO N _ ih _ _ _ h
        · rw [if_neg c] at h
          refine V.aload_n (pc := 99) (i := 0) hK rfl ⟨_, rfl⟩ dX10_canBe_99 ?_
          refine V.aload_n (pc := 100) (i := 1) hK rfl ⟨_, rfl⟩ dX10_canBe_100 ?_
          refine V.iload (pc := 101) (i := 5) hK rfl dX10_canBe_101 ?_
          obtain ⟨z1, hz1, h⟩ := v_bdS h
          refine V.cV (pc := 103) (ci := 10) hK (c_X10_choose E hL N _ _ hz1) Y_X10_choose cv_RX10_87 (by decide) rfl (hL.1 64 _ ls_64) dX10_canBe_103 (by decide) rfl (Nat.le_of_ble_eq_true rfl) ?_
          refine V.if_ne (pc := 106) (tgt := 111) hK dX10_canBe_106 (by decide) (fun c => ?_) (fun c => ?_)
          · rw [if_neg c] at h
            refine V.pick [0, 1, 4, 5] (l := [(0, _), (1, _), (4, _), (5, _)]) rfl ?_
            exact w_X10_canBe_L111 hL hO N _ ih _ _ _ h
          · rw [if_pos c] at h
            refine V.iconst (pc := 109) (v := 0) hK (by decide) dX10_canBe_109 ?_
            obtain ⟨hb, h⟩ := v_ckS h
            exact V.zret (pc := 110) hO (v_z01 hb) dX10_canBe_110 (v_finI h)
set_option maxHeartbeats 4000000 in
set_option maxRecDepth 100000 in
theorem w_X10_canBe_L68 {E : v_E} {X : v_X} {sh : v_S} {P : v_P} {out : Int32 × v_M} (hL : v_Lay sh P) (hO : v_O E X cX10_canBe RX10 6 4 (some .boolean) "canBe" (v_Q1 (some (.int out.1)) sh P out.2)) (N : Nat) (x4 : Int32) (M : v_M) (h : f_X10_canBe_L68 N x4 M = some out) : V E X (0, 0) 68 [(0, v_rf E 64), (1, v_rf E 52), (4, .int x4)] [] sh P M := by
  have hK := hO.1
  unfold f_X10_canBe_L68 at h
  refine V.iconst (pc := 68) (v := 0) hK (by decide) dX10_canBe_68 ?_
  refine V.istore (pc := 69) (i := 5) (lv' := [(0, _), (1, _), (4, _), (5, _)]) hK (by decide) rfl dX10_canBe_69 ?_
  refine V.pick [0, 1, 4, 5] (l := [(0, _), (1, _), (4, _), (5, _)]) rfl ?_
  exact w_X10_canBe_L71 hL hO N N _ _ _ h
set_option maxHeartbeats 4000000 in
set_option maxRecDepth 100000 in
theorem w_X10_canBe_L66 {E : v_E} {X : v_X} {sh : v_S} {P : v_P} {out : Int32 × v_M} (hL : v_Lay sh P) (hO : v_O E X cX10_canBe RX10 6 4 (some .boolean) "canBe" (v_Q1 (some (.int out.1)) sh P out.2)) (N : Nat) (t0 : Int32) (M : v_M) (h : f_X10_canBe_L66 N t0 M = some out) : V E X (0, 0) 66 [(0, v_rf E 64), (1, v_rf E 52)] [.int t0] sh P M := by
  have hK := hO.1
  unfold f_X10_canBe_L66 at h
  refine V.istore (pc := 66) (i := 4) (lv' := [(0, _), (1, _), (4, _)]) hK (by decide) rfl dX10_canBe_66 ?_
  refine V.pick [0, 1, 4] (l := [(0, _), (1, _), (4, _)]) rfl ?_
  exact w_X10_canBe_L68 hL hO N _ _ h
set_option maxHeartbeats 4000000 in
set_option maxRecDepth 100000 in
theorem c_X10_canBe (E : v_E) {sh : v_S} {P : v_P} (hL : v_Lay sh P) (N : Nat) (x2 : Int32) (x3 : Int32) (M : v_M) {out : Int32 × v_M} (h : f_X10_canBe N x2 x3 M = some out) : v_Ct E 4 yX10_canBe cX10_canBe 6 (some .boolean) 0 0 [v_rf E 64, v_rf E 52, .int x2, .int x3] sh P M (v_Q1 (some (.int out.1)) sh P out.2) := by
  refine v_Ct.of (by decide +kernel) (Nat.le_of_ble_eq_true rfl) (fun X hO => ?_)
  have hK : v_K E X cX10_canBe RX10 6 4 := hO.1
  have hO : v_O E X cX10_canBe RX10 6 4 (some .boolean) "canBe" (v_Q1 (some (.int out.1)) sh P out.2) := hO
  show V E X (0, 0) 0 [(0, v_rf E 64), (1, v_rf E 52), (2, .int x2), (3, .int x3)] [] sh P M
  unfold f_X10_canBe at h
  refine V.aload_n (pc := 0) (i := 0) hK rfl ⟨_, rfl⟩ dX10_canBe_0 ?_
  refine V.getR (pc := 1) hK fl_RX10_24 rfl (hL.1 64 _ ls_64) (hL.2 64 3 67 rfl) dX10_canBe_1 ?_
  refine V.iconst (pc := 4) (v := -1) hK (by decide) dX10_canBe_4 ?_
  obtain ⟨z1, hz1, h⟩ := v_bdS h
  refine V.cSv (pc := 5) hK (c_J7_fill_53178 E hL N _ _ (hL.1 67 _ ls_67) _ _ hz1) Y_J7_fill_53178 cs_RX10_36 dX10_canBe_5 (by decide) rfl (Nat.le_of_ble_eq_true rfl) ?_
  refine V.aload_n (pc := 8) (i := 0) hK rfl ⟨_, rfl⟩ dX10_canBe_8 ?_
  refine V.getR (pc := 9) hK fl_RX10_30 rfl (hL.1 64 _ ls_64) (hL.2 64 5 69 rfl) dX10_canBe_9 ?_
  refine V.iconst (pc := 12) (v := 0) hK (by decide) dX10_canBe_12 ?_
  obtain ⟨z2, hz2, h⟩ := v_bdS h
  refine V.cSv (pc := 13) hK (c_J7_fill_53178 E hL N _ _ (hL.1 69 _ ls_69) _ _ hz2) Y_J7_fill_53178 cs_RX10_36 dX10_canBe_13 (by decide) rfl (Nat.le_of_ble_eq_true rfl) ?_
  refine V.aload_n (pc := 16) (i := 0) hK rfl ⟨_, rfl⟩ dX10_canBe_16 ?_
  refine V.iload_n (pc := 17) (i := 2) hK rfl dX10_canBe_17 ?_
  refine V.putI (pc := 18) hK fl_RX10_9 rfl rfl ⟨rfl, rfl⟩ (hL.1 64 _ ls_64) dX10_canBe_18 ?_
  refine V.nmM (fun M3 eM3 => ?_)
  have h := v_lt eM3 h
  refine V.iconst (pc := 21) (v := -1) hK (by decide) dX10_canBe_21 ?_
  refine V.istore (pc := 22) (i := 4) (lv' := [(0, _), (1, _), (2, _), (3, _), (4, _)]) hK (by decide) rfl dX10_canBe_22 ?_
  refine V.iload_n (pc := 24) (i := 3) hK rfl dX10_canBe_24 ?_
  refine V.iconst (pc := 25) (v := 0) hK (by decide) dX10_canBe_25 ?_
  refine V.sipush (pc := 26) (v := 199) hK (by decide) dX10_canBe_26 ?_
  obtain ⟨z4, hz4, h⟩ := v_bdS h
  refine V.cSN (pc := 29) hK (c_X11_within E hL N _ _ _ _ hz4) Y_X11_within cn_RX10_51 dX10_canBe_29 (by decide) rfl (Nat.le_of_ble_eq_true rfl) ?_
  refine V.if_eq (pc := 32) (tgt := 68) hK dX10_canBe_32 (by decide) (fun c => ?_) (fun c => ?_)
  · rw [if_pos c] at h
    refine V.pick [0, 1, 4] (l := [(0, _), (1, _), (4, _)]) rfl ?_
    exact w_X10_canBe_L68 hL hO N _ _ h
  · rw [if_neg c] at h
    refine V.aload_n (pc := 35) (i := 0) hK rfl ⟨_, rfl⟩ dX10_canBe_35 ?_
    refine V.getR (pc := 36) hK fl_RX10_30 rfl (hL.1 64 _ ls_64) (hL.2 64 5 69 rfl) dX10_canBe_36 ?_
    refine V.aload_n (pc := 39) (i := 1) hK rfl ⟨_, rfl⟩ dX10_canBe_39 ?_
    refine V.getR (pc := 40) hK fl_RX10_81 rfl (hL.1 52 _ ls_52) (hL.2 52 4 56 rfl) dX10_canBe_40 ?_
    refine V.iload_n (pc := 43) (i := 3) hK rfl dX10_canBe_43 ?_
    obtain ⟨hb, h⟩ := v_ckS h
    refine V.iald (pc := 44) hK (hL.1 56 _ ls_56) (v_ibS hb) dX10_canBe_44 ?_
    refine V.iconst (pc := 45) (v := 1) hK (by decide) dX10_canBe_45 ?_
    obtain ⟨hb, h⟩ := v_ckS h
    refine V.iast (pc := 46) hK (hL.1 69 _ ls_69) (v_ibS hb) dX10_canBe_46 ?_
    refine V.nmM (fun M5 eM5 => ?_)
    have h := v_lt eM5 h
    refine V.aload_n (pc := 47) (i := 0) hK rfl ⟨_, rfl⟩ dX10_canBe_47 ?_
    refine V.aload_n (pc := 48) (i := 1) hK rfl ⟨_, rfl⟩ dX10_canBe_48 ?_
    refine V.iload_n (pc := 49) (i := 3) hK rfl dX10_canBe_49 ?_
    obtain ⟨z6, hz6, h⟩ := v_bdS h
    refine V.cV (pc := 50) (ci := 10) hK (c_X10_serves E hL N _ _ hz6) Y_X10_serves cv_RX10_84 (by decide) rfl (hL.1 64 _ ls_64) dX10_canBe_50 (by decide) rfl (Nat.le_of_ble_eq_true rfl) ?_
    refine V.if_eq (pc := 53) (tgt := 65) hK dX10_canBe_53 (by decide) (fun c => ?_) (fun c => ?_)
    · rw [if_pos c] at h
      refine V.iconst (pc := 65) (v := -1) hK (by decide) dX10_canBe_65 ?_
      refine V.pick [0, 1] (l := [(0, _), (1, _)]) rfl ?_
      exact w_X10_canBe_L66 hL hO N _ _ h
    · rw [if_neg c] at h
      refine V.aload_n (pc := 56) (i := 1) hK rfl ⟨_, rfl⟩ dX10_canBe_56 ?_
      refine V.getR (pc := 57) hK fl_RX10_71 rfl (hL.1 52 _ ls_52) (hL.2 52 1 53 rfl) dX10_canBe_57 ?_
      refine V.iload_n (pc := 60) (i := 3) hK rfl dX10_canBe_60 ?_
      obtain ⟨hb, h⟩ := v_ckS h
      refine V.iald (pc := 61) hK (hL.1 53 _ ls_53) (v_ibS hb) dX10_canBe_61 ?_
      refine V.goto (pc := 62) (tgt := 66) hK dX10_canBe_62 (by decide) ?_
      refine V.pick [0, 1] (l := [(0, _), (1, _)]) rfl ?_
      exact w_X10_canBe_L66 hL hO N _ _ h
set_option maxHeartbeats 4000000 in
set_option maxRecDepth 100000 in
theorem c_X11_push (E : v_E) {sh : v_S} {P : v_P} (hL : v_Lay sh P) (N : Nat) (x1 : Int32) (x2 : Int32) (x3 : Int32) (M : v_M) {out : Int32 × v_M} (h : f_X11_push N x1 x2 x3 M = some out) : v_Ct E 4 yX11_push cX11_push 4 (some .int) 0 0 [v_rf E 0, .int x1, .int x2, .int x3] sh P M (v_Q1 (some (.int out.1)) sh P out.2) := by
  refine v_Ct.of (by decide +kernel) (Nat.le_of_ble_eq_true rfl) (fun X hO => ?_)
  have hK : v_K E X cX11_push RX11 4 4 := hO.1
  have hO : v_O E X cX11_push RX11 4 4 (some .int) "push" (v_Q1 (some (.int out.1)) sh P out.2) := hO
  show V E X (0, 0) 0 [(0, v_rf E 0), (1, .int x1), (2, .int x2), (3, .int x3)] [] sh P M
  unfold f_X11_push at h
  refine V.aload_n (pc := 0) (i := 0) hK rfl ⟨_, rfl⟩ dX11_push_0 ?_
  refine V.iload_n (pc := 1) (i := 1) hK rfl dX11_push_1 ?_
  refine V.iconst (pc := 2) (v := 0) hK (by decide) dX11_push_2 ?_
  obtain ⟨z1, hz1, h⟩ := v_bdS h
  refine V.cV (pc := 3) (ci := 11) hK (c_X11_hasPartOf E hL N _ _ _ hz1) Y_X11_hasPartOf cv_RX11_108 (by decide) rfl (hL.1 0 _ ls_0) dX11_push_3 (by decide) rfl (Nat.le_of_ble_eq_true rfl) ?_
  refine V.if_eq (pc := 6) (tgt := 31) hK dX11_push_6 (by decide) (fun c => ?_) (fun c => ?_)
  · rw [if_pos c] at h
    refine V.iconst (pc := 31) (v := -1) hK (by decide) dX11_push_31 ?_
    exact V.iret (pc := 32) hO dX11_push_32 (v_finI h)
  · rw [if_neg c] at h
    refine V.iload_n (pc := 9) (i := 2) hK rfl dX11_push_9 ?_
    refine V.iconst (pc := 10) (v := 0) hK (by decide) dX11_push_10 ?_
    refine V.sipush (pc := 11) (v := 999) hK (by decide) dX11_push_11 ?_
    obtain ⟨z2, hz2, h⟩ := v_bdS h
    refine V.cS (pc := 14) hK (c_X11_within E hL N _ _ _ _ hz2) Y_X11_within cs_RX11_93 dX11_push_14 (by decide) rfl (Nat.le_of_ble_eq_true rfl) ?_
    refine V.if_eq (pc := 17) (tgt := 31) hK dX11_push_17 (by decide) (fun c => ?_) (fun c => ?_)
    · rw [if_pos c] at h
      refine V.iconst (pc := 31) (v := -1) hK (by decide) dX11_push_31 ?_
      exact V.iret (pc := 32) hO dX11_push_32 (v_finI h)
    · rw [if_neg c] at h
      refine V.iload_n (pc := 20) (i := 3) hK rfl dX11_push_20 ?_
      refine V.iconst (pc := 21) (v := 0) hK (by decide) dX11_push_21 ?_
      refine V.sipush (pc := 22) (v := 999) hK (by decide) dX11_push_22 ?_
      obtain ⟨z3, hz3, h⟩ := v_bdS h
      refine V.cS (pc := 25) hK (c_X11_within E hL N _ _ _ _ hz3) Y_X11_within cs_RX11_93 dX11_push_25 (by decide) rfl (Nat.le_of_ble_eq_true rfl) ?_
      refine V.if_ne (pc := 28) (tgt := 33) hK dX11_push_28 (by decide) (fun c => ?_) (fun c => ?_)
      · rw [if_neg c] at h
        refine V.aload_n (pc := 33) (i := 0) hK rfl ⟨_, rfl⟩ dX11_push_33 ?_
        refine V.getR (pc := 34) hK fl_RX11_33 rfl (hL.1 0 _ ls_0) (hL.2 0 4 18 rfl) dX11_push_34 ?_
        refine V.aload_n (pc := 37) (i := 0) hK rfl ⟨_, rfl⟩ dX11_push_37 ?_
        refine V.getR (pc := 38) hK fl_RX11_19 rfl (hL.1 0 _ ls_0) (hL.2 0 2 1 rfl) dX11_push_38 ?_
        refine V.aload_n (pc := 41) (i := 0) hK rfl ⟨_, rfl⟩ dX11_push_41 ?_
        refine V.getR (pc := 42) hK fl_RX11_26 rfl (hL.1 0 _ ls_0) (hL.2 0 3 11 rfl) dX11_push_42 ?_
        refine V.iload_n (pc := 45) (i := 1) hK rfl dX11_push_45 ?_
        obtain ⟨z4, hz4, h⟩ := v_bdS h
        refine V.cVv (pc := 46) (ci := 2) hK (c_X2_load E hL N _ (v_FlL hL 11 rfl) _ _ hz4) Y_X2_load cv_RX11_131 (by decide) rfl (hL.1 18 _ ls_18) dX11_push_46 (by decide) rfl (Nat.le_of_ble_eq_true rfl) ?_
        refine V.aload_n (pc := 49) (i := 0) hK rfl ⟨_, rfl⟩ dX11_push_49 ?_
        refine V.getR (pc := 50) hK fl_RX11_33 rfl (hL.1 0 _ ls_0) (hL.2 0 4 18 rfl) dX11_push_50 ?_
        refine V.aload_n (pc := 53) (i := 0) hK rfl ⟨_, rfl⟩ dX11_push_53 ?_
        refine V.getR (pc := 54) hK fl_RX11_19 rfl (hL.1 0 _ ls_0) (hL.2 0 2 1 rfl) dX11_push_54 ?_
        refine V.iload_n (pc := 57) (i := 2) hK rfl dX11_push_57 ?_
        refine V.iload_n (pc := 58) (i := 3) hK rfl dX11_push_58 ?_
        obtain ⟨z5, hz5, h⟩ := v_bdS h
        refine V.cVv (pc := 59) (ci := 2) hK (c_X2_press E hL N _ _ _ hz5) Y_X2_press cv_RX11_135 (by decide) rfl (hL.1 18 _ ls_18) dX11_push_59 (by decide) rfl (Nat.le_of_ble_eq_true rfl) ?_
        refine V.aload_n (pc := 62) (i := 0) hK rfl ⟨_, rfl⟩ dX11_push_62 ?_
        refine V.getR (pc := 63) hK fl_RX11_33 rfl (hL.1 0 _ ls_0) (hL.2 0 4 18 rfl) dX11_push_63 ?_
        refine V.aload_n (pc := 66) (i := 0) hK rfl ⟨_, rfl⟩ dX11_push_66 ?_
        refine V.getR (pc := 67) hK fl_RX11_19 rfl (hL.1 0 _ ls_0) (hL.2 0 2 1 rfl) dX11_push_67 ?_
        obtain ⟨z6, hz6, h⟩ := v_bdS h
        refine V.cVv (pc := 70) (ci := 2) hK (c_X2_bend E hL N _ hz6) Y_X2_bend cv_RX11_139 (by decide) rfl (hL.1 18 _ ls_18) dX11_push_70 (by decide) rfl (Nat.le_of_ble_eq_true rfl) ?_
        refine V.aload_n (pc := 73) (i := 0) hK rfl ⟨_, rfl⟩ dX11_push_73 ?_
        refine V.getR (pc := 74) hK fl_RX11_33 rfl (hL.1 0 _ ls_0) (hL.2 0 4 18 rfl) dX11_push_74 ?_
        refine V.aload_n (pc := 77) (i := 0) hK rfl ⟨_, rfl⟩ dX11_push_77 ?_
        refine V.getR (pc := 78) hK fl_RX11_26 rfl (hL.1 0 _ ls_0) (hL.2 0 3 11 rfl) dX11_push_78 ?_
        refine V.iload_n (pc := 81) (i := 1) hK rfl dX11_push_81 ?_
        obtain ⟨z7, hz7, h⟩ := v_bdS h
        refine V.cVv (pc := 82) (ci := 2) hK (c_X2_save E hL N _ (v_FlL hL 11 rfl) _ _ hz7) Y_X2_save cv_RX11_143 (by decide) rfl (hL.1 18 _ ls_18) dX11_push_82 (by decide) rfl (Nat.le_of_ble_eq_true rfl) ?_
        refine V.aload_n (pc := 85) (i := 0) hK rfl ⟨_, rfl⟩ dX11_push_85 ?_
        refine V.getR (pc := 86) hK fl_RX11_33 rfl (hL.1 0 _ ls_0) (hL.2 0 4 18 rfl) dX11_push_86 ?_
        refine V.getR (pc := 89) hK fl_RX11_147 rfl (hL.1 18 _ ls_18) (hL.2 18 6 25 rfl) dX11_push_89 ?_
        refine V.iconst (pc := 92) (v := 0) hK (by decide) dX11_push_92 ?_
        obtain ⟨hb, h⟩ := v_ckS h
        refine V.iald (pc := 93) hK (hL.1 25 _ ls_25) (v_ibS hb) dX11_push_93 ?_
        exact V.iret (pc := 94) hO dX11_push_94 (v_finI h)
      · rw [if_pos c] at h
        refine V.iconst (pc := 31) (v := -1) hK (by decide) dX11_push_31 ?_
        exact V.iret (pc := 32) hO dX11_push_32 (v_finI h)
set_option maxHeartbeats 4000000 in
set_option maxRecDepth 100000 in
theorem c_X11_isUnlikeAt (E : v_E) {sh : v_S} {P : v_P} (hL : v_Lay sh P) (N : Nat) (x1 : Int32) (x2 : Int32) (x3 : Int32) (x4 : Int32) (x5 : Int32) (M : v_M) {out : Int32 × v_M} (h : f_X11_isUnlikeAt N x1 x2 x3 x4 x5 M = some out) : v_Ct E 4 yX11_isUnlikeAt cX11_isUnlikeAt 6 (some .boolean) 0 0 [v_rf E 0, .int x1, .int x2, .int x3, .int x4, .int x5] sh P M (v_Q1 (some (.int out.1)) sh P out.2) := by
  refine v_Ct.of (by decide +kernel) (Nat.le_of_ble_eq_true rfl) (fun X hO => ?_)
  have hK : v_K E X cX11_isUnlikeAt RX11 6 4 := hO.1
  have hO : v_O E X cX11_isUnlikeAt RX11 6 4 (some .boolean) "isUnlikeAt" (v_Q1 (some (.int out.1)) sh P out.2) := hO
  show V E X (0, 0) 0 [(0, v_rf E 0), (1, .int x1), (2, .int x2), (3, .int x3), (4, .int x4), (5, .int x5)] [] sh P M
  unfold f_X11_isUnlikeAt at h
  refine V.aload_n (pc := 0) (i := 0) hK rfl ⟨_, rfl⟩ dX11_isUnlikeAt_0 ?_
  refine V.iload_n (pc := 1) (i := 1) hK rfl dX11_isUnlikeAt_1 ?_
  obtain ⟨z1, hz1, h⟩ := v_bdS h
  refine V.cV (pc := 2) (ci := 11) hK (c_X11_hasPart E hL N _ _ hz1) Y_X11_hasPart cv_RX11_185 (by decide) rfl (hL.1 0 _ ls_0) dX11_isUnlikeAt_2 (by decide) rfl (Nat.le_of_ble_eq_true rfl) ?_
  refine V.if_eq (pc := 5) (tgt := 16) hK dX11_isUnlikeAt_5 (by decide) (fun c => ?_) (fun c => ?_)
  · rw [if_pos c] at h
    refine V.iconst (pc := 16) (v := 0) hK (by decide) dX11_isUnlikeAt_16 ?_
    obtain ⟨hb, h⟩ := v_ckS h
    exact V.zret (pc := 17) hO (v_z01 hb) dX11_isUnlikeAt_17 (v_finI h)
  · rw [if_neg c] at h
    refine V.aload_n (pc := 8) (i := 0) hK rfl ⟨_, rfl⟩ dX11_isUnlikeAt_8 ?_
    refine V.iload_n (pc := 9) (i := 2) hK rfl dX11_isUnlikeAt_9 ?_
    obtain ⟨z2, hz2, h⟩ := v_bdS h
    refine V.cV (pc := 10) (ci := 11) hK (c_X11_hasPart E hL N _ _ hz2) Y_X11_hasPart cv_RX11_185 (by decide) rfl (hL.1 0 _ ls_0) dX11_isUnlikeAt_10 (by decide) rfl (Nat.le_of_ble_eq_true rfl) ?_
    refine V.if_ne (pc := 13) (tgt := 18) hK dX11_isUnlikeAt_13 (by decide) (fun c => ?_) (fun c => ?_)
    · rw [if_neg c] at h
      refine V.aload_n (pc := 18) (i := 0) hK rfl ⟨_, rfl⟩ dX11_isUnlikeAt_18 ?_
      refine V.getR (pc := 19) hK fl_RX11_33 rfl (hL.1 0 _ ls_0) (hL.2 0 4 18 rfl) dX11_isUnlikeAt_19 ?_
      refine V.getR (pc := 22) hK fl_RX11_205 rfl (hL.1 18 _ ls_18) (hL.2 18 3 22 rfl) dX11_isUnlikeAt_22 ?_
      refine V.iload_n (pc := 25) (i := 1) hK rfl dX11_isUnlikeAt_25 ?_
      refine V.iload_n (pc := 26) (i := 3) hK rfl dX11_isUnlikeAt_26 ?_
      refine V.bipush (pc := 27) (v := 16) hK (by decide) dX11_isUnlikeAt_27 ?_
      obtain ⟨hb, h⟩ := v_ckS h
      refine V.idiv (pc := 29) hK (v_nzS hb) dX11_isUnlikeAt_29 ?_
      obtain ⟨hb, h⟩ := v_ckS h
      refine V.iast (pc := 30) hK (hL.1 22 _ ls_22) (v_ibS hb) dX11_isUnlikeAt_30 ?_
      refine V.nmM (fun M3 eM3 => ?_)
      have h := v_lt eM3 h
      refine V.aload_n (pc := 31) (i := 0) hK rfl ⟨_, rfl⟩ dX11_isUnlikeAt_31 ?_
      refine V.getR (pc := 32) hK fl_RX11_33 rfl (hL.1 0 _ ls_0) (hL.2 0 4 18 rfl) dX11_isUnlikeAt_32 ?_
      refine V.getR (pc := 35) hK fl_RX11_205 rfl (hL.1 18 _ ls_18) (hL.2 18 3 22 rfl) dX11_isUnlikeAt_35 ?_
      refine V.iload_n (pc := 38) (i := 2) hK rfl dX11_isUnlikeAt_38 ?_
      refine V.iload_n (pc := 39) (i := 3) hK rfl dX11_isUnlikeAt_39 ?_
      refine V.bipush (pc := 40) (v := 16) hK (by decide) dX11_isUnlikeAt_40 ?_
      obtain ⟨hb, h⟩ := v_ckS h
      refine V.irem (pc := 42) hK (v_nzS hb) dX11_isUnlikeAt_42 ?_
      obtain ⟨hb, h⟩ := v_ckS h
      refine V.iast (pc := 43) hK (hL.1 22 _ ls_22) (v_ibS hb) dX11_isUnlikeAt_43 ?_
      refine V.nmM (fun M4 eM4 => ?_)
      have h := v_lt eM4 h
      refine V.aload_n (pc := 44) (i := 0) hK rfl ⟨_, rfl⟩ dX11_isUnlikeAt_44 ?_
      refine V.getR (pc := 45) hK fl_RX11_33 rfl (hL.1 0 _ ls_0) (hL.2 0 4 18 rfl) dX11_isUnlikeAt_45 ?_
      refine V.aload_n (pc := 48) (i := 0) hK rfl ⟨_, rfl⟩ dX11_isUnlikeAt_48 ?_
      refine V.getR (pc := 49) hK fl_RX11_19 rfl (hL.1 0 _ ls_0) (hL.2 0 2 1 rfl) dX11_isUnlikeAt_49 ?_
      refine V.sipush (pc := 52) (v := 999) hK (by decide) dX11_isUnlikeAt_52 ?_
      refine V.iload (pc := 55) (i := 4) hK rfl dX11_isUnlikeAt_55 ?_
      obtain ⟨z5, hz5, h⟩ := v_bdS h
      refine V.cVv (pc := 57) (ci := 2) hK (c_X2_press E hL N _ _ _ hz5) Y_X2_press cv_RX11_135 (by decide) rfl (hL.1 18 _ ls_18) dX11_isUnlikeAt_57 (by decide) rfl (Nat.le_of_ble_eq_true rfl) ?_
      refine V.aload_n (pc := 60) (i := 0) hK rfl ⟨_, rfl⟩ dX11_isUnlikeAt_60 ?_
      refine V.getR (pc := 61) hK fl_RX11_33 rfl (hL.1 0 _ ls_0) (hL.2 0 4 18 rfl) dX11_isUnlikeAt_61 ?_
      refine V.aload_n (pc := 64) (i := 0) hK rfl ⟨_, rfl⟩ dX11_isUnlikeAt_64 ?_
      refine V.getR (pc := 65) hK fl_RX11_19 rfl (hL.1 0 _ ls_0) (hL.2 0 2 1 rfl) dX11_isUnlikeAt_65 ?_
      refine V.iload (pc := 68) (i := 5) hK rfl dX11_isUnlikeAt_68 ?_
      obtain ⟨z6, hz6, h⟩ := v_bdS h
      refine V.cV (pc := 70) (ci := 2) hK (c_X2_isUnlike E hL N _ _ hz6) Y_X2_isUnlike cv_RX11_174 (by decide) rfl (hL.1 18 _ ls_18) dX11_isUnlikeAt_70 (by decide) rfl (Nat.le_of_ble_eq_true rfl) ?_
      obtain ⟨hb, h⟩ := v_ckS h
      exact V.zret (pc := 73) hO (v_z01 hb) dX11_isUnlikeAt_73 (v_finI h)
    · rw [if_pos c] at h
      refine V.iconst (pc := 16) (v := 0) hK (by decide) dX11_isUnlikeAt_16 ?_
      obtain ⟨hb, h⟩ := v_ckS h
      exact V.zret (pc := 17) hO (v_z01 hb) dX11_isUnlikeAt_17 (v_finI h)
set_option maxHeartbeats 4000000 in
set_option maxRecDepth 100000 in
theorem c_X11_goes (E : v_E) {sh : v_S} {P : v_P} (hL : v_Lay sh P) (N : Nat) (x1 : Int32) (x2 : Int32) (x3 : Int32) (M : v_M) {out : Int32 × v_M} (h : f_X11_goes N x1 x2 x3 M = some out) : v_Ct E 4 yX11_goes cX11_goes 4 (some .int) 0 0 [v_rf E 0, .int x1, .int x2, .int x3] sh P M (v_Q1 (some (.int out.1)) sh P out.2) := by
  refine v_Ct.of (by decide +kernel) (Nat.le_of_ble_eq_true rfl) (fun X hO => ?_)
  have hK : v_K E X cX11_goes RX11 4 4 := hO.1
  have hO : v_O E X cX11_goes RX11 4 4 (some .int) "goes" (v_Q1 (some (.int out.1)) sh P out.2) := hO
  show V E X (0, 0) 0 [(0, v_rf E 0), (1, .int x1), (2, .int x2), (3, .int x3)] [] sh P M
  unfold f_X11_goes at h
  refine V.aload_n (pc := 0) (i := 0) hK rfl ⟨_, rfl⟩ dX11_goes_0 ?_
  refine V.iload_n (pc := 1) (i := 1) hK rfl dX11_goes_1 ?_
  obtain ⟨z1, hz1, h⟩ := v_bdS h
  refine V.cV (pc := 2) (ci := 11) hK (c_X11_hasMachine E hL N _ _ hz1) Y_X11_hasMachine cv_RX11_150 (by decide) rfl (hL.1 0 _ ls_0) dX11_goes_2 (by decide) rfl (Nat.le_of_ble_eq_true rfl) ?_
  refine V.if_eq (pc := 5) (tgt := 29) hK dX11_goes_5 (by decide) (fun c => ?_) (fun c => ?_)
  · rw [if_pos c] at h
    refine V.iconst (pc := 29) (v := -1) hK (by decide) dX11_goes_29 ?_
    exact V.iret (pc := 30) hO dX11_goes_30 (v_finI h)
  · rw [if_neg c] at h
    refine V.iload_n (pc := 8) (i := 2) hK rfl dX11_goes_8 ?_
    refine V.iconst (pc := 9) (v := 1) hK (by decide) dX11_goes_9 ?_
    refine V.bipush (pc := 10) (v := 99) hK (by decide) dX11_goes_10 ?_
    obtain ⟨z2, hz2, h⟩ := v_bdS h
    refine V.cS (pc := 12) hK (c_X11_within E hL N _ _ _ _ hz2) Y_X11_within cs_RX11_93 dX11_goes_12 (by decide) rfl (Nat.le_of_ble_eq_true rfl) ?_
    refine V.if_eq (pc := 15) (tgt := 29) hK dX11_goes_15 (by decide) (fun c => ?_) (fun c => ?_)
    · rw [if_pos c] at h
      refine V.iconst (pc := 29) (v := -1) hK (by decide) dX11_goes_29 ?_
      exact V.iret (pc := 30) hO dX11_goes_30 (v_finI h)
    · rw [if_neg c] at h
      refine V.iload_n (pc := 18) (i := 3) hK rfl dX11_goes_18 ?_
      refine V.iconst (pc := 19) (v := 1) hK (by decide) dX11_goes_19 ?_
      refine V.sipush (pc := 20) (v := 999) hK (by decide) dX11_goes_20 ?_
      obtain ⟨z3, hz3, h⟩ := v_bdS h
      refine V.cS (pc := 23) hK (c_X11_within E hL N _ _ _ _ hz3) Y_X11_within cs_RX11_93 dX11_goes_23 (by decide) rfl (Nat.le_of_ble_eq_true rfl) ?_
      refine V.if_ne (pc := 26) (tgt := 31) hK dX11_goes_26 (by decide) (fun c => ?_) (fun c => ?_)
      · rw [if_neg c] at h
        refine V.aload_n (pc := 31) (i := 0) hK rfl ⟨_, rfl⟩ dX11_goes_31 ?_
        refine V.getR (pc := 32) hK fl_RX11_33 rfl (hL.1 0 _ ls_0) (hL.2 0 4 18 rfl) dX11_goes_32 ?_
        refine V.aload_n (pc := 35) (i := 0) hK rfl ⟨_, rfl⟩ dX11_goes_35 ?_
        refine V.getR (pc := 36) hK fl_RX11_19 rfl (hL.1 0 _ ls_0) (hL.2 0 2 1 rfl) dX11_goes_36 ?_
        refine V.aload_n (pc := 39) (i := 0) hK rfl ⟨_, rfl⟩ dX11_goes_39 ?_
        refine V.getR (pc := 40) hK fl_RX11_26 rfl (hL.1 0 _ ls_0) (hL.2 0 3 11 rfl) dX11_goes_40 ?_
        refine V.iload_n (pc := 43) (i := 1) hK rfl dX11_goes_43 ?_
        obtain ⟨z4, hz4, h⟩ := v_bdS h
        refine V.cVv (pc := 44) (ci := 2) hK (c_X2_load E hL N _ (v_FlL hL 11 rfl) _ _ hz4) Y_X2_load cv_RX11_131 (by decide) rfl (hL.1 18 _ ls_18) dX11_goes_44 (by decide) rfl (Nat.le_of_ble_eq_true rfl) ?_
        refine V.aload_n (pc := 47) (i := 0) hK rfl ⟨_, rfl⟩ dX11_goes_47 ?_
        refine V.getR (pc := 48) hK fl_RX11_33 rfl (hL.1 0 _ ls_0) (hL.2 0 4 18 rfl) dX11_goes_48 ?_
        refine V.aload_n (pc := 51) (i := 0) hK rfl ⟨_, rfl⟩ dX11_goes_51 ?_
        refine V.getR (pc := 52) hK fl_RX11_19 rfl (hL.1 0 _ ls_0) (hL.2 0 2 1 rfl) dX11_goes_52 ?_
        refine V.iload_n (pc := 55) (i := 2) hK rfl dX11_goes_55 ?_
        refine V.iload_n (pc := 56) (i := 3) hK rfl dX11_goes_56 ?_
        refine V.imul (pc := 57) hK dX11_goes_57 ?_
        obtain ⟨z5, hz5, h⟩ := v_bdS h
        refine V.cV (pc := 58) (ci := 2) hK (c_X2_heightItGoes E hL N _ _ hz5) Y_X2_heightItGoes cv_RX11_206 (by decide) rfl (hL.1 18 _ ls_18) dX11_goes_58 (by decide) rfl (Nat.le_of_ble_eq_true rfl) ?_
        exact V.iret (pc := 61) hO dX11_goes_61 (v_finI h)
      · rw [if_pos c] at h
        refine V.iconst (pc := 29) (v := -1) hK (by decide) dX11_goes_29 ?_
        exact V.iret (pc := 30) hO dX11_goes_30 (v_finI h)
set_option maxHeartbeats 4000000 in
set_option maxRecDepth 100000 in
theorem c_X11_stamp (E : v_E) {sh : v_S} {P : v_P} (hL : v_Lay sh P) (N : Nat) (x1 : Int32) (x2 : Int32) (x3 : Int32) (x4 : Int32) (M : v_M) {out : Int32 × v_M} (h : f_X11_stamp N x1 x2 x3 x4 M = some out) : v_Ct E 3 yX11_stamp cX11_stamp 5 (some .int) 0 0 [v_rf E 0, .int x1, .int x2, .int x3, .int x4] sh P M (v_Q1 (some (.int out.1)) sh P out.2) := by
  refine v_Ct.of (by decide +kernel) (Nat.le_of_ble_eq_true rfl) (fun X hO => ?_)
  have hK : v_K E X cX11_stamp RX11 5 3 := hO.1
  have hO : v_O E X cX11_stamp RX11 5 3 (some .int) "stamp" (v_Q1 (some (.int out.1)) sh P out.2) := hO
  show V E X (0, 0) 0 [(0, v_rf E 0), (1, .int x1), (2, .int x2), (3, .int x3), (4, .int x4)] [] sh P M
  unfold f_X11_stamp at h
  refine V.aload_n (pc := 0) (i := 0) hK rfl ⟨_, rfl⟩ dX11_stamp_0 ?_
  refine V.iload_n (pc := 1) (i := 1) hK rfl dX11_stamp_1 ?_
  refine V.iload_n (pc := 2) (i := 2) hK rfl dX11_stamp_2 ?_
  refine V.iload (pc := 3) (i := 4) hK rfl dX11_stamp_3 ?_
  obtain ⟨z1, hz1, h⟩ := v_bdS h
  refine V.cV (pc := 5) (ci := 11) hK (c_X11_canBeDone E hL N _ _ _ _ hz1) Y_X11_canBeDone cv_RX11_280 (by decide) rfl (hL.1 0 _ ls_0) dX11_stamp_5 (by decide) rfl (Nat.le_of_ble_eq_true rfl) ?_
  refine V.if_eq (pc := 8) (tgt := 34) hK dX11_stamp_8 (by decide) (fun c => ?_) (fun c => ?_)
  · rw [if_pos c] at h
    refine V.iconst (pc := 34) (v := -1) hK (by decide) dX11_stamp_34 ?_
    exact V.iret (pc := 35) hO dX11_stamp_35 (v_finI h)
  · rw [if_neg c] at h
    refine V.iload_n (pc := 11) (i := 3) hK rfl dX11_stamp_11 ?_
    refine V.iconst (pc := 12) (v := 0) hK (by decide) dX11_stamp_12 ?_
    refine V.bipush (pc := 13) (v := 15) hK (by decide) dX11_stamp_13 ?_
    obtain ⟨z2, hz2, h⟩ := v_bdS h
    refine V.cS (pc := 15) hK (c_X11_within E hL N _ _ _ _ hz2) Y_X11_within cs_RX11_93 dX11_stamp_15 (by decide) rfl (Nat.le_of_ble_eq_true rfl) ?_
    refine V.if_eq (pc := 18) (tgt := 34) hK dX11_stamp_18 (by decide) (fun c => ?_) (fun c => ?_)
    · rw [if_pos c] at h
      refine V.iconst (pc := 34) (v := -1) hK (by decide) dX11_stamp_34 ?_
      exact V.iret (pc := 35) hO dX11_stamp_35 (v_finI h)
    · rw [if_neg c] at h
      refine V.aload_n (pc := 21) (i := 0) hK rfl ⟨_, rfl⟩ dX11_stamp_21 ?_
      refine V.getR (pc := 22) hK fl_RX11_67 rfl (hL.1 0 _ ls_0) (hL.2 0 9 52 rfl) dX11_stamp_22 ?_
      refine V.getI (pc := 25) hK fl_RX11_283 rfl (hL.1 52 _ ls_52) dX11_stamp_25 ?_
      refine V.sipush (pc := 28) (v := 200) hK (by decide) dX11_stamp_28 ?_
      refine V.icmp_lt (pc := 31) (tgt := 36) hK dX11_stamp_31 (by decide) (fun c => ?_) (fun c => ?_)
      · rw [if_pos c] at h
        refine V.aload_n (pc := 36) (i := 0) hK rfl ⟨_, rfl⟩ dX11_stamp_36 ?_
        refine V.getR (pc := 37) hK fl_RX11_67 rfl (hL.1 0 _ ls_0) (hL.2 0 9 52 rfl) dX11_stamp_37 ?_
        refine V.iload_n (pc := 40) (i := 1) hK rfl dX11_stamp_40 ?_
        refine V.bipush (pc := 41) (v := 10) hK (by decide) dX11_stamp_41 ?_
        refine V.imul (pc := 43) hK dX11_stamp_43 ?_
        refine V.iload_n (pc := 44) (i := 2) hK rfl dX11_stamp_44 ?_
        refine V.iadd (pc := 45) hK dX11_stamp_45 ?_
        refine V.iload_n (pc := 46) (i := 3) hK rfl dX11_stamp_46 ?_
        refine V.iload (pc := 47) (i := 4) hK rfl dX11_stamp_47 ?_
        obtain ⟨z3, hz3, h⟩ := v_bdS h
        refine V.cV (pc := 49) (ci := 8) hK (c_X8_put E hL N _ _ _ _ hz3) Y_X8_put cv_RX11_284 (by decide) rfl (hL.1 52 _ ls_52) dX11_stamp_49 (by decide) rfl (Nat.le_of_ble_eq_true rfl) ?_
        exact V.iret (pc := 52) hO dX11_stamp_52 (v_finI h)
      · rw [if_neg c] at h
        refine V.iconst (pc := 34) (v := -1) hK (by decide) dX11_stamp_34 ?_
        exact V.iret (pc := 35) hO dX11_stamp_35 (v_finI h)
set_option maxHeartbeats 4000000 in
set_option maxRecDepth 100000 in
theorem c_X11_see (E : v_E) {sh : v_S} {P : v_P} (hL : v_Lay sh P) (N : Nat) (x1 : Int32) (x2 : Int32) (x3 : Int32) (x4 : Int32) (M : v_M) {out : Int32 × v_M} (h : f_X11_see N x1 x2 x3 x4 M = some out) : v_Ct E 3 yX11_see cX11_see 5 (some .int) 0 0 [v_rf E 0, .int x1, .int x2, .int x3, .int x4] sh P M (v_Q1 (some (.int out.1)) sh P out.2) := by
  refine v_Ct.of (by decide +kernel) (Nat.le_of_ble_eq_true rfl) (fun X hO => ?_)
  have hK : v_K E X cX11_see RX11 5 3 := hO.1
  have hO : v_O E X cX11_see RX11 5 3 (some .int) "see" (v_Q1 (some (.int out.1)) sh P out.2) := hO
  show V E X (0, 0) 0 [(0, v_rf E 0), (1, .int x1), (2, .int x2), (3, .int x3), (4, .int x4)] [] sh P M
  unfold f_X11_see at h
  refine V.aload_n (pc := 0) (i := 0) hK rfl ⟨_, rfl⟩ dX11_see_0 ?_
  refine V.iload_n (pc := 1) (i := 1) hK rfl dX11_see_1 ?_
  refine V.iload_n (pc := 2) (i := 2) hK rfl dX11_see_2 ?_
  refine V.iload_n (pc := 3) (i := 3) hK rfl dX11_see_3 ?_
  obtain ⟨z1, hz1, h⟩ := v_bdS h
  refine V.cV (pc := 4) (ci := 11) hK (c_X11_canBeDone E hL N _ _ _ _ hz1) Y_X11_canBeDone cv_RX11_280 (by decide) rfl (hL.1 0 _ ls_0) dX11_see_4 (by decide) rfl (Nat.le_of_ble_eq_true rfl) ?_
  refine V.if_eq (pc := 7) (tgt := 22) hK dX11_see_7 (by decide) (fun c => ?_) (fun c => ?_)
  · rw [if_pos c] at h
    refine V.iconst (pc := 22) (v := -1) hK (by decide) dX11_see_22 ?_
    exact V.iret (pc := 23) hO dX11_see_23 (v_finI h)
  · rw [if_neg c] at h
    refine V.aload_n (pc := 10) (i := 0) hK rfl ⟨_, rfl⟩ dX11_see_10 ?_
    refine V.getR (pc := 11) hK fl_RX11_67 rfl (hL.1 0 _ ls_0) (hL.2 0 9 52 rfl) dX11_see_11 ?_
    refine V.getI (pc := 14) hK fl_RX11_287 rfl (hL.1 52 _ ls_52) dX11_see_14 ?_
    refine V.bipush (pc := 17) (v := 100) hK (by decide) dX11_see_17 ?_
    refine V.icmp_lt (pc := 19) (tgt := 24) hK dX11_see_19 (by decide) (fun c => ?_) (fun c => ?_)
    · rw [if_pos c] at h
      refine V.aload_n (pc := 24) (i := 0) hK rfl ⟨_, rfl⟩ dX11_see_24 ?_
      refine V.getR (pc := 25) hK fl_RX11_67 rfl (hL.1 0 _ ls_0) (hL.2 0 9 52 rfl) dX11_see_25 ?_
      refine V.iload_n (pc := 28) (i := 1) hK rfl dX11_see_28 ?_
      refine V.bipush (pc := 29) (v := 10) hK (by decide) dX11_see_29 ?_
      refine V.imul (pc := 31) hK dX11_see_31 ?_
      refine V.iload_n (pc := 32) (i := 2) hK rfl dX11_see_32 ?_
      refine V.iadd (pc := 33) hK dX11_see_33 ?_
      refine V.iload_n (pc := 34) (i := 3) hK rfl dX11_see_34 ?_
      refine V.iload (pc := 35) (i := 4) hK rfl dX11_see_35 ?_
      obtain ⟨z2, hz2, h⟩ := v_bdS h
      refine V.cV (pc := 37) (ci := 8) hK (c_X8_putSeen E hL N _ _ _ _ hz2) Y_X8_putSeen cv_RX11_290 (by decide) rfl (hL.1 52 _ ls_52) dX11_see_37 (by decide) rfl (Nat.le_of_ble_eq_true rfl) ?_
      exact V.iret (pc := 40) hO dX11_see_40 (v_finI h)
    · rw [if_neg c] at h
      refine V.iconst (pc := 22) (v := -1) hK (by decide) dX11_see_22 ?_
      exact V.iret (pc := 23) hO dX11_see_23 (v_finI h)
set_option maxHeartbeats 4000000 in
set_option maxRecDepth 100000 in
theorem c_X11_fewest (E : v_E) {sh : v_S} {P : v_P} (hL : v_Lay sh P) (N : Nat) (M : v_M) {out : Int32 × v_M} (h : f_X11_fewest N M = some out) : v_Ct E 5 yX11_fewest cX11_fewest 1 (some .int) 0 0 [v_rf E 0] sh P M (v_Q1 (some (.int out.1)) sh P out.2) := by
  refine v_Ct.of (by decide +kernel) (Nat.le_of_ble_eq_true rfl) (fun X hO => ?_)
  have hK : v_K E X cX11_fewest RX11 1 5 := hO.1
  have hO : v_O E X cX11_fewest RX11 1 5 (some .int) "fewest" (v_Q1 (some (.int out.1)) sh P out.2) := hO
  show V E X (0, 0) 0 [(0, v_rf E 0)] [] sh P M
  unfold f_X11_fewest at h
  refine V.aload_n (pc := 0) (i := 0) hK rfl ⟨_, rfl⟩ dX11_fewest_0 ?_
  refine V.getR (pc := 1) hK fl_RX11_74 rfl (hL.1 0 _ ls_0) (hL.2 0 10 64 rfl) dX11_fewest_1 ?_
  refine V.aload_n (pc := 4) (i := 0) hK rfl ⟨_, rfl⟩ dX11_fewest_4 ?_
  refine V.getR (pc := 5) hK fl_RX11_67 rfl (hL.1 0 _ ls_0) (hL.2 0 9 52 rfl) dX11_fewest_5 ?_
  obtain ⟨z1, hz1, h⟩ := v_bdS h
  refine V.cVv (pc := 8) (ci := 10) hK (c_X10_learn E hL N _ hz1) Y_X10_learn cv_RX11_294 (by decide) rfl (hL.1 64 _ ls_64) dX11_fewest_8 (by decide) rfl (Nat.le_of_ble_eq_true rfl) ?_
  refine V.aload_n (pc := 11) (i := 0) hK rfl ⟨_, rfl⟩ dX11_fewest_11 ?_
  refine V.getR (pc := 12) hK fl_RX11_74 rfl (hL.1 0 _ ls_0) (hL.2 0 10 64 rfl) dX11_fewest_12 ?_
  refine V.aload_n (pc := 15) (i := 0) hK rfl ⟨_, rfl⟩ dX11_fewest_15 ?_
  refine V.getR (pc := 16) hK fl_RX11_67 rfl (hL.1 0 _ ls_0) (hL.2 0 9 52 rfl) dX11_fewest_16 ?_
  refine V.iconst (pc := 19) (v := -1) hK (by decide) dX11_fewest_19 ?_
  refine V.iconst (pc := 20) (v := -1) hK (by decide) dX11_fewest_20 ?_
  obtain ⟨z2, hz2, h⟩ := v_bdS h
  refine V.cV (pc := 21) (ci := 10) hK (c_X10_canBe E hL N _ _ _ hz2) Y_X10_canBe cv_RX11_298 (by decide) rfl (hL.1 64 _ ls_64) dX11_fewest_21 (by decide) rfl (Nat.le_of_ble_eq_true rfl) ?_
  refine V.if_eq (pc := 24) (tgt := 41) hK dX11_fewest_24 (by decide) (fun c => ?_) (fun c => ?_)
  · rw [if_pos c] at h
    refine V.bipush (pc := 41) (v := -2) hK (by decide) dX11_fewest_41 ?_
    exact V.iret (pc := 43) hO dX11_fewest_43 (v_finI h)
  · rw [if_neg c] at h
    refine V.aload_n (pc := 27) (i := 0) hK rfl ⟨_, rfl⟩ dX11_fewest_27 ?_
    refine V.getR (pc := 28) hK fl_RX11_74 rfl (hL.1 0 _ ls_0) (hL.2 0 10 64 rfl) dX11_fewest_28 ?_
    refine V.aload_n (pc := 31) (i := 0) hK rfl ⟨_, rfl⟩ dX11_fewest_31 ?_
    refine V.getR (pc := 32) hK fl_RX11_67 rfl (hL.1 0 _ ls_0) (hL.2 0 9 52 rfl) dX11_fewest_32 ?_
    obtain ⟨z3, hz3, h⟩ := v_bdS h
    refine V.cV (pc := 35) (ci := 10) hK (c_X10_leastFalse E hL N _ hz3) Y_X10_leastFalse cv_RX11_302 (by decide) rfl (hL.1 64 _ ls_64) dX11_fewest_35 (by decide) rfl (Nat.le_of_ble_eq_true rfl) ?_
    refine V.goto (pc := 38) (tgt := 43) hK dX11_fewest_38 (by decide) ?_
    exact V.iret (pc := 43) hO dX11_fewest_43 (v_finI h)
set_option maxHeartbeats 4000000 in
set_option maxRecDepth 100000 in
theorem w_X11_sure_L82 {E : v_E} {X : v_X} {sh : v_S} {P : v_P} {out : Int32 × v_M} (hL : v_Lay sh P) (hO : v_O E X cX11_sure RX11 2 5 (some .int) "sure" (v_Q1 (some (.int out.1)) sh P out.2)) (N : Nat) (x1 : Int32) (M : v_M) (h : f_X11_sure_L82 N x1 M = some out) : V E X (0, 0) 82 [(0, v_rf E 0), (1, .int x1)] [] sh P M := by
  have hK := hO.1
  unfold f_X11_sure_L82 at h
  refine V.aload_n (pc := 82) (i := 0) hK rfl ⟨_, rfl⟩ dX11_sure_82 ?_
  refine V.getR (pc := 83) hK fl_RX11_74 rfl (hL.1 0 _ ls_0) (hL.2 0 10 64 rfl) dX11_sure_83 ?_
  refine V.aload_n (pc := 86) (i := 0) hK rfl ⟨_, rfl⟩ dX11_sure_86 ?_
  refine V.getR (pc := 87) hK fl_RX11_67 rfl (hL.1 0 _ ls_0) (hL.2 0 9 52 rfl) dX11_sure_87 ?_
  refine V.iload_n (pc := 90) (i := 1) hK rfl dX11_sure_90 ?_
  obtain ⟨z1, hz1, h⟩ := v_bdS h
  refine V.cV (pc := 91) (ci := 10) hK (c_X10_mayBeTrue E hL N _ _ hz1) Y_X10_mayBeTrue cv_RX11_310 (by decide) rfl (hL.1 64 _ ls_64) dX11_sure_91 (by decide) rfl (Nat.le_of_ble_eq_true rfl) ?_
  refine V.if_eq (pc := 94) (tgt := 117) hK dX11_sure_94 (by decide) (fun c => ?_) (fun c => ?_)
  · rw [if_pos c] at h
    refine V.iconst (pc := 117) (v := 2) hK (by decide) dX11_sure_117 ?_
    exact V.iret (pc := 118) hO dX11_sure_118 (v_finI h)
  · rw [if_neg c] at h
    refine V.aload_n (pc := 97) (i := 0) hK rfl ⟨_, rfl⟩ dX11_sure_97 ?_
    refine V.getR (pc := 98) hK fl_RX11_74 rfl (hL.1 0 _ ls_0) (hL.2 0 10 64 rfl) dX11_sure_98 ?_
    refine V.aload_n (pc := 101) (i := 0) hK rfl ⟨_, rfl⟩ dX11_sure_101 ?_
    refine V.getR (pc := 102) hK fl_RX11_67 rfl (hL.1 0 _ ls_0) (hL.2 0 9 52 rfl) dX11_sure_102 ?_
    refine V.iconst (pc := 105) (v := -1) hK (by decide) dX11_sure_105 ?_
    refine V.iload_n (pc := 106) (i := 1) hK rfl dX11_sure_106 ?_
    obtain ⟨z2, hz2, h⟩ := v_bdS h
    refine V.cV (pc := 107) (ci := 10) hK (c_X10_canBe E hL N _ _ _ hz2) Y_X10_canBe cv_RX11_298 (by decide) rfl (hL.1 64 _ ls_64) dX11_sure_107 (by decide) rfl (Nat.le_of_ble_eq_true rfl) ?_
    refine V.if_eq (pc := 110) (tgt := 117) hK dX11_sure_110 (by decide) (fun c => ?_) (fun c => ?_)
    · rw [if_pos c] at h
      refine V.iconst (pc := 117) (v := 2) hK (by decide) dX11_sure_117 ?_
      exact V.iret (pc := 118) hO dX11_sure_118 (v_finI h)
    · rw [if_neg c] at h
      refine V.iconst (pc := 113) (v := 0) hK (by decide) dX11_sure_113 ?_
      refine V.goto (pc := 114) (tgt := 118) hK dX11_sure_114 (by decide) ?_
      exact V.iret (pc := 118) hO dX11_sure_118 (v_finI h)
set_option maxHeartbeats 4000000 in
set_option maxRecDepth 100000 in
theorem c_X11_sure (E : v_E) {sh : v_S} {P : v_P} (hL : v_Lay sh P) (N : Nat) (x1 : Int32) (M : v_M) {out : Int32 × v_M} (h : f_X11_sure N x1 M = some out) : v_Ct E 5 yX11_sure cX11_sure 2 (some .int) 0 0 [v_rf E 0, .int x1] sh P M (v_Q1 (some (.int out.1)) sh P out.2) := by
  refine v_Ct.of (by decide +kernel) (Nat.le_of_ble_eq_true rfl) (fun X hO => ?_)
  have hK : v_K E X cX11_sure RX11 2 5 := hO.1
  have hO : v_O E X cX11_sure RX11 2 5 (some .int) "sure" (v_Q1 (some (.int out.1)) sh P out.2) := hO
  show V E X (0, 0) 0 [(0, v_rf E 0), (1, .int x1)] [] sh P M
  unfold f_X11_sure at h
  refine V.iload_n (pc := 0) (i := 1) hK rfl dX11_sure_0 ?_
  refine V.iconst (pc := 1) (v := 0) hK (by decide) dX11_sure_1 ?_
  refine V.aload_n (pc := 2) (i := 0) hK rfl ⟨_, rfl⟩ dX11_sure_2 ?_
  refine V.getR (pc := 3) hK fl_RX11_67 rfl (hL.1 0 _ ls_0) (hL.2 0 9 52 rfl) dX11_sure_3 ?_
  refine V.getI (pc := 6) hK fl_RX11_283 rfl (hL.1 52 _ ls_52) dX11_sure_6 ?_
  refine V.iconst (pc := 9) (v := 1) hK (by decide) dX11_sure_9 ?_
  refine V.isub (pc := 10) hK dX11_sure_10 ?_
  obtain ⟨z1, hz1, h⟩ := v_bdS h
  refine V.cS (pc := 11) hK (c_X11_within E hL N _ _ _ _ hz1) Y_X11_within cs_RX11_93 dX11_sure_11 (by decide) rfl (Nat.le_of_ble_eq_true rfl) ?_
  refine V.if_ne (pc := 14) (tgt := 19) hK dX11_sure_14 (by decide) (fun c => ?_) (fun c => ?_)
  · rw [if_neg c] at h
    refine V.aload_n (pc := 19) (i := 0) hK rfl ⟨_, rfl⟩ dX11_sure_19 ?_
    refine V.getR (pc := 20) hK fl_RX11_74 rfl (hL.1 0 _ ls_0) (hL.2 0 10 64 rfl) dX11_sure_20 ?_
    refine V.aload_n (pc := 23) (i := 0) hK rfl ⟨_, rfl⟩ dX11_sure_23 ?_
    refine V.getR (pc := 24) hK fl_RX11_67 rfl (hL.1 0 _ ls_0) (hL.2 0 9 52 rfl) dX11_sure_24 ?_
    obtain ⟨z2, hz2, h⟩ := v_bdS h
    refine V.cVv (pc := 27) (ci := 10) hK (c_X10_learn E hL N _ hz2) Y_X10_learn cv_RX11_294 (by decide) rfl (hL.1 64 _ ls_64) dX11_sure_27 (by decide) rfl (Nat.le_of_ble_eq_true rfl) ?_
    refine V.aload_n (pc := 30) (i := 0) hK rfl ⟨_, rfl⟩ dX11_sure_30 ?_
    refine V.getR (pc := 31) hK fl_RX11_74 rfl (hL.1 0 _ ls_0) (hL.2 0 10 64 rfl) dX11_sure_31 ?_
    refine V.aload_n (pc := 34) (i := 0) hK rfl ⟨_, rfl⟩ dX11_sure_34 ?_
    refine V.getR (pc := 35) hK fl_RX11_67 rfl (hL.1 0 _ ls_0) (hL.2 0 9 52 rfl) dX11_sure_35 ?_
    refine V.iconst (pc := 38) (v := -1) hK (by decide) dX11_sure_38 ?_
    refine V.iconst (pc := 39) (v := -1) hK (by decide) dX11_sure_39 ?_
    obtain ⟨z3, hz3, h⟩ := v_bdS h
    refine V.cV (pc := 40) (ci := 10) hK (c_X10_canBe E hL N _ _ _ hz3) Y_X10_canBe cv_RX11_298 (by decide) rfl (hL.1 64 _ ls_64) dX11_sure_40 (by decide) rfl (Nat.le_of_ble_eq_true rfl) ?_
    refine V.if_ne (pc := 43) (tgt := 49) hK dX11_sure_43 (by decide) (fun c => ?_) (fun c => ?_)
    · rw [if_neg c] at h
      refine V.aload_n (pc := 49) (i := 0) hK rfl ⟨_, rfl⟩ dX11_sure_49 ?_
      refine V.getR (pc := 50) hK fl_RX11_74 rfl (hL.1 0 _ ls_0) (hL.2 0 10 64 rfl) dX11_sure_50 ?_
      refine V.aload_n (pc := 53) (i := 0) hK rfl ⟨_, rfl⟩ dX11_sure_53 ?_
      refine V.getR (pc := 54) hK fl_RX11_67 rfl (hL.1 0 _ ls_0) (hL.2 0 9 52 rfl) dX11_sure_54 ?_
      refine V.iload_n (pc := 57) (i := 1) hK rfl dX11_sure_57 ?_
      obtain ⟨z4, hz4, h⟩ := v_bdS h
      refine V.cV (pc := 58) (ci := 10) hK (c_X10_serves E hL N _ _ hz4) Y_X10_serves cv_RX11_306 (by decide) rfl (hL.1 64 _ ls_64) dX11_sure_58 (by decide) rfl (Nat.le_of_ble_eq_true rfl) ?_
      refine V.if_eq (pc := 61) (tgt := 82) hK dX11_sure_61 (by decide) (fun c => ?_) (fun c => ?_)
      · rw [if_pos c] at h
        refine V.pick [0, 1] (l := [(0, _), (1, _)]) rfl ?_
        exact w_X11_sure_L82 hL hO N _ _ h
      · rw [if_neg c] at h
        refine V.aload_n (pc := 64) (i := 0) hK rfl ⟨_, rfl⟩ dX11_sure_64 ?_
        refine V.getR (pc := 65) hK fl_RX11_74 rfl (hL.1 0 _ ls_0) (hL.2 0 10 64 rfl) dX11_sure_65 ?_
        refine V.aload_n (pc := 68) (i := 0) hK rfl ⟨_, rfl⟩ dX11_sure_68 ?_
        refine V.getR (pc := 69) hK fl_RX11_67 rfl (hL.1 0 _ ls_0) (hL.2 0 9 52 rfl) dX11_sure_69 ?_
        refine V.iload_n (pc := 72) (i := 1) hK rfl dX11_sure_72 ?_
        refine V.iconst (pc := 73) (v := -1) hK (by decide) dX11_sure_73 ?_
        obtain ⟨z5, hz5, h⟩ := v_bdS h
        refine V.cV (pc := 74) (ci := 10) hK (c_X10_canBe E hL N _ _ _ hz5) Y_X10_canBe cv_RX11_298 (by decide) rfl (hL.1 64 _ ls_64) dX11_sure_74 (by decide) rfl (Nat.le_of_ble_eq_true rfl) ?_
        refine V.if_ne (pc := 77) (tgt := 82) hK dX11_sure_77 (by decide) (fun c => ?_) (fun c => ?_)
        · rw [if_neg c] at h
          refine V.pick [0, 1] (l := [(0, _), (1, _)]) rfl ?_
          exact w_X11_sure_L82 hL hO N _ _ h
        · rw [if_pos c] at h
          refine V.iconst (pc := 80) (v := 1) hK (by decide) dX11_sure_80 ?_
          exact V.iret (pc := 81) hO dX11_sure_81 (v_finI h)
    · rw [if_pos c] at h
      refine V.bipush (pc := 46) (v := -2) hK (by decide) dX11_sure_46 ?_
      exact V.iret (pc := 48) hO dX11_sure_48 (v_finI h)
  · rw [if_pos c] at h
    refine V.iconst (pc := 17) (v := -1) hK (by decide) dX11_sure_17 ?_
    exact V.iret (pc := 18) hO dX11_sure_18 (v_finI h)
set_option maxHeartbeats 4000000 in
set_option maxRecDepth 100000 in
theorem w_X0_bindByClause_L85 {E : v_E} {X : v_X} {sh : v_S} {P : v_P} {out : Int32 × v_M} (hL : v_Lay sh P) (q1 : Nat) (hq1 : v_Or sh P q1) (hO : v_O E X cX0_bindByClause RX0 6 3 none "bindByClause" (v_Q1 (none) sh P out.2)) (N : Nat) (t0 : Int32) (t1 : Int32) (M : v_M) (h : f_X0_bindByClause_L85 N q1 t0 t1 M = some out) : V E X (0, 0) 85 [] [.int t0, .int t1, v_rf E 49] sh P M := by
  have hK := hO.1
  unfold f_X0_bindByClause_L85 at h
  refine V.ior (pc := 85) hK dX0_bindByClause_85 ?_
  refine V.putI (pc := 86) hK fl_RX0_15 rfl rfl ⟨rfl, rfl⟩ (hL.1 49 _ ls_49) dX0_bindByClause_86 ?_
  refine V.nmM (fun M1 eM1 => ?_)
  have h := v_lt eM1 h
  refine V.goto (pc := 89) (tgt := 138) hK dX0_bindByClause_89 (by decide) ?_
  exact V.vret (pc := 138) hO dX0_bindByClause_138 (v_finV h)
set_option maxHeartbeats 4000000 in
set_option maxRecDepth 100000 in
theorem c_X0_bindByClause (E : v_E) {sh : v_S} {P : v_P} (hL : v_Lay sh P) (N : Nat) (q1 : Nat) (hq1 : v_Or sh P q1) (x2 : Int32) (x3 : Int32) (M : v_M) {out : Int32 × v_M} (h : f_X0_bindByClause N q1 x2 x3 M = some out) : v_Ct E 3 yX0_bindByClause cX0_bindByClause 6 none 0 0 [v_rf E 49, v_rf E q1, .int x2, .int x3] sh P M (v_Q1 (none) sh P out.2) := by
  refine v_Ct.of (by decide +kernel) (Nat.le_of_ble_eq_true rfl) (fun X hO => ?_)
  have hK : v_K E X cX0_bindByClause RX0 6 3 := hO.1
  have hO : v_O E X cX0_bindByClause RX0 6 3 none "bindByClause" (v_Q1 (none) sh P out.2) := hO
  show V E X (0, 0) 0 [(0, v_rf E 49), (1, v_rf E q1), (2, .int x2), (3, .int x3)] [] sh P M
  unfold f_X0_bindByClause at h
  refine V.aload_n (pc := 0) (i := 1) hK rfl ⟨_, rfl⟩ dX0_bindByClause_0 ?_
  refine V.getR (pc := 1) hK fl_RX0_88 rfl (hq1.1 0 _ rfl) (hq1.2 5 2 rfl) dX0_bindByClause_1 ?_
  refine V.iload_n (pc := 4) (i := 2) hK rfl dX0_bindByClause_4 ?_
  obtain ⟨hb, h⟩ := v_ckS h
  refine V.iald (pc := 5) hK (hq1.1 2 _ rfl) (v_ibS hb) dX0_bindByClause_5 ?_
  refine V.topi (fun y1 ey1 => ?_)
  have h := v_lt ey1 h
  refine V.istore (pc := 6) (i := 4) (lv' := [(0, _), (1, _), (2, _), (3, _), (4, _)]) hK (by decide) rfl dX0_bindByClause_6 ?_
  refine V.aload_n (pc := 8) (i := 1) hK rfl ⟨_, rfl⟩ dX0_bindByClause_8 ?_
  refine V.getR (pc := 9) hK fl_RX0_91 rfl (hq1.1 0 _ rfl) (hq1.2 4 1 rfl) dX0_bindByClause_9 ?_
  refine V.iload_n (pc := 12) (i := 2) hK rfl dX0_bindByClause_12 ?_
  obtain ⟨hb, h⟩ := v_ckS h
  refine V.iald (pc := 13) hK (hq1.1 1 _ rfl) (v_ibS hb) dX0_bindByClause_13 ?_
  by_cases c0 : (M.1 (q1 + 1) x2.toNatClampNeg) = (0 : Int32)
  · rw [if_pos c0] at h
    refine V.tableIn (pc := 14) (off := 26) (tgt := 40) hK dX0_bindByClause_14 (by rw [c0]; decide) (by rw [c0]; decide) (by rw [c0]; decide) (by decide) ?_
    refine V.iconst (pc := 40) (v := 1) hK (by decide) dX0_bindByClause_40 ?_
    refine V.iload (pc := 41) (i := 4) hK rfl dX0_bindByClause_41 ?_
    refine V.ishl (pc := 43) hK dX0_bindByClause_43 ?_
    refine V.aload_n (pc := 44) (i := 0) hK rfl ⟨_, rfl⟩ dX0_bindByClause_44 ?_
    refine V.getI (pc := 45) hK fl_RX0_28 rfl (hL.1 49 _ ls_49) dX0_bindByClause_45 ?_
    refine V.iconst (pc := 48) (v := -1) hK (by decide) dX0_bindByClause_48 ?_
    refine V.ixor (pc := 49) hK dX0_bindByClause_49 ?_
    refine V.iand (pc := 50) hK dX0_bindByClause_50 ?_
    refine V.topi (fun y2 ey2 => ?_)
    have h := v_lt ey2 h
    refine V.istore (pc := 51) (i := 5) (lv' := [(0, _), (1, _), (2, _), (3, _), (4, _), (5, _)]) hK (by decide) rfl dX0_bindByClause_51 ?_
    refine V.aload_n (pc := 53) (i := 0) hK rfl ⟨_, rfl⟩ dX0_bindByClause_53 ?_
    refine V.dup (pc := 54) hK rfl dX0_bindByClause_54 ?_
    refine V.getI (pc := 55) hK fl_RX0_9 rfl (hL.1 49 _ ls_49) dX0_bindByClause_55 ?_
    refine V.iload (pc := 58) (i := 5) hK rfl dX0_bindByClause_58 ?_
    refine V.ior (pc := 60) hK dX0_bindByClause_60 ?_
    refine V.putI (pc := 61) hK fl_RX0_9 rfl rfl ⟨rfl, rfl⟩ (hL.1 49 _ ls_49) dX0_bindByClause_61 ?_
    refine V.nmM (fun M3 eM3 => ?_)
    have h := v_lt eM3 h
    refine V.aload_n (pc := 64) (i := 0) hK rfl ⟨_, rfl⟩ dX0_bindByClause_64 ?_
    refine V.dup (pc := 65) hK rfl dX0_bindByClause_65 ?_
    refine V.getI (pc := 66) hK fl_RX0_15 rfl (hL.1 49 _ ls_49) dX0_bindByClause_66 ?_
    refine V.iload_n (pc := 69) (i := 3) hK rfl dX0_bindByClause_69 ?_
    refine V.aload_n (pc := 70) (i := 1) hK rfl ⟨_, rfl⟩ dX0_bindByClause_70 ?_
    refine V.getR (pc := 71) hK fl_RX0_94 rfl (hq1.1 0 _ rfl) (hq1.2 6 3 rfl) dX0_bindByClause_71 ?_
    refine V.iload_n (pc := 74) (i := 2) hK rfl dX0_bindByClause_74 ?_
    obtain ⟨hb, h⟩ := v_ckS h
    refine V.iald (pc := 75) hK (hq1.1 3 _ rfl) (v_ibS hb) dX0_bindByClause_75 ?_
    refine V.icmp_le (pc := 76) (tgt := 84) hK dX0_bindByClause_76 (by decide) (fun c => ?_) (fun c => ?_)
    · rw [if_pos c] at h
      refine V.iconst (pc := 84) (v := 0) hK (by decide) dX0_bindByClause_84 ?_
      refine V.pick [] (l := []) rfl ?_
      exact w_X0_bindByClause_L85 hL q1 hq1 hO N _ _ _ h
    · rw [if_neg c] at h
      refine V.iload (pc := 79) (i := 5) hK rfl dX0_bindByClause_79 ?_
      refine V.goto (pc := 81) (tgt := 85) hK dX0_bindByClause_81 (by decide) ?_
      refine V.pick [] (l := []) rfl ?_
      exact w_X0_bindByClause_L85 hL q1 hq1 hO N _ _ _ h
  · rw [if_neg c0] at h
    by_cases c1 : (M.1 (q1 + 1) x2.toNatClampNeg) = (1 : Int32)
    · rw [if_pos c1] at h
      refine V.tableIn (pc := 14) (off := 78) (tgt := 92) hK dX0_bindByClause_14 (by rw [c1]; decide) (by rw [c1]; decide) (by rw [c1]; decide) (by decide) ?_
      refine V.aload_n (pc := 92) (i := 0) hK rfl ⟨_, rfl⟩ dX0_bindByClause_92 ?_
      refine V.aload_n (pc := 93) (i := 0) hK rfl ⟨_, rfl⟩ dX0_bindByClause_93 ?_
      refine V.getI (pc := 94) hK fl_RX0_25 rfl (hL.1 49 _ ls_49) dX0_bindByClause_94 ?_
      refine V.aload_n (pc := 97) (i := 0) hK rfl ⟨_, rfl⟩ dX0_bindByClause_97 ?_
      refine V.aload_n (pc := 98) (i := 1) hK rfl ⟨_, rfl⟩ dX0_bindByClause_98 ?_
      refine V.iload (pc := 99) (i := 4) hK rfl dX0_bindByClause_99 ?_
      refine V.aload_n (pc := 101) (i := 1) hK rfl ⟨_, rfl⟩ dX0_bindByClause_101 ?_
      refine V.getR (pc := 102) hK fl_RX0_74 rfl (hq1.1 0 _ rfl) (hq1.2 7 4 rfl) dX0_bindByClause_102 ?_
      refine V.iload_n (pc := 105) (i := 2) hK rfl dX0_bindByClause_105 ?_
      obtain ⟨hb, h⟩ := v_ckS h
      refine V.iald (pc := 106) hK (hq1.1 4 _ rfl) (v_ibS hb) dX0_bindByClause_106 ?_
      obtain ⟨z4, hz4, h⟩ := v_bdS h
      refine V.cV (pc := 107) (ci := 0) hK (c_X0_valueOf E hL N _ hq1 _ _ _ hz4) Y_X0_valueOf cv_RX0_80 (by decide) rfl (hL.1 49 _ ls_49) dX0_bindByClause_107 (by decide) rfl (Nat.le_of_ble_eq_true rfl) ?_
      refine V.mmin (pc := 110) hK tw_944 tw_mmins tw_mi tw_mminc dX0_bindByClause_110 (by decide) (Nat.le_of_ble_eq_true rfl) ?_
      refine V.putI (pc := 113) hK fl_RX0_25 rfl rfl ⟨rfl, rfl⟩ (hL.1 49 _ ls_49) dX0_bindByClause_113 ?_
      refine V.nmM (fun M5 eM5 => ?_)
      have h := v_lt eM5 h
      refine V.goto (pc := 116) (tgt := 138) hK dX0_bindByClause_116 (by decide) ?_
      exact V.vret (pc := 138) hO dX0_bindByClause_138 (v_finV h)
    · rw [if_neg c1] at h
      by_cases c2 : (M.1 (q1 + 1) x2.toNatClampNeg) = (2 : Int32)
      · rw [if_pos c2] at h
        refine V.tableIn (pc := 14) (off := 105) (tgt := 119) hK dX0_bindByClause_14 (by rw [c2]; decide) (by rw [c2]; decide) (by rw [c2]; decide) (by decide) ?_
        refine V.aload_n (pc := 119) (i := 0) hK rfl ⟨_, rfl⟩ dX0_bindByClause_119 ?_
        refine V.dup (pc := 120) hK rfl dX0_bindByClause_120 ?_
        refine V.getI (pc := 121) hK fl_RX0_18 rfl (hL.1 49 _ ls_49) dX0_bindByClause_121 ?_
        refine V.iload (pc := 124) (i := 4) hK rfl dX0_bindByClause_124 ?_
        refine V.ior (pc := 126) hK dX0_bindByClause_126 ?_
        refine V.putI (pc := 127) hK fl_RX0_18 rfl rfl ⟨rfl, rfl⟩ (hL.1 49 _ ls_49) dX0_bindByClause_127 ?_
        refine V.nmM (fun M6 eM6 => ?_)
        have h := v_lt eM6 h
        refine V.goto (pc := 130) (tgt := 138) hK dX0_bindByClause_130 (by decide) ?_
        exact V.vret (pc := 138) hO dX0_bindByClause_138 (v_finV h)
      · rw [if_neg c2] at h
        refine V.tableOut (pc := 14) (tgt := 133) hK dX0_bindByClause_14 (v_tout (fun i i1 i2 => ?_)) (by decide) ?_
        · rcases (show i = 0 ∨ i = 1 ∨ i = 2 by omega) with rfl | rfl | rfl
          · exact v_tne (by decide) c0
          · exact v_tne (by decide) c1
          · exact v_tne (by decide) c2
        · refine V.aload_n (pc := 133) (i := 0) hK rfl ⟨_, rfl⟩ dX0_bindByClause_133 ?_
          refine V.iconst (pc := 134) (v := 1) hK (by decide) dX0_bindByClause_134 ?_
          obtain ⟨hb, h⟩ := v_ckS h
          refine V.putI (pc := 135) hK fl_RX0_21 rfl rfl (v_okZ hb) (hL.1 49 _ ls_49) dX0_bindByClause_135 ?_
          refine V.nmM (fun M7 eM7 => ?_)
          have h := v_lt eM7 h
          exact V.vret (pc := 138) hO dX0_bindByClause_138 (v_finV h)
set_option maxHeartbeats 4000000 in
set_option maxRecDepth 100000 in
theorem c_X7_readBody (E : v_E) {sh : v_S} {P : v_P} (hL : v_Lay sh P) (N : Nat) (qo : Nat) (hqo : v_Or sh P qo) (hro : P 35 1 = some qo) (x1 : Int32) (x2 : Int32) (M : v_M) {out : Int32 × v_M} (h : f_X7_readBody N qo x1 x2 M = some out) : v_Ct E 3 yX7_readBody cX7_readBody 3 (some .boolean) 0 0 [v_rf E 35, .int x1, .int x2] sh P M (v_Q1 (some (.int out.1)) sh P out.2) := by
  refine v_Ct.of (by decide +kernel) (Nat.le_of_ble_eq_true rfl) (fun X hO => ?_)
  have hK : v_K E X cX7_readBody RX7 3 3 := hO.1
  have hO : v_O E X cX7_readBody RX7 3 3 (some .boolean) "readBody" (v_Q1 (some (.int out.1)) sh P out.2) := hO
  show V E X (0, 0) 0 [(0, v_rf E 35), (1, .int x1), (2, .int x2)] [] sh P M
  unfold f_X7_readBody at h
  refine V.iload_n (pc := 0) (i := 1) hK rfl dX7_readBody_0 ?_
  by_cases c0 : x1 = (0 : Int32)
  · rw [if_pos c0] at h
    refine V.tableIn (pc := 1) (off := 27) (tgt := 28) hK dX7_readBody_1 (by rw [c0]; decide) (by rw [c0]; decide) (by rw [c0]; decide) (by decide) ?_
    refine V.aload_n (pc := 28) (i := 0) hK rfl ⟨_, rfl⟩ dX7_readBody_28 ?_
    refine V.iload_n (pc := 29) (i := 2) hK rfl dX7_readBody_29 ?_
    obtain ⟨z1, hz1, h⟩ := v_bdS h
    refine V.cV (pc := 30) (ci := 7) hK (c_X7_readMust E hL N _ hqo hro _ _ hz1) Y_X7_readMust cv_RX7_94 (by decide) rfl (hL.1 35 _ ls_35) dX7_readBody_30 (by decide) rfl (Nat.le_of_ble_eq_true rfl) ?_
    obtain ⟨hb, h⟩ := v_ckS h
    exact V.zret (pc := 33) hO (v_z01 hb) dX7_readBody_33 (v_finI h)
  · rw [if_neg c0] at h
    by_cases c1 : x1 = (1 : Int32)
    · rw [if_pos c1] at h
      refine V.tableIn (pc := 1) (off := 33) (tgt := 34) hK dX7_readBody_1 (by rw [c1]; decide) (by rw [c1]; decide) (by rw [c1]; decide) (by decide) ?_
      refine V.aload_n (pc := 34) (i := 0) hK rfl ⟨_, rfl⟩ dX7_readBody_34 ?_
      refine V.getR (pc := 35) hK fl_RX7_21 rfl (hL.1 35 _ ls_35) hro dX7_readBody_35 ?_
      refine V.getR (pc := 38) hK fl_RX7_97 rfl (hqo.1 0 _ rfl) (hqo.2 5 2 rfl) dX7_readBody_38 ?_
      refine V.iload_n (pc := 41) (i := 2) hK rfl dX7_readBody_41 ?_
      refine V.aload_n (pc := 42) (i := 0) hK rfl ⟨_, rfl⟩ dX7_readBody_42 ?_
      refine V.getR (pc := 43) hK fl_RX7_21 rfl (hL.1 35 _ ls_35) hro dX7_readBody_43 ?_
      refine V.getI (pc := 46) hK fl_RX7_82 rfl (hqo.1 0 _ rfl) dX7_readBody_46 ?_
      obtain ⟨hb, h⟩ := v_ckS h
      refine V.iast (pc := 49) hK (hqo.1 2 _ rfl) (v_ibS hb) dX7_readBody_49 ?_
      refine V.nmM (fun M2 eM2 => ?_)
      have h := v_lt eM2 h
      refine V.aload_n (pc := 50) (i := 0) hK rfl ⟨_, rfl⟩ dX7_readBody_50 ?_
      obtain ⟨z3, hz3, h⟩ := v_bdS h
      refine V.cV (pc := 51) (ci := 7) hK (c_X7_readSum E hL N _ hqo hro _ hz3) Y_X7_readSum cv_RX7_98 (by decide) rfl (hL.1 35 _ ls_35) dX7_readBody_51 (by decide) rfl (Nat.le_of_ble_eq_true rfl) ?_
      obtain ⟨hb, h⟩ := v_ckS h
      exact V.zret (pc := 54) hO (v_z01 hb) dX7_readBody_54 (v_finI h)
    · rw [if_neg c1] at h
      by_cases c2 : x1 = (2 : Int32)
      · rw [if_pos c2] at h
        refine V.tableIn (pc := 1) (off := 54) (tgt := 55) hK dX7_readBody_1 (by rw [c2]; decide) (by rw [c2]; decide) (by rw [c2]; decide) (by decide) ?_
        refine V.aload_n (pc := 55) (i := 0) hK rfl ⟨_, rfl⟩ dX7_readBody_55 ?_
        refine V.iload_n (pc := 56) (i := 2) hK rfl dX7_readBody_56 ?_
        obtain ⟨z4, hz4, h⟩ := v_bdS h
        refine V.cV (pc := 57) (ci := 7) hK (c_X7_readLook E hL N _ hqo hro _ _ hz4) Y_X7_readLook cv_RX7_102 (by decide) rfl (hL.1 35 _ ls_35) dX7_readBody_57 (by decide) rfl (Nat.le_of_ble_eq_true rfl) ?_
        obtain ⟨hb, h⟩ := v_ckS h
        exact V.zret (pc := 60) hO (v_z01 hb) dX7_readBody_60 (v_finI h)
      · rw [if_neg c2] at h
        refine V.tableOut (pc := 1) (tgt := 61) hK dX7_readBody_1 (v_tout (fun i i1 i2 => ?_)) (by decide) ?_
        · rcases (show i = 0 ∨ i = 1 ∨ i = 2 by omega) with rfl | rfl | rfl
          · exact v_tne (by decide) c0
          · exact v_tne (by decide) c1
          · exact v_tne (by decide) c2
        · refine V.iconst (pc := 61) (v := 1) hK (by decide) dX7_readBody_61 ?_
          obtain ⟨hb, h⟩ := v_ckS h
          exact V.zret (pc := 62) hO (v_z01 hb) dX7_readBody_62 (v_finI h)
set_option maxHeartbeats 4000000 in
set_option maxRecDepth 100000 in
theorem w_X7_readFact_L19 {E : v_E} {X : v_X} {sh : v_S} {P : v_P} {out : Int32 × v_M} (hL : v_Lay sh P) (qo : Nat) (hqo : v_Or sh P qo) (hro : P 35 1 = some qo) (dF : Nat) (rf : Int32 → v_M → Option (Int32 × v_M)) (hrf : ∀ (x : Int32) (M : v_M) (out : Int32 × v_M), rf x M = some out → v_Ct E dF yX7_readFact cX7_readFact 3 (some .boolean) 0 0 [v_rf E 35, .int x] sh P M (v_Q1 (some (.int out.1)) sh P out.2)) (hO : v_O E X cX7_readFact RX7 3 (dF + 3) (some .boolean) "readFact" (v_Q1 (some (.int out.1)) sh P out.2)) (N : Nat) (x1 : Int32) (M : v_M) (h : f_X7_readFact_L19 N qo rf x1 M = some out) : V E X (0, 0) 19 [(0, v_rf E 35), (1, .int x1)] [] sh P M := by
  have hK := hO.1
  unfold f_X7_readFact_L19 at h
  refine V.aload_n (pc := 19) (i := 0) hK rfl ⟨_, rfl⟩ dX7_readFact_19 ?_
  refine V.iload_n (pc := 20) (i := 1) hK rfl dX7_readFact_20 ?_
  refine V.iconst (pc := 21) (v := 1) hK (by decide) dX7_readFact_21 ?_
  refine V.iadd (pc := 22) hK dX7_readFact_22 ?_
  obtain ⟨z1, hz1, h⟩ := v_bdS h
  refine V.cV (pc := 23) (ci := 7) hK (c_X7_readInner E hL N _ hqo hro dF _ hrf _ _ hz1) Y_X7_readInner cv_RX7_118 (by decide) rfl (hL.1 35 _ ls_35) dX7_readFact_23 (by omega) rfl (Nat.le_of_ble_eq_true rfl) ?_
  obtain ⟨hb, h⟩ := v_ckS h
  exact V.zret (pc := 26) hO (v_z01 hb) dX7_readFact_26 (v_finI h)
set_option maxHeartbeats 4000000 in
set_option maxRecDepth 100000 in
theorem c_X7_readFact (E : v_E) {sh : v_S} {P : v_P} (hL : v_Lay sh P) (N : Nat) (qo : Nat) (hqo : v_Or sh P qo) (hro : P 35 1 = some qo) (dF : Nat) (rf : Int32 → v_M → Option (Int32 × v_M)) (hrf : ∀ (x : Int32) (M : v_M) (out : Int32 × v_M), rf x M = some out → v_Ct E dF yX7_readFact cX7_readFact 3 (some .boolean) 0 0 [v_rf E 35, .int x] sh P M (v_Q1 (some (.int out.1)) sh P out.2)) (x1 : Int32) (M : v_M) {out : Int32 × v_M} (h : f_X7_readFact N qo rf x1 M = some out) : v_Ct E (dF + 3) yX7_readFact cX7_readFact 3 (some .boolean) 0 0 [v_rf E 35, .int x1] sh P M (v_Q1 (some (.int out.1)) sh P out.2) := by
  refine v_Ct.of (by decide +kernel) (Nat.le_of_ble_eq_true rfl) (fun X hO => ?_)
  have hK : v_K E X cX7_readFact RX7 3 (dF + 3) := hO.1
  have hO : v_O E X cX7_readFact RX7 3 (dF + 3) (some .boolean) "readFact" (v_Q1 (some (.int out.1)) sh P out.2) := hO
  show V E X (0, 0) 0 [(0, v_rf E 35), (1, .int x1)] [] sh P M
  unfold f_X7_readFact at h
  refine V.aload_n (pc := 0) (i := 0) hK rfl ⟨_, rfl⟩ dX7_readFact_0 ?_
  refine V.getI (pc := 1) hK fl_RX7_29 rfl (hL.1 35 _ ls_35) dX7_readFact_1 ?_
  refine V.sipush (pc := 4) (v := 279) hK (by decide) dX7_readFact_4 ?_
  refine V.icmp_eq (pc := 7) (tgt := 19) hK dX7_readFact_7 (by decide) (fun c => ?_) (fun c => ?_)
  · rw [if_pos c] at h
    refine V.pick [0, 1] (l := [(0, _), (1, _)]) rfl ?_
    exact w_X7_readFact_L19 hL qo hqo hro dF rf hrf hO N _ _ h
  · rw [if_neg c] at h
    refine V.aload_n (pc := 10) (i := 0) hK rfl ⟨_, rfl⟩ dX7_readFact_10 ?_
    refine V.getI (pc := 11) hK fl_RX7_29 rfl (hL.1 35 _ ls_35) dX7_readFact_11 ?_
    refine V.bipush (pc := 14) (v := 91) hK (by decide) dX7_readFact_14 ?_
    refine V.icmp_ne (pc := 16) (tgt := 27) hK dX7_readFact_16 (by decide) (fun c => ?_) (fun c => ?_)
    · rw [if_neg c] at h
      refine V.aload_n (pc := 27) (i := 0) hK rfl ⟨_, rfl⟩ dX7_readFact_27 ?_
      obtain ⟨z1, hz1, h⟩ := v_bdS h
      refine V.cV (pc := 28) (ci := 7) hK (c_X7_readSum E hL N _ hqo hro _ hz1) Y_X7_readSum cv_RX7_98 (by decide) rfl (hL.1 35 _ ls_35) dX7_readFact_28 (by omega) rfl (Nat.le_of_ble_eq_true rfl) ?_
      refine V.if_ne (pc := 31) (tgt := 36) hK dX7_readFact_31 (by decide) (fun c => ?_) (fun c => ?_)
      · rw [if_neg c] at h
        refine V.aload_n (pc := 36) (i := 0) hK rfl ⟨_, rfl⟩ dX7_readFact_36 ?_
        obtain ⟨z2, hz2, h⟩ := v_bdS h
        refine V.cV (pc := 37) (ci := 7) hK (c_X7_comparing E hL N _ hz2) Y_X7_comparing cv_RX7_121 (by decide) rfl (hL.1 35 _ ls_35) dX7_readFact_37 (by omega) rfl (Nat.le_of_ble_eq_true rfl) ?_
        refine V.topi (fun y3 ey3 => ?_)
        have h := v_lt ey3 h
        refine V.istore_n (pc := 40) (i := 2) (lv' := [(0, _), (1, _), (2, _)]) hK (by decide) rfl dX7_readFact_40 ?_
        refine V.iload_n (pc := 41) (i := 2) hK rfl dX7_readFact_41 ?_
        refine V.if_ne (pc := 42) (tgt := 51) hK dX7_readFact_42 (by decide) (fun c => ?_) (fun c => ?_)
        · rw [if_neg c] at h
          refine V.aload_n (pc := 51) (i := 0) hK rfl ⟨_, rfl⟩ dX7_readFact_51 ?_
          refine V.getI (pc := 52) hK fl_RX7_35 rfl (hL.1 35 _ ls_35) dX7_readFact_52 ?_
          refine V.bipush (pc := 55) (v := 60) hK (by decide) dX7_readFact_55 ?_
          refine V.icmp_lt (pc := 57) (tgt := 66) hK dX7_readFact_57 (by decide) (fun c => ?_) (fun c => ?_)
          · rw [if_pos c] at h
            refine V.aload_n (pc := 66) (i := 0) hK rfl ⟨_, rfl⟩ dX7_readFact_66 ?_
            refine V.dup (pc := 67) hK rfl dX7_readFact_67 ?_
            refine V.getI (pc := 68) hK fl_RX7_35 rfl (hL.1 35 _ ls_35) dX7_readFact_68 ?_
            refine V.iconst (pc := 71) (v := 1) hK (by decide) dX7_readFact_71 ?_
            refine V.iadd (pc := 72) hK dX7_readFact_72 ?_
            refine V.putI (pc := 73) hK fl_RX7_35 rfl rfl ⟨rfl, rfl⟩ (hL.1 35 _ ls_35) dX7_readFact_73 ?_
            refine V.nmM (fun M4 eM4 => ?_)
            have h := v_lt eM4 h
            refine V.aload_n (pc := 76) (i := 0) hK rfl ⟨_, rfl⟩ dX7_readFact_76 ?_
            obtain ⟨z5, hz5, h⟩ := v_bdS h
            refine V.cVv (pc := 77) (ci := 7) hK (c_X7_step E hL N _ hz5) Y_X7_step cv_RX7_47 (by decide) rfl (hL.1 35 _ ls_35) dX7_readFact_77 (by omega) rfl (Nat.le_of_ble_eq_true rfl) ?_
            refine V.aload_n (pc := 80) (i := 0) hK rfl ⟨_, rfl⟩ dX7_readFact_80 ?_
            obtain ⟨z6, hz6, h⟩ := v_bdS h
            refine V.cV (pc := 81) (ci := 7) hK (c_X7_readSum E hL N _ hqo hro _ hz6) Y_X7_readSum cv_RX7_98 (by decide) rfl (hL.1 35 _ ls_35) dX7_readFact_81 (by omega) rfl (Nat.le_of_ble_eq_true rfl) ?_
            refine V.if_ne (pc := 84) (tgt := 89) hK dX7_readFact_84 (by decide) (fun c => ?_) (fun c => ?_)
            · rw [if_neg c] at h
              refine V.aload_n (pc := 89) (i := 0) hK rfl ⟨_, rfl⟩ dX7_readFact_89 ?_
              refine V.getR (pc := 90) hK fl_RX7_21 rfl (hL.1 35 _ ls_35) hro dX7_readFact_90 ?_
              refine V.iload_n (pc := 93) (i := 2) hK rfl dX7_readFact_93 ?_
              obtain ⟨z7, hz7, h⟩ := v_bdS h
              refine V.cVv (pc := 94) (ci := 5) hK (c_X5_emit E hL N _ hqo _ _ hz7) Y_X5_emit cv_RX7_114 (by decide) rfl (hqo.1 0 _ rfl) dX7_readFact_94 (by omega) rfl (Nat.le_of_ble_eq_true rfl) ?_
              refine V.iconst (pc := 97) (v := 1) hK (by decide) dX7_readFact_97 ?_
              obtain ⟨hb, h⟩ := v_ckS h
              exact V.zret (pc := 98) hO (v_z01 hb) dX7_readFact_98 (v_finI h)
            · rw [if_pos c] at h
              refine V.iconst (pc := 87) (v := 0) hK (by decide) dX7_readFact_87 ?_
              obtain ⟨hb, h⟩ := v_ckS h
              exact V.zret (pc := 88) hO (v_z01 hb) dX7_readFact_88 (v_finI h)
          · rw [if_neg c] at h
            refine V.aload_n (pc := 60) (i := 0) hK rfl ⟨_, rfl⟩ dX7_readFact_60 ?_
            refine V.iconst (pc := 61) (v := 3) hK (by decide) dX7_readFact_61 ?_
            obtain ⟨z8, hz8, h⟩ := v_bdS h
            refine V.cV (pc := 62) (ci := 7) hK (c_X7_fail E hL N _ _ hz8) Y_X7_fail cv_RX7_54 (by decide) rfl (hL.1 35 _ ls_35) dX7_readFact_62 (by omega) rfl (Nat.le_of_ble_eq_true rfl) ?_
            obtain ⟨hb, h⟩ := v_ckS h
            exact V.zret (pc := 65) hO (v_z01 hb) dX7_readFact_65 (v_finI h)
        · rw [if_pos c] at h
          refine V.aload_n (pc := 45) (i := 0) hK rfl ⟨_, rfl⟩ dX7_readFact_45 ?_
          refine V.iconst (pc := 46) (v := 0) hK (by decide) dX7_readFact_46 ?_
          obtain ⟨z9, hz9, h⟩ := v_bdS h
          refine V.cV (pc := 47) (ci := 7) hK (c_X7_fail E hL N _ _ hz9) Y_X7_fail cv_RX7_54 (by decide) rfl (hL.1 35 _ ls_35) dX7_readFact_47 (by omega) rfl (Nat.le_of_ble_eq_true rfl) ?_
          obtain ⟨hb, h⟩ := v_ckS h
          exact V.zret (pc := 50) hO (v_z01 hb) dX7_readFact_50 (v_finI h)
      · rw [if_pos c] at h
        refine V.iconst (pc := 34) (v := 0) hK (by decide) dX7_readFact_34 ?_
        obtain ⟨hb, h⟩ := v_ckS h
        exact V.zret (pc := 35) hO (v_z01 hb) dX7_readFact_35 (v_finI h)
    · rw [if_pos c] at h
      refine V.pick [0, 1] (l := [(0, _), (1, _)]) rfl ?_
      exact w_X7_readFact_L19 hL qo hqo hro dF rf hrf hO N _ _ h
theorem c_fact (E : v_E) {sh : v_S} {P : v_P} (hL : v_Lay sh P) (N qo : Nat) (hqo : v_Or sh P qo) (hro : P 35 1 = some qo) (k : Nat) : ∀ (x : Int32) (M : v_M) (out : Int32 × v_M), f_fact N qo k x M = some out → v_Ct E (3 * k) yX7_readFact cX7_readFact 3 (some .boolean) 0 0 [v_rf E 35, .int x] sh P M (v_Q1 (some (.int out.1)) sh P out.2) := by
  induction k with
  | zero => intro x M out h; rw [f_fact] at h; cases h
  | succ k ih =>
    intro x M out h
    rw [f_fact] at h
    exact c_X7_readFact E hL N qo hqo hro (3 * k) _ ih x M h
set_option maxHeartbeats 4000000 in
set_option maxRecDepth 100000 in
theorem w_X9_split_L12 {E : v_E} {X : v_X} {sh : v_S} {P : v_P} {out : Int32 × v_M} (hL : v_Lay sh P) (hO : v_O E X cX9_split RX9 2 7 none "split" (v_Q1 (none) sh P out.2)) (N : Nat) (n : Nat) : ∀ (x1 : Int32) (M : v_M), f_X9_split_L12 N n x1 M = some out → V E X (0, 0) 12 [(0, v_rf E 36), (1, .int x1)] [] sh P M := by
  have hK := hO.1
  induction n with
  | zero => intro x1 M h; rw [f_X9_split_L12] at h; cases h
  | succ n ih =>
    intro x1 M h
    rw [f_X9_split_L12] at h
    refine V.iload_n (pc := 12) (i := 1) hK rfl dX9_split_12 ?_
    refine V.sipush (pc := 13) (v := 400) hK (by decide) dX9_split_13 ?_
    refine V.icmp_gt (pc := 16) (tgt := 68) hK dX9_split_16 (by decide) (fun c => ?_) (fun c => ?_)
    · rw [if_pos c] at h
      exact V.vret (pc := 68) hO dX9_split_68 (v_finV h)
    · rw [if_neg c] at h
      refine V.aload_n (pc := 19) (i := 0) hK rfl ⟨_, rfl⟩ dX9_split_19 ?_
      obtain ⟨z1, hz1, h⟩ := v_bdS h
      refine V.cVv (pc := 20) (ci := 9) hK (c_X9_skipBlanks E hL N _ hz1) Y_X9_skipBlanks cv_RX9_34 (by decide) rfl (hL.1 36 _ ls_36) dX9_split_20 (by decide) rfl (Nat.le_of_ble_eq_true rfl) ?_
      refine V.aload_n (pc := 23) (i := 0) hK rfl ⟨_, rfl⟩ dX9_split_23 ?_
      refine V.getR (pc := 24) hK fl_RX9_28 rfl (hL.1 36 _ ls_36) (hL.2 36 5 39 rfl) dX9_split_24 ?_
      refine V.iload_n (pc := 27) (i := 1) hK rfl dX9_split_27 ?_
      refine V.aload_n (pc := 28) (i := 0) hK rfl ⟨_, rfl⟩ dX9_split_28 ?_
      refine V.getI (pc := 29) hK fl_RX9_18 rfl (hL.1 36 _ ls_36) dX9_split_29 ?_
      obtain ⟨hb, h⟩ := v_ckS h
      refine V.iast (pc := 32) hK (hL.1 39 _ ls_39) (v_ibS hb) dX9_split_32 ?_
      refine V.nmM (fun M2 eM2 => ?_)
      have h := v_lt eM2 h
      refine V.aload_n (pc := 33) (i := 0) hK rfl ⟨_, rfl⟩ dX9_split_33 ?_
      refine V.getR (pc := 34) hK fl_RX9_25 rfl (hL.1 36 _ ls_36) (hL.2 36 4 38 rfl) dX9_split_34 ?_
      refine V.iload_n (pc := 37) (i := 1) hK rfl dX9_split_37 ?_
      refine V.aload_n (pc := 38) (i := 0) hK rfl ⟨_, rfl⟩ dX9_split_38 ?_
      refine V.iload_n (pc := 39) (i := 1) hK rfl dX9_split_39 ?_
      obtain ⟨z3, hz3, h⟩ := v_bdS h
      refine V.cV (pc := 40) (ci := 9) hK (c_X9_splitOne E hL N _ _ hz3) Y_X9_splitOne cv_RX9_37 (by decide) rfl (hL.1 36 _ ls_36) dX9_split_40 (by decide) rfl (Nat.le_of_ble_eq_true rfl) ?_
      obtain ⟨hb, h⟩ := v_ckS h
      refine V.iast (pc := 43) hK (hL.1 38 _ ls_38) (v_ibS hb) dX9_split_43 ?_
      refine V.nmM (fun M4 eM4 => ?_)
      have h := v_lt eM4 h
      refine V.aload_n (pc := 44) (i := 0) hK rfl ⟨_, rfl⟩ dX9_split_44 ?_
      refine V.iload_n (pc := 45) (i := 1) hK rfl dX9_split_45 ?_
      refine V.iconst (pc := 46) (v := 1) hK (by decide) dX9_split_46 ?_
      refine V.iadd (pc := 47) hK dX9_split_47 ?_
      refine V.putI (pc := 48) hK fl_RX9_15 rfl rfl ⟨rfl, rfl⟩ (hL.1 36 _ ls_36) dX9_split_48 ?_
      refine V.nmM (fun M5 eM5 => ?_)
      have h := v_lt eM5 h
      refine V.aload_n (pc := 51) (i := 0) hK rfl ⟨_, rfl⟩ dX9_split_51 ?_
      refine V.getR (pc := 52) hK fl_RX9_25 rfl (hL.1 36 _ ls_36) (hL.2 36 4 38 rfl) dX9_split_52 ?_
      refine V.iload_n (pc := 55) (i := 1) hK rfl dX9_split_55 ?_
      obtain ⟨hb, h⟩ := v_ckS h
      refine V.iald (pc := 56) hK (hL.1 38 _ ls_38) (v_ibS hb) dX9_split_56 ?_
      refine V.iconst (pc := 57) (v := -1) hK (by decide) dX9_split_57 ?_
      refine V.icmp_ne (pc := 58) (tgt := 62) hK dX9_split_58 (by decide) (fun c => ?_) (fun c => ?_)
      · rw [if_neg c] at h
        refine V.iinc (pc := 62) (i := 1) (v := 1) (lv' := [(0, _), (1, _)]) hK rfl (by decide) (by decide) rfl dX9_split_62 ?_
        refine V.goto (pc := 65) (tgt := 12) hK dX9_split_65 (by decide) ?_
        refine V.pick [0, 1] (l := [(0, _), (1, _)]) rfl ?_
        exact ih _ _ h
      · rw [if_pos c] at h
        exact V.vret (pc := 61) hO dX9_split_61 (v_finV h)
set_option maxHeartbeats 4000000 in
set_option maxRecDepth 100000 in
theorem c_X9_split (E : v_E) {sh : v_S} {P : v_P} (hL : v_Lay sh P) (N : Nat) (M : v_M) {out : Int32 × v_M} (h : f_X9_split N M = some out) : v_Ct E 7 yX9_split cX9_split 2 none 0 0 [v_rf E 36] sh P M (v_Q1 (none) sh P out.2) := by
  refine v_Ct.of (by decide +kernel) (Nat.le_of_ble_eq_true rfl) (fun X hO => ?_)
  have hK : v_K E X cX9_split RX9 2 7 := hO.1
  have hO : v_O E X cX9_split RX9 2 7 none "split" (v_Q1 (none) sh P out.2) := hO
  show V E X (0, 0) 0 [(0, v_rf E 36)] [] sh P M
  unfold f_X9_split at h
  refine V.aload_n (pc := 0) (i := 0) hK rfl ⟨_, rfl⟩ dX9_split_0 ?_
  refine V.iconst (pc := 1) (v := 0) hK (by decide) dX9_split_1 ?_
  refine V.putI (pc := 2) hK fl_RX9_18 rfl rfl ⟨rfl, rfl⟩ (hL.1 36 _ ls_36) dX9_split_2 ?_
  refine V.nmM (fun M1 eM1 => ?_)
  have h := v_lt eM1 h
  refine V.aload_n (pc := 5) (i := 0) hK rfl ⟨_, rfl⟩ dX9_split_5 ?_
  refine V.iconst (pc := 6) (v := 0) hK (by decide) dX9_split_6 ?_
  refine V.putI (pc := 7) hK fl_RX9_15 rfl rfl ⟨rfl, rfl⟩ (hL.1 36 _ ls_36) dX9_split_7 ?_
  refine V.nmM (fun M2 eM2 => ?_)
  have h := v_lt eM2 h
  refine V.iconst (pc := 10) (v := 0) hK (by decide) dX9_split_10 ?_
  refine V.istore_n (pc := 11) (i := 1) (lv' := [(0, _), (1, _)]) hK (by decide) rfl dX9_split_11 ?_
  refine V.pick [0, 1] (l := [(0, _), (1, _)]) rfl ?_
  exact w_X9_split_L12 hL hO N N _ _ h
