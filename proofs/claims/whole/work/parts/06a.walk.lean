set_option maxHeartbeats 4000000 in
set_option maxRecDepth 100000 in
theorem c_X0_heldForce (E : v_E) {sh : v_S} {P : v_P} (hL : v_Lay sh P) (N : Nat) (M : v_M) {out : Int32 × v_M} (h : f_X0_heldForce N M = some out) : v_Ct E 1 yX0_heldForce cX0_heldForce 1 (some .int) 0 0 [v_rf E 49] sh P M (v_Q1 (some (.int out.1)) sh P out.2) := by
  refine v_Ct.of (by decide +kernel) (Nat.le_of_ble_eq_true rfl) (fun X hO => ?_)
  have hK : v_K E X cX0_heldForce RX0 1 1 := hO.1
  have hO : v_O E X cX0_heldForce RX0 1 1 (some .int) "heldForce" (v_Q1 (some (.int out.1)) sh P out.2) := hO
  show V E X (0, 0) 0 [(0, v_rf E 49)] [] sh P M
  unfold f_X0_heldForce at h
  refine V.iconst (pc := 0) (v := 0) hK (by decide) dX0_heldForce_0 ?_
  refine V.aload_n (pc := 1) (i := 0) hK rfl ⟨_, rfl⟩ dX0_heldForce_1 ?_
  refine V.getI (pc := 2) hK fl_RX0_25 rfl (hL.1 49 _ ls_49) dX0_heldForce_2 ?_
  refine V.mmax (pc := 5) hK tw_931 tw_mmaxs tw_mi tw_mmaxc dX0_heldForce_5 (by decide) (Nat.le_of_ble_eq_true rfl) ?_
  exact V.iret (pc := 8) hO dX0_heldForce_8 (v_finI h)
set_option maxHeartbeats 4000000 in
set_option maxRecDepth 100000 in
theorem c_X1_add (E : v_E) {sh : v_S} {P : v_P} (hL : v_Lay sh P) (N : Nat) (x1 : Int32) (x2 : Int32) (x3 : Int32) (x4 : Int32) (x5 : Int32) (M : v_M) {out : Int32 × v_M} (h : f_X1_add N x1 x2 x3 x4 x5 M = some out) : v_Ct E 0 yX1_add cX1_add 7 (some .int) 0 0 [v_rf E 29, .int x1, .int x2, .int x3, .int x4, .int x5] sh P M (v_Q1 (some (.int out.1)) sh P out.2) := by
  refine v_Ct.of (by decide +kernel) (Nat.le_of_ble_eq_true rfl) (fun X hO => ?_)
  have hK : v_K E X cX1_add RX1 7 0 := hO.1
  have hO : v_O E X cX1_add RX1 7 0 (some .int) "add" (v_Q1 (some (.int out.1)) sh P out.2) := hO
  show V E X (0, 0) 0 [(0, v_rf E 29), (1, .int x1), (2, .int x2), (3, .int x3), (4, .int x4), (5, .int x5)] [] sh P M
  unfold f_X1_add at h
  refine V.aload_n (pc := 0) (i := 0) hK rfl ⟨_, rfl⟩ dX1_add_0 ?_
  refine V.getI (pc := 1) hK fl_RX1_9 rfl (hL.1 29 _ ls_29) dX1_add_1 ?_
  refine V.bipush (pc := 4) (v := 8) hK (by decide) dX1_add_4 ?_
  refine V.icmp_lt (pc := 6) (tgt := 11) hK dX1_add_6 (by decide) (fun c => ?_) (fun c => ?_)
  · rw [if_pos c] at h
    refine V.aload_n (pc := 11) (i := 0) hK rfl ⟨_, rfl⟩ dX1_add_11 ?_
    refine V.getI (pc := 12) hK fl_RX1_9 rfl (hL.1 29 _ ls_29) dX1_add_12 ?_
    refine V.topi (fun y1 ey1 => ?_)
    have h := v_lt ey1 h
    refine V.istore (pc := 15) (i := 6) (lv' := [(0, _), (1, _), (2, _), (3, _), (4, _), (5, _), (6, _)]) hK (by decide) rfl dX1_add_15 ?_
    refine V.aload_n (pc := 17) (i := 0) hK rfl ⟨_, rfl⟩ dX1_add_17 ?_
    refine V.getR (pc := 18) hK fl_RX1_15 rfl (hL.1 29 _ ls_29) (hL.2 29 1 30 rfl) dX1_add_18 ?_
    refine V.iload (pc := 21) (i := 6) hK rfl dX1_add_21 ?_
    refine V.iload_n (pc := 23) (i := 1) hK rfl dX1_add_23 ?_
    obtain ⟨hb, h⟩ := v_ckS h
    refine V.iast (pc := 24) hK (hL.1 30 _ ls_30) (v_ibS hb) dX1_add_24 ?_
    refine V.nmM (fun M2 eM2 => ?_)
    have h := v_lt eM2 h
    refine V.aload_n (pc := 25) (i := 0) hK rfl ⟨_, rfl⟩ dX1_add_25 ?_
    refine V.getR (pc := 26) hK fl_RX1_19 rfl (hL.1 29 _ ls_29) (hL.2 29 2 31 rfl) dX1_add_26 ?_
    refine V.iload (pc := 29) (i := 6) hK rfl dX1_add_29 ?_
    refine V.iload_n (pc := 31) (i := 2) hK rfl dX1_add_31 ?_
    obtain ⟨hb, h⟩ := v_ckS h
    refine V.iast (pc := 32) hK (hL.1 31 _ ls_31) (v_ibS hb) dX1_add_32 ?_
    refine V.nmM (fun M3 eM3 => ?_)
    have h := v_lt eM3 h
    refine V.aload_n (pc := 33) (i := 0) hK rfl ⟨_, rfl⟩ dX1_add_33 ?_
    refine V.getR (pc := 34) hK fl_RX1_22 rfl (hL.1 29 _ ls_29) (hL.2 29 3 32 rfl) dX1_add_34 ?_
    refine V.iload (pc := 37) (i := 6) hK rfl dX1_add_37 ?_
    refine V.iload_n (pc := 39) (i := 3) hK rfl dX1_add_39 ?_
    obtain ⟨hb, h⟩ := v_ckS h
    refine V.iast (pc := 40) hK (hL.1 32 _ ls_32) (v_ibS hb) dX1_add_40 ?_
    refine V.nmM (fun M4 eM4 => ?_)
    have h := v_lt eM4 h
    refine V.aload_n (pc := 41) (i := 0) hK rfl ⟨_, rfl⟩ dX1_add_41 ?_
    refine V.getR (pc := 42) hK fl_RX1_25 rfl (hL.1 29 _ ls_29) (hL.2 29 4 33 rfl) dX1_add_42 ?_
    refine V.iload (pc := 45) (i := 6) hK rfl dX1_add_45 ?_
    refine V.iload (pc := 47) (i := 4) hK rfl dX1_add_47 ?_
    obtain ⟨hb, h⟩ := v_ckS h
    refine V.iast (pc := 49) hK (hL.1 33 _ ls_33) (v_ibS hb) dX1_add_49 ?_
    refine V.nmM (fun M5 eM5 => ?_)
    have h := v_lt eM5 h
    refine V.aload_n (pc := 50) (i := 0) hK rfl ⟨_, rfl⟩ dX1_add_50 ?_
    refine V.getR (pc := 51) hK fl_RX1_28 rfl (hL.1 29 _ ls_29) (hL.2 29 5 34 rfl) dX1_add_51 ?_
    refine V.iload (pc := 54) (i := 6) hK rfl dX1_add_54 ?_
    refine V.iload (pc := 56) (i := 5) hK rfl dX1_add_56 ?_
    obtain ⟨hb, h⟩ := v_ckS h
    refine V.iast (pc := 58) hK (hL.1 34 _ ls_34) (v_ibS hb) dX1_add_58 ?_
    refine V.nmM (fun M6 eM6 => ?_)
    have h := v_lt eM6 h
    refine V.aload_n (pc := 59) (i := 0) hK rfl ⟨_, rfl⟩ dX1_add_59 ?_
    refine V.iload (pc := 60) (i := 6) hK rfl dX1_add_60 ?_
    refine V.iconst (pc := 62) (v := 1) hK (by decide) dX1_add_62 ?_
    refine V.iadd (pc := 63) hK dX1_add_63 ?_
    refine V.putI (pc := 64) hK fl_RX1_9 rfl rfl ⟨rfl, rfl⟩ (hL.1 29 _ ls_29) dX1_add_64 ?_
    refine V.nmM (fun M7 eM7 => ?_)
    have h := v_lt eM7 h
    refine V.iload (pc := 67) (i := 6) hK rfl dX1_add_67 ?_
    exact V.iret (pc := 69) hO dX1_add_69 (v_finI h)
  · rw [if_neg c] at h
    refine V.iconst (pc := 9) (v := -1) hK (by decide) dX1_add_9 ?_
    exact V.iret (pc := 10) hO dX1_add_10 (v_finI h)
set_option maxHeartbeats 4000000 in
set_option maxRecDepth 100000 in
theorem w_X1_coinsOf_L4 {E : v_E} {X : v_X} {sh : v_S} {P : v_P} {out : Int32 × v_M} (hL : v_Lay sh P) (hO : v_O E X cX1_coinsOf RX1 4 0 (some .int) "coinsOf" (v_Q1 (some (.int out.1)) sh P out.2)) (N : Nat) (n : Nat) : ∀ (x1 : Int32) (x2 : Int32) (x3 : Int32) (M : v_M), f_X1_coinsOf_L4 N n x1 x2 x3 M = some out → V E X (0, 0) 4 [(0, v_rf E 29), (1, .int x1), (2, .int x2), (3, .int x3)] [] sh P M := by
  have hK := hO.1
  induction n with
  | zero => intro x1 x2 x3 M h; rw [f_X1_coinsOf_L4] at h; cases h
  | succ n ih =>
    intro x1 x2 x3 M h
    rw [f_X1_coinsOf_L4] at h
    refine V.iload_n (pc := 4) (i := 3) hK rfl dX1_coinsOf_4 ?_
    refine V.aload_n (pc := 5) (i := 0) hK rfl ⟨_, rfl⟩ dX1_coinsOf_5 ?_
    refine V.getI (pc := 6) hK fl_RX1_9 rfl (hL.1 29 _ ls_29) dX1_coinsOf_6 ?_
    refine V.icmp_ge (pc := 9) (tgt := 33) hK dX1_coinsOf_9 (by decide) (fun c => ?_) (fun c => ?_)
    · rw [if_pos c] at h
      refine V.iload_n (pc := 33) (i := 2) hK rfl dX1_coinsOf_33 ?_
      exact V.iret (pc := 34) hO dX1_coinsOf_34 (v_finI h)
    · rw [if_neg c] at h
      refine V.iload_n (pc := 12) (i := 2) hK rfl dX1_coinsOf_12 ?_
      refine V.iload_n (pc := 13) (i := 1) hK rfl dX1_coinsOf_13 ?_
      refine V.iload_n (pc := 14) (i := 3) hK rfl dX1_coinsOf_14 ?_
      refine V.ishr (pc := 15) hK dX1_coinsOf_15 ?_
      refine V.iconst (pc := 16) (v := 1) hK (by decide) dX1_coinsOf_16 ?_
      refine V.iand (pc := 17) hK dX1_coinsOf_17 ?_
      refine V.aload_n (pc := 18) (i := 0) hK rfl ⟨_, rfl⟩ dX1_coinsOf_18 ?_
      refine V.getR (pc := 19) hK fl_RX1_28 rfl (hL.1 29 _ ls_29) (hL.2 29 5 34 rfl) dX1_coinsOf_19 ?_
      refine V.iload_n (pc := 22) (i := 3) hK rfl dX1_coinsOf_22 ?_
      obtain ⟨hb, h⟩ := v_ckS h
      refine V.iald (pc := 23) hK (hL.1 34 _ ls_34) (v_ibS hb) dX1_coinsOf_23 ?_
      refine V.imul (pc := 24) hK dX1_coinsOf_24 ?_
      refine V.iadd (pc := 25) hK dX1_coinsOf_25 ?_
      refine V.topi (fun y1 ey1 => ?_)
      have h := v_lt ey1 h
      refine V.istore_n (pc := 26) (i := 2) (lv' := [(0, _), (1, _), (2, _), (3, _)]) hK (by decide) rfl dX1_coinsOf_26 ?_
      refine V.iinc (pc := 27) (i := 3) (v := 1) (lv' := [(0, _), (1, _), (2, _), (3, _)]) hK rfl (by decide) (by decide) rfl dX1_coinsOf_27 ?_
      refine V.goto (pc := 30) (tgt := 4) hK dX1_coinsOf_30 (by decide) ?_
      refine V.pick [0, 1, 2, 3] (l := [(0, _), (1, _), (2, _), (3, _)]) rfl ?_
      exact ih _ _ _ _ h
set_option maxHeartbeats 4000000 in
set_option maxRecDepth 100000 in
theorem c_X1_coinsOf (E : v_E) {sh : v_S} {P : v_P} (hL : v_Lay sh P) (N : Nat) (x1 : Int32) (M : v_M) {out : Int32 × v_M} (h : f_X1_coinsOf N x1 M = some out) : v_Ct E 0 yX1_coinsOf cX1_coinsOf 4 (some .int) 0 0 [v_rf E 29, .int x1] sh P M (v_Q1 (some (.int out.1)) sh P out.2) := by
  refine v_Ct.of (by decide +kernel) (Nat.le_of_ble_eq_true rfl) (fun X hO => ?_)
  have hK : v_K E X cX1_coinsOf RX1 4 0 := hO.1
  have hO : v_O E X cX1_coinsOf RX1 4 0 (some .int) "coinsOf" (v_Q1 (some (.int out.1)) sh P out.2) := hO
  show V E X (0, 0) 0 [(0, v_rf E 29), (1, .int x1)] [] sh P M
  unfold f_X1_coinsOf at h
  refine V.iconst (pc := 0) (v := 0) hK (by decide) dX1_coinsOf_0 ?_
  refine V.istore_n (pc := 1) (i := 2) (lv' := [(0, _), (1, _), (2, _)]) hK (by decide) rfl dX1_coinsOf_1 ?_
  refine V.iconst (pc := 2) (v := 0) hK (by decide) dX1_coinsOf_2 ?_
  refine V.istore_n (pc := 3) (i := 3) (lv' := [(0, _), (1, _), (2, _), (3, _)]) hK (by decide) rfl dX1_coinsOf_3 ?_
  refine V.pick [0, 1, 2, 3] (l := [(0, _), (1, _), (2, _), (3, _)]) rfl ?_
  exact w_X1_coinsOf_L4 hL hO N N _ _ _ _ h
set_option maxHeartbeats 4000000 in
set_option maxRecDepth 100000 in
theorem w_X2_mostAsked_L43 {E : v_E} {X : v_X} {sh : v_S} {P : v_P} {out : Int32 × v_M} (hL : v_Lay sh P) (hO : v_O E X cX2_mostAsked RX2 6 1 (some .int) "mostAsked" (v_Q1 (some (.int out.1)) sh P out.2)) (N : Nat) (x2 : Int32) (t0 : Int32) (M : v_M) (h : f_X2_mostAsked_L43 N x2 t0 M = some out) : V E X (0, 0) 43 [(0, v_rf E 18), (1, v_rf E 1), (2, .int x2)] [.int t0] sh P M := by
  have hK := hO.1
  unfold f_X2_mostAsked_L43 at h
  refine V.istore (pc := 43) (i := 5) (lv' := [(0, _), (1, _), (2, _), (5, _)]) hK (by decide) rfl dX2_mostAsked_43 ?_
  refine V.aload_n (pc := 45) (i := 0) hK rfl ⟨_, rfl⟩ dX2_mostAsked_45 ?_
  refine V.getR (pc := 46) hK fl_RX2_36 rfl (hL.1 18 _ ls_18) (hL.2 18 8 27 rfl) dX2_mostAsked_46 ?_
  refine V.iload_n (pc := 49) (i := 2) hK rfl dX2_mostAsked_49 ?_
  obtain ⟨hb, h⟩ := v_ckS h
  refine V.iald (pc := 50) hK (hL.1 27 _ ls_27) (v_ibS hb) dX2_mostAsked_50 ?_
  refine V.aload_n (pc := 51) (i := 1) hK rfl ⟨_, rfl⟩ dX2_mostAsked_51 ?_
  refine V.getR (pc := 52) hK fl_RX2_92 rfl (hL.1 1 _ ls_1) (hL.2 1 6 7 rfl) dX2_mostAsked_52 ?_
  refine V.iload_n (pc := 55) (i := 2) hK rfl dX2_mostAsked_55 ?_
  obtain ⟨hb, h⟩ := v_ckS h
  refine V.iald (pc := 56) hK (hL.1 7 _ ls_7) (v_ibS hb) dX2_mostAsked_56 ?_
  refine V.aload_n (pc := 57) (i := 0) hK rfl ⟨_, rfl⟩ dX2_mostAsked_57 ?_
  refine V.getR (pc := 58) hK fl_RX2_27 rfl (hL.1 18 _ ls_18) (hL.2 18 5 24 rfl) dX2_mostAsked_58 ?_
  refine V.iload_n (pc := 61) (i := 2) hK rfl dX2_mostAsked_61 ?_
  obtain ⟨hb, h⟩ := v_ckS h
  refine V.iald (pc := 62) hK (hL.1 24 _ ls_24) (v_ibS hb) dX2_mostAsked_62 ?_
  refine V.isub (pc := 63) hK dX2_mostAsked_63 ?_
  refine V.icmp_ge (pc := 64) (tgt := 87) hK dX2_mostAsked_64 (by decide) (fun c => ?_) (fun c => ?_)
  · rw [if_pos c] at h
    refine V.iload (pc := 87) (i := 5) hK rfl dX2_mostAsked_87 ?_
    exact V.iret (pc := 89) hO dX2_mostAsked_89 (v_finI h)
  · rw [if_neg c] at h
    refine V.iload (pc := 67) (i := 5) hK rfl dX2_mostAsked_67 ?_
    refine V.aload_n (pc := 69) (i := 0) hK rfl ⟨_, rfl⟩ dX2_mostAsked_69 ?_
    refine V.getR (pc := 70) hK fl_RX2_36 rfl (hL.1 18 _ ls_18) (hL.2 18 8 27 rfl) dX2_mostAsked_70 ?_
    refine V.iload_n (pc := 73) (i := 2) hK rfl dX2_mostAsked_73 ?_
    obtain ⟨hb, h⟩ := v_ckS h
    refine V.iald (pc := 74) hK (hL.1 27 _ ls_27) (v_ibS hb) dX2_mostAsked_74 ?_
    refine V.aload_n (pc := 75) (i := 0) hK rfl ⟨_, rfl⟩ dX2_mostAsked_75 ?_
    refine V.getR (pc := 76) hK fl_RX2_27 rfl (hL.1 18 _ ls_18) (hL.2 18 5 24 rfl) dX2_mostAsked_76 ?_
    refine V.iload_n (pc := 79) (i := 2) hK rfl dX2_mostAsked_79 ?_
    obtain ⟨hb, h⟩ := v_ckS h
    refine V.iald (pc := 80) hK (hL.1 24 _ ls_24) (v_ibS hb) dX2_mostAsked_80 ?_
    refine V.iadd (pc := 81) hK dX2_mostAsked_81 ?_
    refine V.mmin (pc := 82) hK tw_590 tw_mmins tw_mi tw_mminc dX2_mostAsked_82 (by decide) (Nat.le_of_ble_eq_true rfl) ?_
    refine V.topi (fun y1 ey1 => ?_)
    have h := v_lt ey1 h
    refine V.istore (pc := 85) (i := 5) (lv' := [(0, _), (1, _), (2, _), (5, _)]) hK (by decide) rfl dX2_mostAsked_85 ?_
    refine V.iload (pc := 87) (i := 5) hK rfl dX2_mostAsked_87 ?_
    exact V.iret (pc := 89) hO dX2_mostAsked_89 (v_finI h)
set_option maxHeartbeats 4000000 in
set_option maxRecDepth 100000 in
theorem w_X2_mostAsked_L25 {E : v_E} {X : v_X} {sh : v_S} {P : v_P} {out : Int32 × v_M} (hL : v_Lay sh P) (hO : v_O E X cX2_mostAsked RX2 6 1 (some .int) "mostAsked" (v_Q1 (some (.int out.1)) sh P out.2)) (N : Nat) (x2 : Int32) (t0 : Int32) (M : v_M) (h : f_X2_mostAsked_L25 N x2 t0 M = some out) : V E X (0, 0) 25 [(0, v_rf E 18), (1, v_rf E 1), (2, .int x2)] [.int t0] sh P M := by
  have hK := hO.1
  unfold f_X2_mostAsked_L25 at h
  refine V.istore (pc := 25) (i := 4) (lv' := [(0, _), (1, _), (2, _), (4, _)]) hK (by decide) rfl dX2_mostAsked_25 ?_
  refine V.iload (pc := 27) (i := 4) hK rfl dX2_mostAsked_27 ?_
  refine V.if_eq (pc := 29) (tgt := 37) hK dX2_mostAsked_29 (by decide) (fun c => ?_) (fun c => ?_)
  · rw [if_pos c] at h
    refine V.aload_n (pc := 37) (i := 1) hK rfl ⟨_, rfl⟩ dX2_mostAsked_37 ?_
    refine V.getR (pc := 38) hK fl_RX2_92 rfl (hL.1 1 _ ls_1) (hL.2 1 6 7 rfl) dX2_mostAsked_38 ?_
    refine V.iload_n (pc := 41) (i := 2) hK rfl dX2_mostAsked_41 ?_
    obtain ⟨hb, h⟩ := v_ckS h
    refine V.iald (pc := 42) hK (hL.1 7 _ ls_7) (v_ibS hb) dX2_mostAsked_42 ?_
    refine V.pick [0, 1, 2] (l := [(0, _), (1, _), (2, _)]) rfl ?_
    exact w_X2_mostAsked_L43 hL hO N _ _ _ h
  · rw [if_neg c] at h
    refine V.ldc (pc := 32) hK tw_584 dX2_mostAsked_32 ?_
    refine V.goto (pc := 34) (tgt := 43) hK dX2_mostAsked_34 (by decide) ?_
    refine V.pick [0, 1, 2] (l := [(0, _), (1, _), (2, _)]) rfl ?_
    exact w_X2_mostAsked_L43 hL hO N _ _ _ h
set_option maxHeartbeats 4000000 in
set_option maxRecDepth 100000 in
theorem w_X2_mostAsked_L24 {E : v_E} {X : v_X} {sh : v_S} {P : v_P} {out : Int32 × v_M} (hL : v_Lay sh P) (hO : v_O E X cX2_mostAsked RX2 6 1 (some .int) "mostAsked" (v_Q1 (some (.int out.1)) sh P out.2)) (N : Nat) (x2 : Int32) (M : v_M) (h : f_X2_mostAsked_L24 N x2 M = some out) : V E X (0, 0) 24 [(0, v_rf E 18), (1, v_rf E 1), (2, .int x2)] [] sh P M := by
  have hK := hO.1
  unfold f_X2_mostAsked_L24 at h
  refine V.iconst (pc := 24) (v := 0) hK (by decide) dX2_mostAsked_24 ?_
  refine V.pick [0, 1, 2] (l := [(0, _), (1, _), (2, _)]) rfl ?_
  exact w_X2_mostAsked_L25 hL hO N _ _ _ h
set_option maxHeartbeats 4000000 in
set_option maxRecDepth 100000 in
theorem c_X2_mostAsked (E : v_E) {sh : v_S} {P : v_P} (hL : v_Lay sh P) (N : Nat) (x2 : Int32) (x3 : Int32) (M : v_M) {out : Int32 × v_M} (h : f_X2_mostAsked N x2 x3 M = some out) : v_Ct E 1 yX2_mostAsked cX2_mostAsked 6 (some .int) 0 0 [v_rf E 18, v_rf E 1, .int x2, .int x3] sh P M (v_Q1 (some (.int out.1)) sh P out.2) := by
  refine v_Ct.of (by decide +kernel) (Nat.le_of_ble_eq_true rfl) (fun X hO => ?_)
  have hK : v_K E X cX2_mostAsked RX2 6 1 := hO.1
  have hO : v_O E X cX2_mostAsked RX2 6 1 (some .int) "mostAsked" (v_Q1 (some (.int out.1)) sh P out.2) := hO
  show V E X (0, 0) 0 [(0, v_rf E 18), (1, v_rf E 1), (2, .int x2), (3, .int x3)] [] sh P M
  unfold f_X2_mostAsked at h
  refine V.aload_n (pc := 0) (i := 1) hK rfl ⟨_, rfl⟩ dX2_mostAsked_0 ?_
  refine V.getR (pc := 1) hK fl_RX2_106 rfl (hL.1 1 _ ls_1) (hL.2 1 1 2 rfl) dX2_mostAsked_1 ?_
  refine V.iload_n (pc := 4) (i := 2) hK rfl dX2_mostAsked_4 ?_
  obtain ⟨hb, h⟩ := v_ckS h
  refine V.iald (pc := 5) hK (hL.1 2 _ ls_2) (v_ibS hb) dX2_mostAsked_5 ?_
  refine V.iconst (pc := 6) (v := 1) hK (by decide) dX2_mostAsked_6 ?_
  refine V.icmp_ne (pc := 7) (tgt := 24) hK dX2_mostAsked_7 (by decide) (fun c => ?_) (fun c => ?_)
  · rw [if_neg c] at h
    refine V.pick [0, 1, 2] (l := [(0, _), (1, _), (2, _)]) rfl ?_
    exact w_X2_mostAsked_L24 hL hO N _ _ h
  · rw [if_pos c] at h
    refine V.aload_n (pc := 10) (i := 0) hK rfl ⟨_, rfl⟩ dX2_mostAsked_10 ?_
    refine V.getR (pc := 11) hK fl_RX2_15 rfl (hL.1 18 _ ls_18) (hL.2 18 1 20 rfl) dX2_mostAsked_11 ?_
    refine V.iload_n (pc := 14) (i := 2) hK rfl dX2_mostAsked_14 ?_
    obtain ⟨hb, h⟩ := v_ckS h
    refine V.iald (pc := 15) hK (hL.1 20 _ ls_20) (v_ibS hb) dX2_mostAsked_15 ?_
    refine V.iload_n (pc := 16) (i := 3) hK rfl dX2_mostAsked_16 ?_
    refine V.icmp_gt (pc := 17) (tgt := 24) hK dX2_mostAsked_17 (by decide) (fun c => ?_) (fun c => ?_)
    · rw [if_pos c] at h
      refine V.pick [0, 1, 2] (l := [(0, _), (1, _), (2, _)]) rfl ?_
      exact w_X2_mostAsked_L24 hL hO N _ _ h
    · rw [if_neg c] at h
      refine V.iconst (pc := 20) (v := 1) hK (by decide) dX2_mostAsked_20 ?_
      refine V.goto (pc := 21) (tgt := 25) hK dX2_mostAsked_21 (by decide) ?_
      refine V.pick [0, 1, 2] (l := [(0, _), (1, _), (2, _)]) rfl ?_
      exact w_X2_mostAsked_L25 hL hO N _ _ _ h
set_option maxHeartbeats 4000000 in
set_option maxRecDepth 100000 in
theorem w_X2_bend_L58 {E : v_E} {X : v_X} {sh : v_S} {P : v_P} {out : Int32 × v_M} (hL : v_Lay sh P) (hO : v_O E X cX2_bend RX2 4 1 none "bend" (v_Q1 (none) sh P out.2)) (N : Nat) (k2 : Int32 → v_M → Option (Int32 × v_M)) (hk2 : ∀ (x2 : Int32) (M : v_M), k2 x2 M = some out → V E X (0, 0) 2 [(0, v_rf E 18), (1, v_rf E 1), (2, .int x2)] [] sh P M) (x2 : Int32) (M : v_M) (h : f_X2_bend_L58 N k2 x2 M = some out) : V E X (0, 0) 58 [(0, v_rf E 18), (1, v_rf E 1), (2, .int x2)] [] sh P M := by
  have hK := hO.1
  unfold f_X2_bend_L58 at h
  refine V.iinc (pc := 58) (i := 2) (v := 1) (lv' := [(0, _), (1, _), (2, _)]) hK rfl (by decide) (by decide) rfl dX2_bend_58 ?_
  refine V.goto (pc := 61) (tgt := 2) hK dX2_bend_61 (by decide) ?_
  refine V.pick [0, 1, 2] (l := [(0, _), (1, _), (2, _)]) rfl ?_
  exact hk2 _ _ h
set_option maxHeartbeats 4000000 in
set_option maxRecDepth 100000 in
theorem w_X2_bend_L2 {E : v_E} {X : v_X} {sh : v_S} {P : v_P} {out : Int32 × v_M} (hL : v_Lay sh P) (hO : v_O E X cX2_bend RX2 4 1 none "bend" (v_Q1 (none) sh P out.2)) (N : Nat) (n : Nat) : ∀ (x2 : Int32) (M : v_M), f_X2_bend_L2 N n x2 M = some out → V E X (0, 0) 2 [(0, v_rf E 18), (1, v_rf E 1), (2, .int x2)] [] sh P M := by
  have hK := hO.1
  induction n with
  | zero => intro x2 M h; rw [f_X2_bend_L2] at h; cases h
  | succ n ih =>
    intro x2 M h
    rw [f_X2_bend_L2] at h
    refine V.iload_n (pc := 2) (i := 2) hK rfl dX2_bend_2 ?_
    refine V.aload_n (pc := 3) (i := 1) hK rfl ⟨_, rfl⟩ dX2_bend_3 ?_
    refine V.getI (pc := 4) hK fl_RX2_76 rfl (hL.1 1 _ ls_1) dX2_bend_4 ?_
    refine V.icmp_ge (pc := 7) (tgt := 64) hK dX2_bend_7 (by decide) (fun c => ?_) (fun c => ?_)
    · rw [if_pos c] at h
      exact V.vret (pc := 64) hO dX2_bend_64 (v_finV h)
    · rw [if_neg c] at h
      refine V.aload_n (pc := 10) (i := 0) hK rfl ⟨_, rfl⟩ dX2_bend_10 ?_
      refine V.getR (pc := 11) hK fl_RX2_33 rfl (hL.1 18 _ ls_18) (hL.2 18 7 26 rfl) dX2_bend_11 ?_
      refine V.iload_n (pc := 14) (i := 2) hK rfl dX2_bend_14 ?_
      obtain ⟨hb, h⟩ := v_ckS h
      refine V.iald (pc := 15) hK (hL.1 26 _ ls_26) (v_ibS hb) dX2_bend_15 ?_
      refine V.aload_n (pc := 16) (i := 1) hK rfl ⟨_, rfl⟩ dX2_bend_16 ?_
      refine V.getR (pc := 17) hK fl_RX2_92 rfl (hL.1 1 _ ls_1) (hL.2 1 6 7 rfl) dX2_bend_17 ?_
      refine V.iload_n (pc := 20) (i := 2) hK rfl dX2_bend_20 ?_
      obtain ⟨hb, h⟩ := v_ckS h
      refine V.iald (pc := 21) hK (hL.1 7 _ ls_7) (v_ibS hb) dX2_bend_21 ?_
      refine V.isub (pc := 22) hK dX2_bend_22 ?_
      refine V.topi (fun y1 ey1 => ?_)
      have h := v_lt ey1 h
      refine V.istore_n (pc := 23) (i := 3) (lv' := [(0, _), (1, _), (2, _), (3, _)]) hK (by decide) rfl dX2_bend_23 ?_
      refine V.aload_n (pc := 24) (i := 1) hK rfl ⟨_, rfl⟩ dX2_bend_24 ?_
      refine V.getR (pc := 25) hK fl_RX2_106 rfl (hL.1 1 _ ls_1) (hL.2 1 1 2 rfl) dX2_bend_25 ?_
      refine V.iload_n (pc := 28) (i := 2) hK rfl dX2_bend_28 ?_
      obtain ⟨hb, h⟩ := v_ckS h
      refine V.iald (pc := 29) hK (hL.1 2 _ ls_2) (v_ibS hb) dX2_bend_29 ?_
      refine V.iconst (pc := 30) (v := 1) hK (by decide) dX2_bend_30 ?_
      refine V.icmp_ne (pc := 31) (tgt := 58) hK dX2_bend_31 (by decide) (fun c => ?_) (fun c => ?_)
      · rw [if_neg c] at h
        refine V.pick [0, 1, 2] (l := [(0, _), (1, _), (2, _)]) rfl ?_
        exact w_X2_bend_L58 hL hO N _ ih _ _ h
      · rw [if_pos c] at h
        refine V.iload_n (pc := 34) (i := 3) hK rfl dX2_bend_34 ?_
        refine V.if_le (pc := 35) (tgt := 58) hK dX2_bend_35 (by decide) (fun c => ?_) (fun c => ?_)
        · rw [if_pos c] at h
          refine V.pick [0, 1, 2] (l := [(0, _), (1, _), (2, _)]) rfl ?_
          exact w_X2_bend_L58 hL hO N _ ih _ _ h
        · rw [if_neg c] at h
          refine V.aload_n (pc := 38) (i := 0) hK rfl ⟨_, rfl⟩ dX2_bend_38 ?_
          refine V.getR (pc := 39) hK fl_RX2_27 rfl (hL.1 18 _ ls_18) (hL.2 18 5 24 rfl) dX2_bend_39 ?_
          refine V.iload_n (pc := 42) (i := 2) hK rfl dX2_bend_42 ?_
          refine V.sipush (pc := 43) (v := 9999) hK (by decide) dX2_bend_43 ?_
          refine V.aload_n (pc := 46) (i := 0) hK rfl ⟨_, rfl⟩ dX2_bend_46 ?_
          refine V.getR (pc := 47) hK fl_RX2_27 rfl (hL.1 18 _ ls_18) (hL.2 18 5 24 rfl) dX2_bend_47 ?_
          refine V.iload_n (pc := 50) (i := 2) hK rfl dX2_bend_50 ?_
          obtain ⟨hb, h⟩ := v_ckS h
          refine V.iald (pc := 51) hK (hL.1 24 _ ls_24) (v_ibS hb) dX2_bend_51 ?_
          refine V.iload_n (pc := 52) (i := 3) hK rfl dX2_bend_52 ?_
          refine V.iadd (pc := 53) hK dX2_bend_53 ?_
          refine V.mmin (pc := 54) hK tw_590 tw_mmins tw_mi tw_mminc dX2_bend_54 (by decide) (Nat.le_of_ble_eq_true rfl) ?_
          obtain ⟨hb, h⟩ := v_ckS h
          refine V.iast (pc := 57) hK (hL.1 24 _ ls_24) (v_ibS hb) dX2_bend_57 ?_
          refine V.nmM (fun M2 eM2 => ?_)
          have h := v_lt eM2 h
          refine V.pick [0, 1, 2] (l := [(0, _), (1, _), (2, _)]) rfl ?_
          exact w_X2_bend_L58 hL hO N _ ih _ _ h
set_option maxHeartbeats 4000000 in
set_option maxRecDepth 100000 in
theorem c_X2_bend (E : v_E) {sh : v_S} {P : v_P} (hL : v_Lay sh P) (N : Nat) (M : v_M) {out : Int32 × v_M} (h : f_X2_bend N M = some out) : v_Ct E 1 yX2_bend cX2_bend 4 none 0 0 [v_rf E 18, v_rf E 1] sh P M (v_Q1 (none) sh P out.2) := by
  refine v_Ct.of (by decide +kernel) (Nat.le_of_ble_eq_true rfl) (fun X hO => ?_)
  have hK : v_K E X cX2_bend RX2 4 1 := hO.1
  have hO : v_O E X cX2_bend RX2 4 1 none "bend" (v_Q1 (none) sh P out.2) := hO
  show V E X (0, 0) 0 [(0, v_rf E 18), (1, v_rf E 1)] [] sh P M
  unfold f_X2_bend at h
  refine V.iconst (pc := 0) (v := 1) hK (by decide) dX2_bend_0 ?_
  refine V.istore_n (pc := 1) (i := 2) (lv' := [(0, _), (1, _), (2, _)]) hK (by decide) rfl dX2_bend_1 ?_
  refine V.pick [0, 1, 2] (l := [(0, _), (1, _), (2, _)]) rfl ?_
  exact w_X2_bend_L2 hL hO N N _ _ h
set_option maxHeartbeats 4000000 in
set_option maxRecDepth 100000 in
theorem c_X2_lookBit (E : v_E) {sh : v_S} {P : v_P} (hL : v_Lay sh P) (N : Nat) (x0 : Int32) (M : v_M) {out : Int32 × v_M} (h : f_X2_lookBit N x0 M = some out) : v_Ct E 0 yX2_lookBit cX2_lookBit 1 (some .int) 0 0 [.int x0] sh P M (v_Q1 (some (.int out.1)) sh P out.2) := by
  refine v_Ct.of (by decide +kernel) (Nat.le_of_ble_eq_true rfl) (fun X hO => ?_)
  have hK : v_K E X cX2_lookBit RX2 1 0 := hO.1
  have hO : v_O E X cX2_lookBit RX2 1 0 (some .int) "lookBit" (v_Q1 (some (.int out.1)) sh P out.2) := hO
  show V E X (0, 0) 0 [(0, .int x0)] [] sh P M
  unfold f_X2_lookBit at h
  refine V.iload_n (pc := 0) (i := 0) hK rfl dX2_lookBit_0 ?_
  refine V.if_ne (pc := 1) (tgt := 6) hK dX2_lookBit_1 (by decide) (fun c => ?_) (fun c => ?_)
  · rw [if_neg c] at h
    refine V.iload_n (pc := 6) (i := 0) hK rfl dX2_lookBit_6 ?_
    refine V.iconst (pc := 7) (v := 2) hK (by decide) dX2_lookBit_7 ?_
    refine V.icmp_le (pc := 8) (tgt := 19) hK dX2_lookBit_8 (by decide) (fun c => ?_) (fun c => ?_)
    · rw [if_pos c] at h
      refine V.iconst (pc := 19) (v := 0) hK (by decide) dX2_lookBit_19 ?_
      exact V.iret (pc := 20) hO dX2_lookBit_20 (v_finI h)
    · rw [if_neg c] at h
      refine V.iconst (pc := 11) (v := 1) hK (by decide) dX2_lookBit_11 ?_
      refine V.iload_n (pc := 12) (i := 0) hK rfl dX2_lookBit_12 ?_
      refine V.iconst (pc := 13) (v := 2) hK (by decide) dX2_lookBit_13 ?_
      refine V.isub (pc := 14) hK dX2_lookBit_14 ?_
      refine V.ishl (pc := 15) hK dX2_lookBit_15 ?_
      refine V.goto (pc := 16) (tgt := 20) hK dX2_lookBit_16 (by decide) ?_
      exact V.iret (pc := 20) hO dX2_lookBit_20 (v_finI h)
  · rw [if_pos c] at h
    refine V.iconst (pc := 4) (v := 1) hK (by decide) dX2_lookBit_4 ?_
    exact V.iret (pc := 5) hO dX2_lookBit_5 (v_finI h)
set_option maxHeartbeats 4000000 in
set_option maxRecDepth 100000 in
theorem w_X2_holdAgainst_L79 {E : v_E} {X : v_X} {sh : v_S} {P : v_P} {out : Int32 × v_M} (hL : v_Lay sh P) (hO : v_O E X cX2_holdAgainst RX2 8 0 (some .int) "holdAgainst" (v_Q1 (some (.int out.1)) sh P out.2)) (N : Nat) (k5 : Int32 → Int32 → Int32 → v_M → Option (Int32 × v_M)) (hk5 : ∀ (x1 : Int32) (x3 : Int32) (x4 : Int32) (M : v_M), k5 x1 x3 x4 M = some out → V E X (0, 0) 5 [(0, v_rf E 18), (1, .int x1), (3, .int x3), (4, .int x4)] [] sh P M) (x1 : Int32) (x3 : Int32) (x4 : Int32) (x6 : Int32) (M : v_M) (h : f_X2_holdAgainst_L79 N k5 x1 x3 x4 x6 M = some out) : V E X (0, 0) 79 [(0, v_rf E 18), (1, .int x1), (3, .int x3), (4, .int x4), (6, .int x6)] [] sh P M := by
  have hK := hO.1
  unfold f_X2_holdAgainst_L79 at h
  refine V.iload (pc := 79) (i := 6) hK rfl dX2_holdAgainst_79 ?_
  refine V.iload_n (pc := 81) (i := 3) hK rfl dX2_holdAgainst_81 ?_
  refine V.icmp_ne (pc := 82) (tgt := 87) hK dX2_holdAgainst_82 (by decide) (fun c => ?_) (fun c => ?_)
  · rw [if_neg c] at h
    refine V.iload (pc := 87) (i := 6) hK rfl dX2_holdAgainst_87 ?_
    refine V.istore_n (pc := 89) (i := 3) (lv' := [(0, _), (1, _), (3, _), (4, _), (6, _)]) hK (by decide) rfl dX2_holdAgainst_89 ?_
    refine V.iinc (pc := 90) (i := 4) (v := 1) (lv' := [(0, _), (1, _), (3, _), (4, _), (6, _)]) hK rfl (by decide) (by decide) rfl dX2_holdAgainst_90 ?_
    refine V.goto (pc := 93) (tgt := 5) hK dX2_holdAgainst_93 (by decide) ?_
    refine V.pick [0, 1, 3, 4] (l := [(0, _), (1, _), (3, _), (4, _)]) rfl ?_
    exact hk5 _ _ _ _ h
  · rw [if_pos c] at h
    refine V.iload_n (pc := 85) (i := 3) hK rfl dX2_holdAgainst_85 ?_
    exact V.iret (pc := 86) hO dX2_holdAgainst_86 (v_finI h)
set_option maxHeartbeats 4000000 in
set_option maxRecDepth 100000 in
theorem w_X2_holdAgainst_L73 {E : v_E} {X : v_X} {sh : v_S} {P : v_P} {out : Int32 × v_M} (hL : v_Lay sh P) (hO : v_O E X cX2_holdAgainst RX2 8 0 (some .int) "holdAgainst" (v_Q1 (some (.int out.1)) sh P out.2)) (N : Nat) (k5 : Int32 → Int32 → Int32 → v_M → Option (Int32 × v_M)) (hk5 : ∀ (x1 : Int32) (x3 : Int32) (x4 : Int32) (M : v_M), k5 x1 x3 x4 M = some out → V E X (0, 0) 5 [(0, v_rf E 18), (1, .int x1), (3, .int x3), (4, .int x4)] [] sh P M) (k31 : Int32 → Int32 → Int32 → Int32 → Int32 → Int32 → v_M → Option (Int32 × v_M)) (hk31 : ∀ (x1 : Int32) (x3 : Int32) (x4 : Int32) (x5 : Int32) (x6 : Int32) (x7 : Int32) (M : v_M), k31 x1 x3 x4 x5 x6 x7 M = some out → V E X (0, 0) 31 [(0, v_rf E 18), (1, .int x1), (3, .int x3), (4, .int x4), (5, .int x5), (6, .int x6), (7, .int x7)] [] sh P M) (x1 : Int32) (x3 : Int32) (x4 : Int32) (x5 : Int32) (x6 : Int32) (x7 : Int32) (M : v_M) (h : f_X2_holdAgainst_L73 N k5 k31 x1 x3 x4 x5 x6 x7 M = some out) : V E X (0, 0) 73 [(0, v_rf E 18), (1, .int x1), (3, .int x3), (4, .int x4), (5, .int x5), (6, .int x6), (7, .int x7)] [] sh P M := by
  have hK := hO.1
  unfold f_X2_holdAgainst_L73 at h
  refine V.iinc (pc := 73) (i := 7) (v := 1) (lv' := [(0, _), (1, _), (3, _), (4, _), (5, _), (6, _), (7, _)]) hK rfl (by decide) (by decide) rfl dX2_holdAgainst_73 ?_
  refine V.goto (pc := 76) (tgt := 31) hK dX2_holdAgainst_76 (by decide) ?_
  refine V.pick [0, 1, 3, 4, 5, 6, 7] (l := [(0, _), (1, _), (3, _), (4, _), (5, _), (6, _), (7, _)]) rfl ?_
  exact hk31 _ _ _ _ _ _ _ h
set_option maxHeartbeats 4000000 in
set_option maxRecDepth 100000 in
theorem w_X2_holdAgainst_L31 {E : v_E} {X : v_X} {sh : v_S} {P : v_P} {out : Int32 × v_M} (hL : v_Lay sh P) (hO : v_O E X cX2_holdAgainst RX2 8 0 (some .int) "holdAgainst" (v_Q1 (some (.int out.1)) sh P out.2)) (N : Nat) (k5 : Int32 → Int32 → Int32 → v_M → Option (Int32 × v_M)) (hk5 : ∀ (x1 : Int32) (x3 : Int32) (x4 : Int32) (M : v_M), k5 x1 x3 x4 M = some out → V E X (0, 0) 5 [(0, v_rf E 18), (1, .int x1), (3, .int x3), (4, .int x4)] [] sh P M) (n : Nat) : ∀ (x1 : Int32) (x3 : Int32) (x4 : Int32) (x5 : Int32) (x6 : Int32) (x7 : Int32) (M : v_M), f_X2_holdAgainst_L31 N k5 n x1 x3 x4 x5 x6 x7 M = some out → V E X (0, 0) 31 [(0, v_rf E 18), (1, .int x1), (3, .int x3), (4, .int x4), (5, .int x5), (6, .int x6), (7, .int x7)] [] sh P M := by
  have hK := hO.1
  induction n with
  | zero => intro x1 x3 x4 x5 x6 x7 M h; rw [f_X2_holdAgainst_L31] at h; cases h
  | succ n ih =>
    intro x1 x3 x4 x5 x6 x7 M h
    rw [f_X2_holdAgainst_L31] at h
    refine V.iload (pc := 31) (i := 7) hK rfl dX2_holdAgainst_31 ?_
    refine V.iload_n (pc := 33) (i := 3) hK rfl dX2_holdAgainst_33 ?_
    refine V.icmp_ge (pc := 34) (tgt := 79) hK dX2_holdAgainst_34 (by decide) (fun c => ?_) (fun c => ?_)
    · rw [if_pos c] at h
      refine V.pick [0, 1, 3, 4, 6] (l := [(0, _), (1, _), (3, _), (4, _), (6, _)]) rfl ?_
      exact w_X2_holdAgainst_L79 hL hO N _ hk5 _ _ _ _ _ h
    · rw [if_neg c] at h
      refine V.iload (pc := 37) (i := 7) hK rfl dX2_holdAgainst_37 ?_
      refine V.bipush (pc := 39) (v := 24) hK (by decide) dX2_holdAgainst_39 ?_
      refine V.icmp_ge (pc := 41) (tgt := 79) hK dX2_holdAgainst_41 (by decide) (fun c => ?_) (fun c => ?_)
      · rw [if_pos c] at h
        refine V.pick [0, 1, 3, 4, 6] (l := [(0, _), (1, _), (3, _), (4, _), (6, _)]) rfl ?_
        exact w_X2_holdAgainst_L79 hL hO N _ hk5 _ _ _ _ _ h
      · rw [if_neg c] at h
        refine V.aload_n (pc := 44) (i := 0) hK rfl ⟨_, rfl⟩ dX2_holdAgainst_44 ?_
        refine V.getR (pc := 45) hK fl_RX2_39 rfl (hL.1 18 _ ls_18) (hL.2 18 9 28 rfl) dX2_holdAgainst_45 ?_
        refine V.iload (pc := 48) (i := 7) hK rfl dX2_holdAgainst_48 ?_
        obtain ⟨hb, h⟩ := v_ckS h
        refine V.iald (pc := 50) hK (hL.1 28 _ ls_28) (v_ibS hb) dX2_holdAgainst_50 ?_
        refine V.iload (pc := 51) (i := 5) hK rfl dX2_holdAgainst_51 ?_
        refine V.icmp_lt (pc := 53) (tgt := 73) hK dX2_holdAgainst_53 (by decide) (fun c => ?_) (fun c => ?_)
        · rw [if_pos c] at h
          refine V.pick [0, 1, 3, 4, 5, 6, 7] (l := [(0, _), (1, _), (3, _), (4, _), (5, _), (6, _), (7, _)]) rfl ?_
          exact w_X2_holdAgainst_L73 hL hO N _ hk5 _ ih _ _ _ _ _ _ _ h
        · rw [if_neg c] at h
          refine V.aload_n (pc := 56) (i := 0) hK rfl ⟨_, rfl⟩ dX2_holdAgainst_56 ?_
          refine V.getR (pc := 57) hK fl_RX2_39 rfl (hL.1 18 _ ls_18) (hL.2 18 9 28 rfl) dX2_holdAgainst_57 ?_
          refine V.iload (pc := 60) (i := 6) hK rfl dX2_holdAgainst_60 ?_
          refine V.aload_n (pc := 62) (i := 0) hK rfl ⟨_, rfl⟩ dX2_holdAgainst_62 ?_
          refine V.getR (pc := 63) hK fl_RX2_39 rfl (hL.1 18 _ ls_18) (hL.2 18 9 28 rfl) dX2_holdAgainst_63 ?_
          refine V.iload (pc := 66) (i := 7) hK rfl dX2_holdAgainst_66 ?_
          obtain ⟨hb, h⟩ := v_ckS h
          refine V.iald (pc := 68) hK (hL.1 28 _ ls_28) (v_ibS hb) dX2_holdAgainst_68 ?_
          obtain ⟨hb, h⟩ := v_ckS h
          refine V.iast (pc := 69) hK (hL.1 28 _ ls_28) (v_ibS hb) dX2_holdAgainst_69 ?_
          refine V.nmM (fun M1 eM1 => ?_)
          have h := v_lt eM1 h
          refine V.iinc (pc := 70) (i := 6) (v := 1) (lv' := [(0, _), (1, _), (3, _), (4, _), (5, _), (6, _), (7, _)]) hK rfl (by decide) (by decide) rfl dX2_holdAgainst_70 ?_
          refine V.pick [0, 1, 3, 4, 5, 6, 7] (l := [(0, _), (1, _), (3, _), (4, _), (5, _), (6, _), (7, _)]) rfl ?_
          exact w_X2_holdAgainst_L73 hL hO N _ hk5 _ ih _ _ _ _ _ _ _ h
set_option maxHeartbeats 4000000 in
set_option maxRecDepth 100000 in
theorem w_X2_holdAgainst_L5 {E : v_E} {X : v_X} {sh : v_S} {P : v_P} {out : Int32 × v_M} (hL : v_Lay sh P) (hO : v_O E X cX2_holdAgainst RX2 8 0 (some .int) "holdAgainst" (v_Q1 (some (.int out.1)) sh P out.2)) (N : Nat) (n : Nat) : ∀ (x1 : Int32) (x3 : Int32) (x4 : Int32) (M : v_M), f_X2_holdAgainst_L5 N n x1 x3 x4 M = some out → V E X (0, 0) 5 [(0, v_rf E 18), (1, .int x1), (3, .int x3), (4, .int x4)] [] sh P M := by
  have hK := hO.1
  induction n with
  | zero => intro x1 x3 x4 M h; rw [f_X2_holdAgainst_L5] at h; cases h
  | succ n ih =>
    intro x1 x3 x4 M h
    rw [f_X2_holdAgainst_L5] at h
    refine V.iload (pc := 5) (i := 4) hK rfl dX2_holdAgainst_5 ?_
    refine V.bipush (pc := 7) (v := 24) hK (by decide) dX2_holdAgainst_7 ?_
    refine V.icmp_ge (pc := 9) (tgt := 96) hK dX2_holdAgainst_9 (by decide) (fun c => ?_) (fun c => ?_)
    · rw [if_pos c] at h
      refine V.iload_n (pc := 96) (i := 3) hK rfl dX2_holdAgainst_96 ?_
      exact V.iret (pc := 97) hO dX2_holdAgainst_97 (v_finI h)
    · rw [if_neg c] at h
      refine V.iload_n (pc := 12) (i := 3) hK rfl dX2_holdAgainst_12 ?_
      refine V.if_le (pc := 13) (tgt := 96) hK dX2_holdAgainst_13 (by decide) (fun c => ?_) (fun c => ?_)
      · rw [if_pos c] at h
        refine V.iload_n (pc := 96) (i := 3) hK rfl dX2_holdAgainst_96 ?_
        exact V.iret (pc := 97) hO dX2_holdAgainst_97 (v_finI h)
      · rw [if_neg c] at h
        refine V.iload_n (pc := 16) (i := 1) hK rfl dX2_holdAgainst_16 ?_
        refine V.iload_n (pc := 17) (i := 3) hK rfl dX2_holdAgainst_17 ?_
        refine V.iadd (pc := 18) hK dX2_holdAgainst_18 ?_
        refine V.iconst (pc := 19) (v := 1) hK (by decide) dX2_holdAgainst_19 ?_
        refine V.isub (pc := 20) hK dX2_holdAgainst_20 ?_
        refine V.iload_n (pc := 21) (i := 3) hK rfl dX2_holdAgainst_21 ?_
        obtain ⟨hb, h⟩ := v_ckS h
        refine V.idiv (pc := 22) hK (v_nzS hb) dX2_holdAgainst_22 ?_
        refine V.topi (fun y1 ey1 => ?_)
        have h := v_lt ey1 h
        refine V.istore (pc := 23) (i := 5) (lv' := [(0, _), (1, _), (3, _), (4, _), (5, _)]) hK (by decide) rfl dX2_holdAgainst_23 ?_
        refine V.iconst (pc := 25) (v := 0) hK (by decide) dX2_holdAgainst_25 ?_
        refine V.istore (pc := 26) (i := 6) (lv' := [(0, _), (1, _), (3, _), (4, _), (5, _), (6, _)]) hK (by decide) rfl dX2_holdAgainst_26 ?_
        refine V.iconst (pc := 28) (v := 0) hK (by decide) dX2_holdAgainst_28 ?_
        refine V.istore (pc := 29) (i := 7) (lv' := [(0, _), (1, _), (3, _), (4, _), (5, _), (6, _), (7, _)]) hK (by decide) rfl dX2_holdAgainst_29 ?_
        refine V.pick [0, 1, 3, 4, 5, 6, 7] (l := [(0, _), (1, _), (3, _), (4, _), (5, _), (6, _), (7, _)]) rfl ?_
        exact w_X2_holdAgainst_L31 hL hO N _ ih N _ _ _ _ _ _ _ h
set_option maxHeartbeats 4000000 in
set_option maxRecDepth 100000 in
theorem c_X2_holdAgainst (E : v_E) {sh : v_S} {P : v_P} (hL : v_Lay sh P) (N : Nat) (x1 : Int32) (x2 : Int32) (M : v_M) {out : Int32 × v_M} (h : f_X2_holdAgainst N x1 x2 M = some out) : v_Ct E 0 yX2_holdAgainst cX2_holdAgainst 8 (some .int) 0 0 [v_rf E 18, .int x1, .int x2] sh P M (v_Q1 (some (.int out.1)) sh P out.2) := by
  refine v_Ct.of (by decide +kernel) (Nat.le_of_ble_eq_true rfl) (fun X hO => ?_)
  have hK : v_K E X cX2_holdAgainst RX2 8 0 := hO.1
  have hO : v_O E X cX2_holdAgainst RX2 8 0 (some .int) "holdAgainst" (v_Q1 (some (.int out.1)) sh P out.2) := hO
  show V E X (0, 0) 0 [(0, v_rf E 18), (1, .int x1), (2, .int x2)] [] sh P M
  unfold f_X2_holdAgainst at h
  refine V.iload_n (pc := 0) (i := 2) hK rfl dX2_holdAgainst_0 ?_
  refine V.istore_n (pc := 1) (i := 3) (lv' := [(0, _), (1, _), (2, _), (3, _)]) hK (by decide) rfl dX2_holdAgainst_1 ?_
  refine V.iconst (pc := 2) (v := 0) hK (by decide) dX2_holdAgainst_2 ?_
  refine V.istore (pc := 3) (i := 4) (lv' := [(0, _), (1, _), (2, _), (3, _), (4, _)]) hK (by decide) rfl dX2_holdAgainst_3 ?_
  refine V.pick [0, 1, 3, 4] (l := [(0, _), (1, _), (3, _), (4, _)]) rfl ?_
  exact w_X2_holdAgainst_L5 hL hO N N _ _ _ _ h
set_option maxHeartbeats 4000000 in
set_option maxRecDepth 100000 in
theorem c_X3_add (E : v_E) {sh : v_S} {P : v_P} (hL : v_Lay sh P) (N : Nat) (x1 : Int32) (x2 : Int32) (x3 : Int32) (x4 : Int32) (x5 : Int32) (x6 : Int32) (x7 : Int32) (M : v_M) {out : Int32 × v_M} (h : f_X3_add N x1 x2 x3 x4 x5 x6 x7 M = some out) : v_Ct E 0 yX3_add cX3_add 9 (some .int) 0 0 [v_rf E 1, .int x1, .int x2, .int x3, .int x4, .int x5, .int x6, .int x7] sh P M (v_Q1 (some (.int out.1)) sh P out.2) := by
  refine v_Ct.of (by decide +kernel) (Nat.le_of_ble_eq_true rfl) (fun X hO => ?_)
  have hK : v_K E X cX3_add RX3 9 0 := hO.1
  have hO : v_O E X cX3_add RX3 9 0 (some .int) "add" (v_Q1 (some (.int out.1)) sh P out.2) := hO
  show V E X (0, 0) 0 [(0, v_rf E 1), (1, .int x1), (2, .int x2), (3, .int x3), (4, .int x4), (5, .int x5), (6, .int x6), (7, .int x7)] [] sh P M
  unfold f_X3_add at h
  refine V.aload_n (pc := 0) (i := 0) hK rfl ⟨_, rfl⟩ dX3_add_0 ?_
  refine V.getI (pc := 1) hK fl_RX3_9 rfl (hL.1 1 _ ls_1) dX3_add_1 ?_
  refine V.bipush (pc := 4) (v := 24) hK (by decide) dX3_add_4 ?_
  refine V.icmp_lt (pc := 6) (tgt := 11) hK dX3_add_6 (by decide) (fun c => ?_) (fun c => ?_)
  · rw [if_pos c] at h
    refine V.aload_n (pc := 11) (i := 0) hK rfl ⟨_, rfl⟩ dX3_add_11 ?_
    refine V.getI (pc := 12) hK fl_RX3_9 rfl (hL.1 1 _ ls_1) dX3_add_12 ?_
    refine V.topi (fun y1 ey1 => ?_)
    have h := v_lt ey1 h
    refine V.istore (pc := 15) (i := 8) (lv' := [(0, _), (1, _), (2, _), (3, _), (4, _), (5, _), (6, _), (7, _), (8, _)]) hK (by decide) rfl dX3_add_15 ?_
    refine V.aload_n (pc := 17) (i := 0) hK rfl ⟨_, rfl⟩ dX3_add_17 ?_
    refine V.getR (pc := 18) hK fl_RX3_15 rfl (hL.1 1 _ ls_1) (hL.2 1 1 2 rfl) dX3_add_18 ?_
    refine V.iload (pc := 21) (i := 8) hK rfl dX3_add_21 ?_
    refine V.iload_n (pc := 23) (i := 1) hK rfl dX3_add_23 ?_
    obtain ⟨hb, h⟩ := v_ckS h
    refine V.iast (pc := 24) hK (hL.1 2 _ ls_2) (v_ibS hb) dX3_add_24 ?_
    refine V.nmM (fun M2 eM2 => ?_)
    have h := v_lt eM2 h
    refine V.aload_n (pc := 25) (i := 0) hK rfl ⟨_, rfl⟩ dX3_add_25 ?_
    refine V.getR (pc := 26) hK fl_RX3_19 rfl (hL.1 1 _ ls_1) (hL.2 1 2 3 rfl) dX3_add_26 ?_
    refine V.iload (pc := 29) (i := 8) hK rfl dX3_add_29 ?_
    refine V.iload_n (pc := 31) (i := 2) hK rfl dX3_add_31 ?_
    obtain ⟨hb, h⟩ := v_ckS h
    refine V.iast (pc := 32) hK (hL.1 3 _ ls_3) (v_ibS hb) dX3_add_32 ?_
    refine V.nmM (fun M3 eM3 => ?_)
    have h := v_lt eM3 h
    refine V.aload_n (pc := 33) (i := 0) hK rfl ⟨_, rfl⟩ dX3_add_33 ?_
    refine V.getR (pc := 34) hK fl_RX3_22 rfl (hL.1 1 _ ls_1) (hL.2 1 3 4 rfl) dX3_add_34 ?_
    refine V.iload (pc := 37) (i := 8) hK rfl dX3_add_37 ?_
    refine V.iload_n (pc := 39) (i := 3) hK rfl dX3_add_39 ?_
    obtain ⟨hb, h⟩ := v_ckS h
    refine V.iast (pc := 40) hK (hL.1 4 _ ls_4) (v_ibS hb) dX3_add_40 ?_
    refine V.nmM (fun M4 eM4 => ?_)
    have h := v_lt eM4 h
    refine V.aload_n (pc := 41) (i := 0) hK rfl ⟨_, rfl⟩ dX3_add_41 ?_
    refine V.getR (pc := 42) hK fl_RX3_25 rfl (hL.1 1 _ ls_1) (hL.2 1 4 5 rfl) dX3_add_42 ?_
    refine V.iload (pc := 45) (i := 8) hK rfl dX3_add_45 ?_
    refine V.iload (pc := 47) (i := 4) hK rfl dX3_add_47 ?_
    refine V.bipush (pc := 49) (v := 10) hK (by decide) dX3_add_49 ?_
    obtain ⟨hb, h⟩ := v_ckS h
    refine V.idiv (pc := 51) hK (v_nzS hb) dX3_add_51 ?_
    obtain ⟨hb, h⟩ := v_ckS h
    refine V.iast (pc := 52) hK (hL.1 5 _ ls_5) (v_ibS hb) dX3_add_52 ?_
    refine V.nmM (fun M5 eM5 => ?_)
    have h := v_lt eM5 h
    refine V.aload_n (pc := 53) (i := 0) hK rfl ⟨_, rfl⟩ dX3_add_53 ?_
    refine V.getR (pc := 54) hK fl_RX3_28 rfl (hL.1 1 _ ls_1) (hL.2 1 5 6 rfl) dX3_add_54 ?_
    refine V.iload (pc := 57) (i := 8) hK rfl dX3_add_57 ?_
    refine V.iload (pc := 59) (i := 4) hK rfl dX3_add_59 ?_
    refine V.bipush (pc := 61) (v := 10) hK (by decide) dX3_add_61 ?_
    obtain ⟨hb, h⟩ := v_ckS h
    refine V.irem (pc := 63) hK (v_nzS hb) dX3_add_63 ?_
    obtain ⟨hb, h⟩ := v_ckS h
    refine V.iast (pc := 64) hK (hL.1 6 _ ls_6) (v_ibS hb) dX3_add_64 ?_
    refine V.nmM (fun M6 eM6 => ?_)
    have h := v_lt eM6 h
    refine V.aload_n (pc := 65) (i := 0) hK rfl ⟨_, rfl⟩ dX3_add_65 ?_
    refine V.getR (pc := 66) hK fl_RX3_31 rfl (hL.1 1 _ ls_1) (hL.2 1 6 7 rfl) dX3_add_66 ?_
    refine V.iload (pc := 69) (i := 8) hK rfl dX3_add_69 ?_
    refine V.iload (pc := 71) (i := 5) hK rfl dX3_add_71 ?_
    obtain ⟨hb, h⟩ := v_ckS h
    refine V.iast (pc := 73) hK (hL.1 7 _ ls_7) (v_ibS hb) dX3_add_73 ?_
    refine V.nmM (fun M7 eM7 => ?_)
    have h := v_lt eM7 h
    refine V.aload_n (pc := 74) (i := 0) hK rfl ⟨_, rfl⟩ dX3_add_74 ?_
    refine V.getR (pc := 75) hK fl_RX3_34 rfl (hL.1 1 _ ls_1) (hL.2 1 7 8 rfl) dX3_add_75 ?_
    refine V.iload (pc := 78) (i := 8) hK rfl dX3_add_78 ?_
    refine V.iload (pc := 80) (i := 6) hK rfl dX3_add_80 ?_
    obtain ⟨hb, h⟩ := v_ckS h
    refine V.iast (pc := 82) hK (hL.1 8 _ ls_8) (v_ibS hb) dX3_add_82 ?_
    refine V.nmM (fun M8 eM8 => ?_)
    have h := v_lt eM8 h
    refine V.aload_n (pc := 83) (i := 0) hK rfl ⟨_, rfl⟩ dX3_add_83 ?_
    refine V.getR (pc := 84) hK fl_RX3_37 rfl (hL.1 1 _ ls_1) (hL.2 1 8 9 rfl) dX3_add_84 ?_
    refine V.iload (pc := 87) (i := 8) hK rfl dX3_add_87 ?_
    refine V.iload (pc := 89) (i := 7) hK rfl dX3_add_89 ?_
    obtain ⟨hb, h⟩ := v_ckS h
    refine V.iast (pc := 91) hK (hL.1 9 _ ls_9) (v_ibS hb) dX3_add_91 ?_
    refine V.nmM (fun M9 eM9 => ?_)
    have h := v_lt eM9 h
    refine V.aload_n (pc := 92) (i := 0) hK rfl ⟨_, rfl⟩ dX3_add_92 ?_
    refine V.iload (pc := 93) (i := 8) hK rfl dX3_add_93 ?_
    refine V.iconst (pc := 95) (v := 1) hK (by decide) dX3_add_95 ?_
    refine V.iadd (pc := 96) hK dX3_add_96 ?_
    refine V.putI (pc := 97) hK fl_RX3_9 rfl rfl ⟨rfl, rfl⟩ (hL.1 1 _ ls_1) dX3_add_97 ?_
    refine V.nmM (fun M10 eM10 => ?_)
    have h := v_lt eM10 h
    refine V.iload (pc := 100) (i := 8) hK rfl dX3_add_100 ?_
    exact V.iret (pc := 102) hO dX3_add_102 (v_finI h)
  · rw [if_neg c] at h
    refine V.iconst (pc := 9) (v := -1) hK (by decide) dX3_add_9 ?_
    exact V.iret (pc := 10) hO dX3_add_10 (v_finI h)
set_option maxHeartbeats 4000000 in
set_option maxRecDepth 100000 in
theorem c_X4_spot (E : v_E) {sh : v_S} {P : v_P} (hL : v_Lay sh P) (N : Nat) (x0 : Int32) (x1 : Int32) (M : v_M) {out : Int32 × v_M} (h : f_X4_spot N x0 x1 M = some out) : v_Ct E 0 yX4_spot cX4_spot 2 (some .int) 0 0 [.int x0, .int x1] sh P M (v_Q1 (some (.int out.1)) sh P out.2) := by
  refine v_Ct.of (by decide +kernel) (Nat.le_of_ble_eq_true rfl) (fun X hO => ?_)
  have hK : v_K E X cX4_spot RX4 2 0 := hO.1
  have hO : v_O E X cX4_spot RX4 2 0 (some .int) "spot" (v_Q1 (some (.int out.1)) sh P out.2) := hO
  show V E X (0, 0) 0 [(0, .int x0), (1, .int x1)] [] sh P M
  unfold f_X4_spot at h
  refine V.iload_n (pc := 0) (i := 0) hK rfl dX4_spot_0 ?_
  refine V.bipush (pc := 1) (v := 24) hK (by decide) dX4_spot_1 ?_
  refine V.imul (pc := 3) hK dX4_spot_3 ?_
  refine V.iload_n (pc := 4) (i := 1) hK rfl dX4_spot_4 ?_
  refine V.iadd (pc := 5) hK dX4_spot_5 ?_
  exact V.iret (pc := 6) hO dX4_spot_6 (v_finI h)
set_option maxHeartbeats 4000000 in
set_option maxRecDepth 100000 in
theorem c_X4_add (E : v_E) {sh : v_S} {P : v_P} (hL : v_Lay sh P) (N : Nat) (q0 : Nat) (hq0 : v_Fl sh P q0) (M : v_M) {out : Int32 × v_M} (h : f_X4_add N q0 M = some out) : v_Ct E 0 yX4_add cX4_add 1 (some .int) 0 0 [v_rf E q0] sh P M (v_Q1 (some (.int out.1)) sh P out.2) := by
  refine v_Ct.of (by decide +kernel) (Nat.le_of_ble_eq_true rfl) (fun X hO => ?_)
  have hK : v_K E X cX4_add RX4 1 0 := hO.1
  have hO : v_O E X cX4_add RX4 1 0 (some .int) "add" (v_Q1 (some (.int out.1)) sh P out.2) := hO
  show V E X (0, 0) 0 [(0, v_rf E q0)] [] sh P M
  unfold f_X4_add at h
  refine V.aload_n (pc := 0) (i := 0) hK rfl ⟨_, rfl⟩ dX4_add_0 ?_
  refine V.getI (pc := 1) hK fl_RX4_9 rfl (hq0.1 0 _ rfl) dX4_add_1 ?_
  refine V.bipush (pc := 4) (v := 20) hK (by decide) dX4_add_4 ?_
  refine V.icmp_lt (pc := 6) (tgt := 11) hK dX4_add_6 (by decide) (fun c => ?_) (fun c => ?_)
  · rw [if_pos c] at h
    refine V.aload_n (pc := 11) (i := 0) hK rfl ⟨_, rfl⟩ dX4_add_11 ?_
    refine V.dup (pc := 12) hK rfl dX4_add_12 ?_
    refine V.getI (pc := 13) hK fl_RX4_9 rfl (hq0.1 0 _ rfl) dX4_add_13 ?_
    refine V.iconst (pc := 16) (v := 1) hK (by decide) dX4_add_16 ?_
    refine V.iadd (pc := 17) hK dX4_add_17 ?_
    refine V.putI (pc := 18) hK fl_RX4_9 rfl rfl ⟨rfl, rfl⟩ (hq0.1 0 _ rfl) dX4_add_18 ?_
    refine V.nmM (fun M1 eM1 => ?_)
    have h := v_lt eM1 h
    refine V.aload_n (pc := 21) (i := 0) hK rfl ⟨_, rfl⟩ dX4_add_21 ?_
    refine V.getI (pc := 22) hK fl_RX4_9 rfl (hq0.1 0 _ rfl) dX4_add_22 ?_
    refine V.iconst (pc := 25) (v := 1) hK (by decide) dX4_add_25 ?_
    refine V.isub (pc := 26) hK dX4_add_26 ?_
    exact V.iret (pc := 27) hO dX4_add_27 (v_finI h)
  · rw [if_neg c] at h
    refine V.iconst (pc := 9) (v := -1) hK (by decide) dX4_add_9 ?_
    exact V.iret (pc := 10) hO dX4_add_10 (v_finI h)
set_option maxHeartbeats 4000000 in
set_option maxRecDepth 100000 in
theorem c_X4_become (E : v_E) {sh : v_S} {P : v_P} (hL : v_Lay sh P) (N : Nat) (q0 : Nat) (hq0 : v_Fl sh P q0) (q1 : Nat) (hq1 : v_Fl sh P q1) (M : v_M) {out : Int32 × v_M} (h : f_X4_become N q0 q1 M = some out) : v_Ct E 1 yX4_become cX4_become 2 none 0 0 [v_rf E q0, v_rf E q1] sh P M (v_Q1 (none) sh P out.2) := by
  refine v_Ct.of (by decide +kernel) (Nat.le_of_ble_eq_true rfl) (fun X hO => ?_)
  have hK : v_K E X cX4_become RX4 2 1 := hO.1
  have hO : v_O E X cX4_become RX4 2 1 none "become" (v_Q1 (none) sh P out.2) := hO
  show V E X (0, 0) 0 [(0, v_rf E q0), (1, v_rf E q1)] [] sh P M
  unfold f_X4_become at h
  refine V.aload_n (pc := 0) (i := 0) hK rfl ⟨_, rfl⟩ dX4_become_0 ?_
  refine V.aload_n (pc := 1) (i := 1) hK rfl ⟨_, rfl⟩ dX4_become_1 ?_
  refine V.getI (pc := 2) hK fl_RX4_9 rfl (hq1.1 0 _ rfl) dX4_become_2 ?_
  refine V.putI (pc := 5) hK fl_RX4_9 rfl rfl ⟨rfl, rfl⟩ (hq0.1 0 _ rfl) dX4_become_5 ?_
  refine V.nmM (fun M1 eM1 => ?_)
  have h := v_lt eM1 h
  refine V.aload_n (pc := 8) (i := 1) hK rfl ⟨_, rfl⟩ dX4_become_8 ?_
  refine V.getR (pc := 9) hK fl_RX4_15 rfl (hq1.1 0 _ rfl) (hq1.2 1 1 rfl) dX4_become_9 ?_
  refine V.iconst (pc := 12) (v := 0) hK (by decide) dX4_become_12 ?_
  refine V.aload_n (pc := 13) (i := 0) hK rfl ⟨_, rfl⟩ dX4_become_13 ?_
  refine V.getR (pc := 14) hK fl_RX4_15 rfl (hq0.1 0 _ rfl) (hq0.2 1 1 rfl) dX4_become_14 ?_
  refine V.iconst (pc := 17) (v := 0) hK (by decide) dX4_become_17 ?_
  refine V.aload_n (pc := 18) (i := 0) hK rfl ⟨_, rfl⟩ dX4_become_18 ?_
  refine V.getR (pc := 19) hK fl_RX4_15 rfl (hq0.1 0 _ rfl) (hq0.2 1 1 rfl) dX4_become_19 ?_
  refine V.alen (pc := 22) (v := 480) hK (hq0.1 1 _ rfl) (by decide) (by decide) dX4_become_22 ?_
  obtain ⟨hb, h⟩ := v_ckS h
  obtain ⟨hb1, hb2, hb3, hb4, hb5⟩ := v_cpkS hb
  refine V.copy (pc := 23) hK tw_1095 tw_cpn tw_cps tw_cpi (hq1.1 1 _ rfl) (hq0.1 1 _ rfl) hb1 hb2 hb3 hb4 hb5 dX4_become_23 (by decide) (Nat.le_of_ble_eq_true rfl) ?_
  refine V.nmM (fun M2 eM2 => ?_)
  have h := v_lt eM2 h
  refine V.aload_n (pc := 26) (i := 1) hK rfl ⟨_, rfl⟩ dX4_become_26 ?_
  refine V.getR (pc := 27) hK fl_RX4_19 rfl (hq1.1 0 _ rfl) (hq1.2 2 2 rfl) dX4_become_27 ?_
  refine V.iconst (pc := 30) (v := 0) hK (by decide) dX4_become_30 ?_
  refine V.aload_n (pc := 31) (i := 0) hK rfl ⟨_, rfl⟩ dX4_become_31 ?_
  refine V.getR (pc := 32) hK fl_RX4_19 rfl (hq0.1 0 _ rfl) (hq0.2 2 2 rfl) dX4_become_32 ?_
  refine V.iconst (pc := 35) (v := 0) hK (by decide) dX4_become_35 ?_
  refine V.aload_n (pc := 36) (i := 0) hK rfl ⟨_, rfl⟩ dX4_become_36 ?_
  refine V.getR (pc := 37) hK fl_RX4_19 rfl (hq0.1 0 _ rfl) (hq0.2 2 2 rfl) dX4_become_37 ?_
  refine V.alen (pc := 40) (v := 480) hK (hq0.1 2 _ rfl) (by decide) (by decide) dX4_become_40 ?_
  obtain ⟨hb, h⟩ := v_ckS h
  obtain ⟨hb1, hb2, hb3, hb4, hb5⟩ := v_cpkS hb
  refine V.copy (pc := 41) hK tw_1095 tw_cpn tw_cps tw_cpi (hq1.1 2 _ rfl) (hq0.1 2 _ rfl) hb1 hb2 hb3 hb4 hb5 dX4_become_41 (by decide) (Nat.le_of_ble_eq_true rfl) ?_
  refine V.nmM (fun M3 eM3 => ?_)
  have h := v_lt eM3 h
  refine V.aload_n (pc := 44) (i := 1) hK rfl ⟨_, rfl⟩ dX4_become_44 ?_
  refine V.getR (pc := 45) hK fl_RX4_22 rfl (hq1.1 0 _ rfl) (hq1.2 3 3 rfl) dX4_become_45 ?_
  refine V.iconst (pc := 48) (v := 0) hK (by decide) dX4_become_48 ?_
  refine V.aload_n (pc := 49) (i := 0) hK rfl ⟨_, rfl⟩ dX4_become_49 ?_
  refine V.getR (pc := 50) hK fl_RX4_22 rfl (hq0.1 0 _ rfl) (hq0.2 3 3 rfl) dX4_become_50 ?_
  refine V.iconst (pc := 53) (v := 0) hK (by decide) dX4_become_53 ?_
  refine V.aload_n (pc := 54) (i := 0) hK rfl ⟨_, rfl⟩ dX4_become_54 ?_
  refine V.getR (pc := 55) hK fl_RX4_22 rfl (hq0.1 0 _ rfl) (hq0.2 3 3 rfl) dX4_become_55 ?_
  refine V.alen (pc := 58) (v := 480) hK (hq0.1 3 _ rfl) (by decide) (by decide) dX4_become_58 ?_
  obtain ⟨hb, h⟩ := v_ckS h
  obtain ⟨hb1, hb2, hb3, hb4, hb5⟩ := v_cpkS hb
  refine V.copy (pc := 59) hK tw_1095 tw_cpn tw_cps tw_cpi (hq1.1 3 _ rfl) (hq0.1 3 _ rfl) hb1 hb2 hb3 hb4 hb5 dX4_become_59 (by decide) (Nat.le_of_ble_eq_true rfl) ?_
  refine V.nmM (fun M4 eM4 => ?_)
  have h := v_lt eM4 h
  refine V.aload_n (pc := 62) (i := 1) hK rfl ⟨_, rfl⟩ dX4_become_62 ?_
  refine V.getR (pc := 63) hK fl_RX4_25 rfl (hq1.1 0 _ rfl) (hq1.2 4 4 rfl) dX4_become_63 ?_
  refine V.iconst (pc := 66) (v := 0) hK (by decide) dX4_become_66 ?_
  refine V.aload_n (pc := 67) (i := 0) hK rfl ⟨_, rfl⟩ dX4_become_67 ?_
  refine V.getR (pc := 68) hK fl_RX4_25 rfl (hq0.1 0 _ rfl) (hq0.2 4 4 rfl) dX4_become_68 ?_
  refine V.iconst (pc := 71) (v := 0) hK (by decide) dX4_become_71 ?_
  refine V.aload_n (pc := 72) (i := 0) hK rfl ⟨_, rfl⟩ dX4_become_72 ?_
  refine V.getR (pc := 73) hK fl_RX4_25 rfl (hq0.1 0 _ rfl) (hq0.2 4 4 rfl) dX4_become_73 ?_
  refine V.alen (pc := 76) (v := 480) hK (hq0.1 4 _ rfl) (by decide) (by decide) dX4_become_76 ?_
  obtain ⟨hb, h⟩ := v_ckS h
  obtain ⟨hb1, hb2, hb3, hb4, hb5⟩ := v_cpkS hb
  refine V.copy (pc := 77) hK tw_1095 tw_cpn tw_cps tw_cpi (hq1.1 4 _ rfl) (hq0.1 4 _ rfl) hb1 hb2 hb3 hb4 hb5 dX4_become_77 (by decide) (Nat.le_of_ble_eq_true rfl) ?_
  refine V.nmM (fun M5 eM5 => ?_)
  have h := v_lt eM5 h
  refine V.aload_n (pc := 80) (i := 1) hK rfl ⟨_, rfl⟩ dX4_become_80 ?_
  refine V.getR (pc := 81) hK fl_RX4_28 rfl (hq1.1 0 _ rfl) (hq1.2 5 5 rfl) dX4_become_81 ?_
  refine V.iconst (pc := 84) (v := 0) hK (by decide) dX4_become_84 ?_
  refine V.aload_n (pc := 85) (i := 0) hK rfl ⟨_, rfl⟩ dX4_become_85 ?_
  refine V.getR (pc := 86) hK fl_RX4_28 rfl (hq0.1 0 _ rfl) (hq0.2 5 5 rfl) dX4_become_86 ?_
  refine V.iconst (pc := 89) (v := 0) hK (by decide) dX4_become_89 ?_
  refine V.bipush (pc := 90) (v := 20) hK (by decide) dX4_become_90 ?_
  obtain ⟨hb, h⟩ := v_ckS h
  obtain ⟨hb1, hb2, hb3, hb4, hb5⟩ := v_cpkS hb
  refine V.copy (pc := 92) hK tw_1095 tw_cpn tw_cps tw_cpi (hq1.1 5 _ rfl) (hq0.1 5 _ rfl) hb1 hb2 hb3 hb4 hb5 dX4_become_92 (by decide) (Nat.le_of_ble_eq_true rfl) ?_
  refine V.nmM (fun M6 eM6 => ?_)
  have h := v_lt eM6 h
  refine V.aload_n (pc := 95) (i := 1) hK rfl ⟨_, rfl⟩ dX4_become_95 ?_
  refine V.getR (pc := 96) hK fl_RX4_31 rfl (hq1.1 0 _ rfl) (hq1.2 6 6 rfl) dX4_become_96 ?_
  refine V.iconst (pc := 99) (v := 0) hK (by decide) dX4_become_99 ?_
  refine V.aload_n (pc := 100) (i := 0) hK rfl ⟨_, rfl⟩ dX4_become_100 ?_
  refine V.getR (pc := 101) hK fl_RX4_31 rfl (hq0.1 0 _ rfl) (hq0.2 6 6 rfl) dX4_become_101 ?_
  refine V.iconst (pc := 104) (v := 0) hK (by decide) dX4_become_104 ?_
  refine V.bipush (pc := 105) (v := 20) hK (by decide) dX4_become_105 ?_
  obtain ⟨hb, h⟩ := v_ckS h
  obtain ⟨hb1, hb2, hb3, hb4, hb5⟩ := v_cpkS hb
  refine V.copy (pc := 107) hK tw_1095 tw_cpn tw_cps tw_cpi (hq1.1 6 _ rfl) (hq0.1 6 _ rfl) hb1 hb2 hb3 hb4 hb5 dX4_become_107 (by decide) (Nat.le_of_ble_eq_true rfl) ?_
  refine V.nmM (fun M7 eM7 => ?_)
  have h := v_lt eM7 h
  exact V.vret (pc := 110) hO dX4_become_110 (v_finV h)
set_option maxHeartbeats 4000000 in
set_option maxRecDepth 100000 in
theorem c_X5_clear (E : v_E) {sh : v_S} {P : v_P} (hL : v_Lay sh P) (N : Nat) (q0 : Nat) (hq0 : v_Or sh P q0) (M : v_M) {out : Int32 × v_M} (h : f_X5_clear N q0 M = some out) : v_Ct E 0 yX5_clear cX5_clear 1 none 0 0 [v_rf E q0] sh P M (v_Q1 (none) sh P out.2) := by
  refine v_Ct.of (by decide +kernel) (Nat.le_of_ble_eq_true rfl) (fun X hO => ?_)
  have hK : v_K E X cX5_clear RX5 1 0 := hO.1
  have hO : v_O E X cX5_clear RX5 1 0 none "clear" (v_Q1 (none) sh P out.2) := hO
  show V E X (0, 0) 0 [(0, v_rf E q0)] [] sh P M
  unfold f_X5_clear at h
  refine V.aload_n (pc := 0) (i := 0) hK rfl ⟨_, rfl⟩ dX5_clear_0 ?_
  refine V.iconst (pc := 1) (v := 0) hK (by decide) dX5_clear_1 ?_
  refine V.putI (pc := 2) hK fl_RX5_18 rfl rfl ⟨rfl, rfl⟩ (hq0.1 0 _ rfl) dX5_clear_2 ?_
  refine V.nmM (fun M1 eM1 => ?_)
  have h := v_lt eM1 h
  refine V.aload_n (pc := 5) (i := 0) hK rfl ⟨_, rfl⟩ dX5_clear_5 ?_
  refine V.iconst (pc := 6) (v := 0) hK (by decide) dX5_clear_6 ?_
  refine V.putI (pc := 7) hK fl_RX5_21 rfl rfl ⟨rfl, rfl⟩ (hq0.1 0 _ rfl) dX5_clear_7 ?_
  refine V.nmM (fun M2 eM2 => ?_)
  have h := v_lt eM2 h
  exact V.vret (pc := 10) hO dX5_clear_10 (v_finV h)
set_option maxHeartbeats 4000000 in
set_option maxRecDepth 100000 in
theorem c_X5_emit (E : v_E) {sh : v_S} {P : v_P} (hL : v_Lay sh P) (N : Nat) (q0 : Nat) (hq0 : v_Or sh P q0) (x1 : Int32) (M : v_M) {out : Int32 × v_M} (h : f_X5_emit N q0 x1 M = some out) : v_Ct E 0 yX5_emit cX5_emit 2 none 0 0 [v_rf E q0, .int x1] sh P M (v_Q1 (none) sh P out.2) := by
  refine v_Ct.of (by decide +kernel) (Nat.le_of_ble_eq_true rfl) (fun X hO => ?_)
  have hK : v_K E X cX5_emit RX5 2 0 := hO.1
  have hO : v_O E X cX5_emit RX5 2 0 none "emit" (v_Q1 (none) sh P out.2) := hO
  show V E X (0, 0) 0 [(0, v_rf E q0), (1, .int x1)] [] sh P M
  unfold f_X5_emit at h
  refine V.aload_n (pc := 0) (i := 0) hK rfl ⟨_, rfl⟩ dX5_emit_0 ?_
  refine V.getI (pc := 1) hK fl_RX5_21 rfl (hq0.1 0 _ rfl) dX5_emit_1 ?_
  refine V.sipush (pc := 4) (v := 400) hK (by decide) dX5_emit_4 ?_
  refine V.icmp_ge (pc := 7) (tgt := 30) hK dX5_emit_7 (by decide) (fun c => ?_) (fun c => ?_)
  · rw [if_pos c] at h
    exact V.vret (pc := 30) hO dX5_emit_30 (v_finV h)
  · rw [if_neg c] at h
    refine V.aload_n (pc := 10) (i := 0) hK rfl ⟨_, rfl⟩ dX5_emit_10 ?_
    refine V.getR (pc := 11) hK fl_RX5_40 rfl (hq0.1 0 _ rfl) (hq0.2 9 6 rfl) dX5_emit_11 ?_
    refine V.aload_n (pc := 14) (i := 0) hK rfl ⟨_, rfl⟩ dX5_emit_14 ?_
    refine V.getI (pc := 15) hK fl_RX5_21 rfl (hq0.1 0 _ rfl) dX5_emit_15 ?_
    refine V.iload_n (pc := 18) (i := 1) hK rfl dX5_emit_18 ?_
    obtain ⟨hb, h⟩ := v_ckS h
    refine V.iast (pc := 19) hK (hq0.1 6 _ rfl) (v_ibS hb) dX5_emit_19 ?_
    refine V.nmM (fun M1 eM1 => ?_)
    have h := v_lt eM1 h
    refine V.aload_n (pc := 20) (i := 0) hK rfl ⟨_, rfl⟩ dX5_emit_20 ?_
    refine V.dup (pc := 21) hK rfl dX5_emit_21 ?_
    refine V.getI (pc := 22) hK fl_RX5_21 rfl (hq0.1 0 _ rfl) dX5_emit_22 ?_
    refine V.iconst (pc := 25) (v := 1) hK (by decide) dX5_emit_25 ?_
    refine V.iadd (pc := 26) hK dX5_emit_26 ?_
    refine V.putI (pc := 27) hK fl_RX5_21 rfl rfl ⟨rfl, rfl⟩ (hq0.1 0 _ rfl) dX5_emit_27 ?_
    refine V.nmM (fun M2 eM2 => ?_)
    have h := v_lt eM2 h
    exact V.vret (pc := 30) hO dX5_emit_30 (v_finV h)
set_option maxHeartbeats 4000000 in
set_option maxRecDepth 100000 in
theorem c_X6_add (E : v_E) {sh : v_S} {P : v_P} (hL : v_Lay sh P) (N : Nat) (x1 : Int32) (x2 : Int32) (x3 : Int32) (M : v_M) {out : Int32 × v_M} (h : f_X6_add N x1 x2 x3 M = some out) : v_Ct E 0 yX6_add cX6_add 5 (some .int) 0 0 [v_rf E 71, .int x1, .int x2, .int x3] sh P M (v_Q1 (some (.int out.1)) sh P out.2) := by
  refine v_Ct.of (by decide +kernel) (Nat.le_of_ble_eq_true rfl) (fun X hO => ?_)
  have hK : v_K E X cX6_add RX6 5 0 := hO.1
  have hO : v_O E X cX6_add RX6 5 0 (some .int) "add" (v_Q1 (some (.int out.1)) sh P out.2) := hO
  show V E X (0, 0) 0 [(0, v_rf E 71), (1, .int x1), (2, .int x2), (3, .int x3)] [] sh P M
  unfold f_X6_add at h
  refine V.aload_n (pc := 0) (i := 0) hK rfl ⟨_, rfl⟩ dX6_add_0 ?_
  refine V.getI (pc := 1) hK fl_RX6_9 rfl (hL.1 71 _ ls_71) dX6_add_1 ?_
  refine V.bipush (pc := 4) (v := 30) hK (by decide) dX6_add_4 ?_
  refine V.icmp_lt (pc := 6) (tgt := 11) hK dX6_add_6 (by decide) (fun c => ?_) (fun c => ?_)
  · rw [if_pos c] at h
    refine V.aload_n (pc := 11) (i := 0) hK rfl ⟨_, rfl⟩ dX6_add_11 ?_
    refine V.getI (pc := 12) hK fl_RX6_9 rfl (hL.1 71 _ ls_71) dX6_add_12 ?_
    refine V.topi (fun y1 ey1 => ?_)
    have h := v_lt ey1 h
    refine V.istore (pc := 15) (i := 4) (lv' := [(0, _), (1, _), (2, _), (3, _), (4, _)]) hK (by decide) rfl dX6_add_15 ?_
    refine V.aload_n (pc := 17) (i := 0) hK rfl ⟨_, rfl⟩ dX6_add_17 ?_
    refine V.getR (pc := 18) hK fl_RX6_15 rfl (hL.1 71 _ ls_71) (hL.2 71 1 72 rfl) dX6_add_18 ?_
    refine V.iload (pc := 21) (i := 4) hK rfl dX6_add_21 ?_
    refine V.iload_n (pc := 23) (i := 1) hK rfl dX6_add_23 ?_
    obtain ⟨hb, h⟩ := v_ckS h
    refine V.iast (pc := 24) hK (hL.1 72 _ ls_72) (v_ibS hb) dX6_add_24 ?_
    refine V.nmM (fun M2 eM2 => ?_)
    have h := v_lt eM2 h
    refine V.aload_n (pc := 25) (i := 0) hK rfl ⟨_, rfl⟩ dX6_add_25 ?_
    refine V.getR (pc := 26) hK fl_RX6_19 rfl (hL.1 71 _ ls_71) (hL.2 71 2 73 rfl) dX6_add_26 ?_
    refine V.iload (pc := 29) (i := 4) hK rfl dX6_add_29 ?_
    refine V.iload_n (pc := 31) (i := 2) hK rfl dX6_add_31 ?_
    obtain ⟨hb, h⟩ := v_ckS h
    refine V.iast (pc := 32) hK (hL.1 73 _ ls_73) (v_ibS hb) dX6_add_32 ?_
    refine V.nmM (fun M3 eM3 => ?_)
    have h := v_lt eM3 h
    refine V.aload_n (pc := 33) (i := 0) hK rfl ⟨_, rfl⟩ dX6_add_33 ?_
    refine V.getR (pc := 34) hK fl_RX6_25 rfl (hL.1 71 _ ls_71) (hL.2 71 4 75 rfl) dX6_add_34 ?_
    refine V.iload (pc := 37) (i := 4) hK rfl dX6_add_37 ?_
    refine V.iload_n (pc := 39) (i := 3) hK rfl dX6_add_39 ?_
    obtain ⟨hb, h⟩ := v_ckS h
    refine V.iast (pc := 40) hK (hL.1 75 _ ls_75) (v_ibS hb) dX6_add_40 ?_
    refine V.nmM (fun M4 eM4 => ?_)
    have h := v_lt eM4 h
    refine V.aload_n (pc := 41) (i := 0) hK rfl ⟨_, rfl⟩ dX6_add_41 ?_
    refine V.iload (pc := 42) (i := 4) hK rfl dX6_add_42 ?_
    refine V.iconst (pc := 44) (v := 1) hK (by decide) dX6_add_44 ?_
    refine V.iadd (pc := 45) hK dX6_add_45 ?_
    refine V.putI (pc := 46) hK fl_RX6_9 rfl rfl ⟨rfl, rfl⟩ (hL.1 71 _ ls_71) dX6_add_46 ?_
    refine V.nmM (fun M5 eM5 => ?_)
    have h := v_lt eM5 h
    refine V.iload (pc := 49) (i := 4) hK rfl dX6_add_49 ?_
    exact V.iret (pc := 51) hO dX6_add_51 (v_finI h)
  · rw [if_neg c] at h
    refine V.iconst (pc := 9) (v := -1) hK (by decide) dX6_add_9 ?_
    exact V.iret (pc := 10) hO dX6_add_10 (v_finI h)
set_option maxHeartbeats 4000000 in
set_option maxRecDepth 100000 in
theorem w_X6_warnsOf_L32 {E : v_E} {X : v_X} {sh : v_S} {P : v_P} {out : Int32 × v_M} (hL : v_Lay sh P) (hO : v_O E X cX6_warnsOf RX6 4 0 (some .boolean) "warnsOf" (v_Q1 (some (.int out.1)) sh P out.2)) (N : Nat) (k2 : Int32 → Int32 → Int32 → v_M → Option (Int32 × v_M)) (hk2 : ∀ (x1 : Int32) (x2 : Int32) (x3 : Int32) (M : v_M), k2 x1 x2 x3 M = some out → V E X (0, 0) 2 [(0, v_rf E 71), (1, .int x1), (2, .int x2), (3, .int x3)] [] sh P M) (x1 : Int32) (x2 : Int32) (x3 : Int32) (M : v_M) (h : f_X6_warnsOf_L32 N k2 x1 x2 x3 M = some out) : V E X (0, 0) 32 [(0, v_rf E 71), (1, .int x1), (2, .int x2), (3, .int x3)] [] sh P M := by
  have hK := hO.1
  unfold f_X6_warnsOf_L32 at h
  refine V.iinc (pc := 32) (i := 3) (v := 1) (lv' := [(0, _), (1, _), (2, _), (3, _)]) hK rfl (by decide) (by decide) rfl dX6_warnsOf_32 ?_
  refine V.goto (pc := 35) (tgt := 2) hK dX6_warnsOf_35 (by decide) ?_
  refine V.pick [0, 1, 2, 3] (l := [(0, _), (1, _), (2, _), (3, _)]) rfl ?_
  exact hk2 _ _ _ _ h
set_option maxHeartbeats 4000000 in
set_option maxRecDepth 100000 in
theorem w_X6_warnsOf_L2 {E : v_E} {X : v_X} {sh : v_S} {P : v_P} {out : Int32 × v_M} (hL : v_Lay sh P) (hO : v_O E X cX6_warnsOf RX6 4 0 (some .boolean) "warnsOf" (v_Q1 (some (.int out.1)) sh P out.2)) (N : Nat) (n : Nat) : ∀ (x1 : Int32) (x2 : Int32) (x3 : Int32) (M : v_M), f_X6_warnsOf_L2 N n x1 x2 x3 M = some out → V E X (0, 0) 2 [(0, v_rf E 71), (1, .int x1), (2, .int x2), (3, .int x3)] [] sh P M := by
  have hK := hO.1
  induction n with
  | zero => intro x1 x2 x3 M h; rw [f_X6_warnsOf_L2] at h; cases h
  | succ n ih =>
    intro x1 x2 x3 M h
    rw [f_X6_warnsOf_L2] at h
    refine V.iload_n (pc := 2) (i := 3) hK rfl dX6_warnsOf_2 ?_
    refine V.aload_n (pc := 3) (i := 0) hK rfl ⟨_, rfl⟩ dX6_warnsOf_3 ?_
    refine V.getI (pc := 4) hK fl_RX6_9 rfl (hL.1 71 _ ls_71) dX6_warnsOf_4 ?_
    refine V.icmp_ge (pc := 7) (tgt := 38) hK dX6_warnsOf_7 (by decide) (fun c => ?_) (fun c => ?_)
    · rw [if_pos c] at h
      refine V.iconst (pc := 38) (v := 0) hK (by decide) dX6_warnsOf_38 ?_
      obtain ⟨hb, h⟩ := v_ckS h
      exact V.zret (pc := 39) hO (v_z01 hb) dX6_warnsOf_39 (v_finI h)
    · rw [if_neg c] at h
      refine V.aload_n (pc := 10) (i := 0) hK rfl ⟨_, rfl⟩ dX6_warnsOf_10 ?_
      refine V.getR (pc := 11) hK fl_RX6_15 rfl (hL.1 71 _ ls_71) (hL.2 71 1 72 rfl) dX6_warnsOf_11 ?_
      refine V.iload_n (pc := 14) (i := 3) hK rfl dX6_warnsOf_14 ?_
      obtain ⟨hb, h⟩ := v_ckS h
      refine V.iald (pc := 15) hK (hL.1 72 _ ls_72) (v_ibS hb) dX6_warnsOf_15 ?_
      refine V.iload_n (pc := 16) (i := 1) hK rfl dX6_warnsOf_16 ?_
      refine V.icmp_ne (pc := 17) (tgt := 32) hK dX6_warnsOf_17 (by decide) (fun c => ?_) (fun c => ?_)
      · rw [if_neg c] at h
        refine V.pick [0, 1, 2, 3] (l := [(0, _), (1, _), (2, _), (3, _)]) rfl ?_
        exact w_X6_warnsOf_L32 hL hO N _ ih _ _ _ _ h
      · rw [if_pos c] at h
        refine V.aload_n (pc := 20) (i := 0) hK rfl ⟨_, rfl⟩ dX6_warnsOf_20 ?_
        refine V.getR (pc := 21) hK fl_RX6_22 rfl (hL.1 71 _ ls_71) (hL.2 71 3 74 rfl) dX6_warnsOf_21 ?_
        refine V.iload_n (pc := 24) (i := 3) hK rfl dX6_warnsOf_24 ?_
        obtain ⟨hb, h⟩ := v_ckS h
        refine V.iald (pc := 25) hK (hL.1 74 _ ls_74) (v_ibS hb) dX6_warnsOf_25 ?_
        refine V.iload_n (pc := 26) (i := 2) hK rfl dX6_warnsOf_26 ?_
        refine V.icmp_gt (pc := 27) (tgt := 32) hK dX6_warnsOf_27 (by decide) (fun c => ?_) (fun c => ?_)
        · rw [if_pos c] at h
          refine V.pick [0, 1, 2, 3] (l := [(0, _), (1, _), (2, _), (3, _)]) rfl ?_
          exact w_X6_warnsOf_L32 hL hO N _ ih _ _ _ _ h
        · rw [if_neg c] at h
          refine V.iconst (pc := 30) (v := 1) hK (by decide) dX6_warnsOf_30 ?_
          obtain ⟨hb, h⟩ := v_ckS h
          exact V.zret (pc := 31) hO (v_z01 hb) dX6_warnsOf_31 (v_finI h)
set_option maxHeartbeats 4000000 in
set_option maxRecDepth 100000 in
theorem c_X6_warnsOf (E : v_E) {sh : v_S} {P : v_P} (hL : v_Lay sh P) (N : Nat) (x1 : Int32) (x2 : Int32) (M : v_M) {out : Int32 × v_M} (h : f_X6_warnsOf N x1 x2 M = some out) : v_Ct E 0 yX6_warnsOf cX6_warnsOf 4 (some .boolean) 0 0 [v_rf E 71, .int x1, .int x2] sh P M (v_Q1 (some (.int out.1)) sh P out.2) := by
  refine v_Ct.of (by decide +kernel) (Nat.le_of_ble_eq_true rfl) (fun X hO => ?_)
  have hK : v_K E X cX6_warnsOf RX6 4 0 := hO.1
  have hO : v_O E X cX6_warnsOf RX6 4 0 (some .boolean) "warnsOf" (v_Q1 (some (.int out.1)) sh P out.2) := hO
  show V E X (0, 0) 0 [(0, v_rf E 71), (1, .int x1), (2, .int x2)] [] sh P M
  unfold f_X6_warnsOf at h
  refine V.iconst (pc := 0) (v := 0) hK (by decide) dX6_warnsOf_0 ?_
  refine V.istore_n (pc := 1) (i := 3) (lv' := [(0, _), (1, _), (2, _), (3, _)]) hK (by decide) rfl dX6_warnsOf_1 ?_
  refine V.pick [0, 1, 2, 3] (l := [(0, _), (1, _), (2, _), (3, _)]) rfl ?_
  exact w_X6_warnsOf_L2 hL hO N N _ _ _ _ h
set_option maxHeartbeats 4000000 in
set_option maxRecDepth 100000 in
theorem w_X6_forgetFrom_L27 {E : v_E} {X : v_X} {sh : v_S} {P : v_P} {out : Int32 × v_M} (hL : v_Lay sh P) (hO : v_O E X cX6_forgetFrom RX6 3 0 none "forgetFrom" (v_Q1 (none) sh P out.2)) (N : Nat) (k2 : Int32 → Int32 → v_M → Option (Int32 × v_M)) (hk2 : ∀ (x1 : Int32) (x2 : Int32) (M : v_M), k2 x1 x2 M = some out → V E X (0, 0) 2 [(0, v_rf E 71), (1, .int x1), (2, .int x2)] [] sh P M) (x1 : Int32) (x2 : Int32) (M : v_M) (h : f_X6_forgetFrom_L27 N k2 x1 x2 M = some out) : V E X (0, 0) 27 [(0, v_rf E 71), (1, .int x1), (2, .int x2)] [] sh P M := by
  have hK := hO.1
  unfold f_X6_forgetFrom_L27 at h
  refine V.iinc (pc := 27) (i := 2) (v := 1) (lv' := [(0, _), (1, _), (2, _)]) hK rfl (by decide) (by decide) rfl dX6_forgetFrom_27 ?_
  refine V.goto (pc := 30) (tgt := 2) hK dX6_forgetFrom_30 (by decide) ?_
  refine V.pick [0, 1, 2] (l := [(0, _), (1, _), (2, _)]) rfl ?_
  exact hk2 _ _ _ h
set_option maxHeartbeats 4000000 in
set_option maxRecDepth 100000 in
theorem w_X6_forgetFrom_L2 {E : v_E} {X : v_X} {sh : v_S} {P : v_P} {out : Int32 × v_M} (hL : v_Lay sh P) (hO : v_O E X cX6_forgetFrom RX6 3 0 none "forgetFrom" (v_Q1 (none) sh P out.2)) (N : Nat) (n : Nat) : ∀ (x1 : Int32) (x2 : Int32) (M : v_M), f_X6_forgetFrom_L2 N n x1 x2 M = some out → V E X (0, 0) 2 [(0, v_rf E 71), (1, .int x1), (2, .int x2)] [] sh P M := by
  have hK := hO.1
  induction n with
  | zero => intro x1 x2 M h; rw [f_X6_forgetFrom_L2] at h; cases h
  | succ n ih =>
    intro x1 x2 M h
    rw [f_X6_forgetFrom_L2] at h
    refine V.iload_n (pc := 2) (i := 2) hK rfl dX6_forgetFrom_2 ?_
    refine V.aload_n (pc := 3) (i := 0) hK rfl ⟨_, rfl⟩ dX6_forgetFrom_3 ?_
    refine V.getI (pc := 4) hK fl_RX6_9 rfl (hL.1 71 _ ls_71) dX6_forgetFrom_4 ?_
    refine V.icmp_ge (pc := 7) (tgt := 33) hK dX6_forgetFrom_7 (by decide) (fun c => ?_) (fun c => ?_)
    · rw [if_pos c] at h
      exact V.vret (pc := 33) hO dX6_forgetFrom_33 (v_finV h)
    · rw [if_neg c] at h
      refine V.aload_n (pc := 10) (i := 0) hK rfl ⟨_, rfl⟩ dX6_forgetFrom_10 ?_
      refine V.getR (pc := 11) hK fl_RX6_15 rfl (hL.1 71 _ ls_71) (hL.2 71 1 72 rfl) dX6_forgetFrom_11 ?_
      refine V.iload_n (pc := 14) (i := 2) hK rfl dX6_forgetFrom_14 ?_
      obtain ⟨hb, h⟩ := v_ckS h
      refine V.iald (pc := 15) hK (hL.1 72 _ ls_72) (v_ibS hb) dX6_forgetFrom_15 ?_
      refine V.iload_n (pc := 16) (i := 1) hK rfl dX6_forgetFrom_16 ?_
      refine V.icmp_lt (pc := 17) (tgt := 27) hK dX6_forgetFrom_17 (by decide) (fun c => ?_) (fun c => ?_)
      · rw [if_pos c] at h
        refine V.pick [0, 1, 2] (l := [(0, _), (1, _), (2, _)]) rfl ?_
        exact w_X6_forgetFrom_L27 hL hO N _ ih _ _ _ h
      · rw [if_neg c] at h
        refine V.aload_n (pc := 20) (i := 0) hK rfl ⟨_, rfl⟩ dX6_forgetFrom_20 ?_
        refine V.getR (pc := 21) hK fl_RX6_15 rfl (hL.1 71 _ ls_71) (hL.2 71 1 72 rfl) dX6_forgetFrom_21 ?_
        refine V.iload_n (pc := 24) (i := 2) hK rfl dX6_forgetFrom_24 ?_
        refine V.iconst (pc := 25) (v := -1) hK (by decide) dX6_forgetFrom_25 ?_
        obtain ⟨hb, h⟩ := v_ckS h
        refine V.iast (pc := 26) hK (hL.1 72 _ ls_72) (v_ibS hb) dX6_forgetFrom_26 ?_
        refine V.nmM (fun M1 eM1 => ?_)
        have h := v_lt eM1 h
        refine V.pick [0, 1, 2] (l := [(0, _), (1, _), (2, _)]) rfl ?_
        exact w_X6_forgetFrom_L27 hL hO N _ ih _ _ _ h
set_option maxHeartbeats 4000000 in
set_option maxRecDepth 100000 in
theorem c_X6_forgetFrom (E : v_E) {sh : v_S} {P : v_P} (hL : v_Lay sh P) (N : Nat) (x1 : Int32) (M : v_M) {out : Int32 × v_M} (h : f_X6_forgetFrom N x1 M = some out) : v_Ct E 0 yX6_forgetFrom cX6_forgetFrom 3 none 0 0 [v_rf E 71, .int x1] sh P M (v_Q1 (none) sh P out.2) := by
  refine v_Ct.of (by decide +kernel) (Nat.le_of_ble_eq_true rfl) (fun X hO => ?_)
  have hK : v_K E X cX6_forgetFrom RX6 3 0 := hO.1
  have hO : v_O E X cX6_forgetFrom RX6 3 0 none "forgetFrom" (v_Q1 (none) sh P out.2) := hO
  show V E X (0, 0) 0 [(0, v_rf E 71), (1, .int x1)] [] sh P M
  unfold f_X6_forgetFrom at h
  refine V.iconst (pc := 0) (v := 0) hK (by decide) dX6_forgetFrom_0 ?_
  refine V.istore_n (pc := 1) (i := 2) (lv' := [(0, _), (1, _), (2, _)]) hK (by decide) rfl dX6_forgetFrom_1 ?_
  refine V.pick [0, 1, 2] (l := [(0, _), (1, _), (2, _)]) rfl ?_
  exact w_X6_forgetFrom_L2 hL hO N N _ _ _ h
set_option maxHeartbeats 4000000 in
set_option maxRecDepth 100000 in
theorem c_X7_fail (E : v_E) {sh : v_S} {P : v_P} (hL : v_Lay sh P) (N : Nat) (x1 : Int32) (M : v_M) {out : Int32 × v_M} (h : f_X7_fail N x1 M = some out) : v_Ct E 0 yX7_fail cX7_fail 2 (some .boolean) 0 0 [v_rf E 35, .int x1] sh P M (v_Q1 (some (.int out.1)) sh P out.2) := by
  refine v_Ct.of (by decide +kernel) (Nat.le_of_ble_eq_true rfl) (fun X hO => ?_)
  have hK : v_K E X cX7_fail RX7 2 0 := hO.1
  have hO : v_O E X cX7_fail RX7 2 0 (some .boolean) "fail" (v_Q1 (some (.int out.1)) sh P out.2) := hO
  show V E X (0, 0) 0 [(0, v_rf E 35), (1, .int x1)] [] sh P M
  unfold f_X7_fail at h
  refine V.aload_n (pc := 0) (i := 0) hK rfl ⟨_, rfl⟩ dX7_fail_0 ?_
  refine V.iconst (pc := 1) (v := 1) hK (by decide) dX7_fail_1 ?_
  refine V.bipush (pc := 2) (v := 8) hK (by decide) dX7_fail_2 ?_
  refine V.aload_n (pc := 4) (i := 0) hK rfl ⟨_, rfl⟩ dX7_fail_4 ?_
  refine V.getR (pc := 5) hK fl_RX7_12 rfl (hL.1 35 _ ls_35) (hL.2 35 0 36 rfl) dX7_fail_5 ?_
  refine V.getR (pc := 8) hK fl_RX7_57 rfl (hL.1 36 _ ls_36) (hL.2 36 5 39 rfl) dX7_fail_8 ?_
  refine V.aload_n (pc := 11) (i := 0) hK rfl ⟨_, rfl⟩ dX7_fail_11 ?_
  refine V.getI (pc := 12) hK fl_RX7_25 rfl (hL.1 35 _ ls_35) dX7_fail_12 ?_
  obtain ⟨hb, h⟩ := v_ckS h
  refine V.iald (pc := 15) hK (hL.1 39 _ ls_39) (v_ibS hb) dX7_fail_15 ?_
  refine V.imul (pc := 16) hK dX7_fail_16 ?_
  refine V.iadd (pc := 17) hK dX7_fail_17 ?_
  refine V.iload_n (pc := 18) (i := 1) hK rfl dX7_fail_18 ?_
  refine V.iadd (pc := 19) hK dX7_fail_19 ?_
  refine V.putI (pc := 20) hK fl_RX7_38 rfl rfl ⟨rfl, rfl⟩ (hL.1 35 _ ls_35) dX7_fail_20 ?_
  refine V.nmM (fun M1 eM1 => ?_)
  have h := v_lt eM1 h
  refine V.iconst (pc := 23) (v := 0) hK (by decide) dX7_fail_23 ?_
  obtain ⟨hb, h⟩ := v_ckS h
  exact V.zret (pc := 24) hO (v_z01 hb) dX7_fail_24 (v_finI h)
set_option maxHeartbeats 4000000 in
set_option maxRecDepth 100000 in
theorem w_X7_step_L48 {E : v_E} {X : v_X} {sh : v_S} {P : v_P} {out : Int32 × v_M} (hL : v_Lay sh P) (hO : v_O E X cX7_step RX7 1 0 none "step" (v_Q1 (none) sh P out.2)) (N : Nat) (M : v_M) (h : f_X7_step_L48 N M = some out) : V E X (0, 0) 48 [(0, v_rf E 35)] [] sh P M := by
  have hK := hO.1
  unfold f_X7_step_L48 at h
  refine V.aload_n (pc := 48) (i := 0) hK rfl ⟨_, rfl⟩ dX7_step_48 ?_
  refine V.aload_n (pc := 49) (i := 0) hK rfl ⟨_, rfl⟩ dX7_step_49 ?_
  refine V.getR (pc := 50) hK fl_RX7_12 rfl (hL.1 35 _ ls_35) (hL.2 35 0 36 rfl) dX7_step_50 ?_
  refine V.getR (pc := 53) hK fl_RX7_64 rfl (hL.1 36 _ ls_36) (hL.2 36 4 38 rfl) dX7_step_53 ?_
  refine V.aload_n (pc := 56) (i := 0) hK rfl ⟨_, rfl⟩ dX7_step_56 ?_
  refine V.getI (pc := 57) hK fl_RX7_25 rfl (hL.1 35 _ ls_35) dX7_step_57 ?_
  obtain ⟨hb, h⟩ := v_ckS h
  refine V.iald (pc := 60) hK (hL.1 38 _ ls_38) (v_ibS hb) dX7_step_60 ?_
  refine V.putI (pc := 61) hK fl_RX7_29 rfl rfl ⟨rfl, rfl⟩ (hL.1 35 _ ls_35) dX7_step_61 ?_
  refine V.nmM (fun M1 eM1 => ?_)
  have h := v_lt eM1 h
  refine V.aload_n (pc := 64) (i := 0) hK rfl ⟨_, rfl⟩ dX7_step_64 ?_
  refine V.aload_n (pc := 65) (i := 0) hK rfl ⟨_, rfl⟩ dX7_step_65 ?_
  refine V.getR (pc := 66) hK fl_RX7_12 rfl (hL.1 35 _ ls_35) (hL.2 35 0 36 rfl) dX7_step_66 ?_
  refine V.getR (pc := 69) hK fl_RX7_66 rfl (hL.1 36 _ ls_36) (hL.2 36 6 40 rfl) dX7_step_69 ?_
  refine V.aload_n (pc := 72) (i := 0) hK rfl ⟨_, rfl⟩ dX7_step_72 ?_
  refine V.getI (pc := 73) hK fl_RX7_25 rfl (hL.1 35 _ ls_35) dX7_step_73 ?_
  obtain ⟨hb, h⟩ := v_ckS h
  refine V.iald (pc := 76) hK (hL.1 40 _ ls_40) (v_ibS hb) dX7_step_76 ?_
  refine V.putI (pc := 77) hK fl_RX7_32 rfl rfl ⟨rfl, rfl⟩ (hL.1 35 _ ls_35) dX7_step_77 ?_
  refine V.nmM (fun M2 eM2 => ?_)
  have h := v_lt eM2 h
  exact V.vret (pc := 80) hO dX7_step_80 (v_finV h)
set_option maxHeartbeats 4000000 in
set_option maxRecDepth 100000 in
theorem w_X7_step_L36 {E : v_E} {X : v_X} {sh : v_S} {P : v_P} {out : Int32 × v_M} (hL : v_Lay sh P) (hO : v_O E X cX7_step RX7 1 0 none "step" (v_Q1 (none) sh P out.2)) (N : Nat) (M : v_M) (h : f_X7_step_L36 N M = some out) : V E X (0, 0) 36 [(0, v_rf E 35)] [] sh P M := by
  have hK := hO.1
  unfold f_X7_step_L36 at h
  refine V.aload_n (pc := 36) (i := 0) hK rfl ⟨_, rfl⟩ dX7_step_36 ?_
  refine V.getI (pc := 37) hK fl_RX7_25 rfl (hL.1 35 _ ls_35) dX7_step_37 ?_
  refine V.if_ge (pc := 40) (tgt := 48) hK dX7_step_40 (by decide) (fun c => ?_) (fun c => ?_)
  · rw [if_pos c] at h
    refine V.pick [0] (l := [(0, _)]) rfl ?_
    exact w_X7_step_L48 hL hO N  _ h
  · rw [if_neg c] at h
    refine V.aload_n (pc := 43) (i := 0) hK rfl ⟨_, rfl⟩ dX7_step_43 ?_
    refine V.iconst (pc := 44) (v := 0) hK (by decide) dX7_step_44 ?_
    refine V.putI (pc := 45) hK fl_RX7_25 rfl rfl ⟨rfl, rfl⟩ (hL.1 35 _ ls_35) dX7_step_45 ?_
    refine V.nmM (fun M1 eM1 => ?_)
    have h := v_lt eM1 h
    refine V.pick [0] (l := [(0, _)]) rfl ?_
    exact w_X7_step_L48 hL hO N  _ h
set_option maxHeartbeats 4000000 in
set_option maxRecDepth 100000 in
theorem c_X7_step (E : v_E) {sh : v_S} {P : v_P} (hL : v_Lay sh P) (N : Nat) (M : v_M) {out : Int32 × v_M} (h : f_X7_step N M = some out) : v_Ct E 0 yX7_step cX7_step 1 none 0 0 [v_rf E 35] sh P M (v_Q1 (none) sh P out.2) := by
  refine v_Ct.of (by decide +kernel) (Nat.le_of_ble_eq_true rfl) (fun X hO => ?_)
  have hK : v_K E X cX7_step RX7 1 0 := hO.1
  have hO : v_O E X cX7_step RX7 1 0 none "step" (v_Q1 (none) sh P out.2) := hO
  show V E X (0, 0) 0 [(0, v_rf E 35)] [] sh P M
  unfold f_X7_step at h
  refine V.aload_n (pc := 0) (i := 0) hK rfl ⟨_, rfl⟩ dX7_step_0 ?_
  refine V.getI (pc := 1) hK fl_RX7_25 rfl (hL.1 35 _ ls_35) dX7_step_1 ?_
  refine V.iconst (pc := 4) (v := 1) hK (by decide) dX7_step_4 ?_
  refine V.iadd (pc := 5) hK dX7_step_5 ?_
  refine V.aload_n (pc := 6) (i := 0) hK rfl ⟨_, rfl⟩ dX7_step_6 ?_
  refine V.getR (pc := 7) hK fl_RX7_12 rfl (hL.1 35 _ ls_35) (hL.2 35 0 36 rfl) dX7_step_7 ?_
  refine V.getI (pc := 10) hK fl_RX7_61 rfl (hL.1 36 _ ls_36) dX7_step_10 ?_
  refine V.icmp_ge (pc := 13) (tgt := 36) hK dX7_step_13 (by decide) (fun c => ?_) (fun c => ?_)
  · rw [if_pos c] at h
    refine V.pick [0] (l := [(0, _)]) rfl ?_
    exact w_X7_step_L36 hL hO N  _ h
  · rw [if_neg c] at h
    refine V.aload_n (pc := 16) (i := 0) hK rfl ⟨_, rfl⟩ dX7_step_16 ?_
    refine V.getI (pc := 17) hK fl_RX7_25 rfl (hL.1 35 _ ls_35) dX7_step_17 ?_
    refine V.sipush (pc := 20) (v := 400) hK (by decide) dX7_step_20 ?_
    refine V.icmp_ge (pc := 23) (tgt := 36) hK dX7_step_23 (by decide) (fun c => ?_) (fun c => ?_)
    · rw [if_pos c] at h
      refine V.pick [0] (l := [(0, _)]) rfl ?_
      exact w_X7_step_L36 hL hO N  _ h
    · rw [if_neg c] at h
      refine V.aload_n (pc := 26) (i := 0) hK rfl ⟨_, rfl⟩ dX7_step_26 ?_
      refine V.dup (pc := 27) hK rfl dX7_step_27 ?_
      refine V.getI (pc := 28) hK fl_RX7_25 rfl (hL.1 35 _ ls_35) dX7_step_28 ?_
      refine V.iconst (pc := 31) (v := 1) hK (by decide) dX7_step_31 ?_
      refine V.iadd (pc := 32) hK dX7_step_32 ?_
      refine V.putI (pc := 33) hK fl_RX7_25 rfl rfl ⟨rfl, rfl⟩ (hL.1 35 _ ls_35) dX7_step_33 ?_
      refine V.nmM (fun M1 eM1 => ?_)
      have h := v_lt eM1 h
      refine V.pick [0] (l := [(0, _)]) rfl ?_
      exact w_X7_step_L36 hL hO N  _ h
set_option maxHeartbeats 4000000 in
set_option maxRecDepth 100000 in
theorem w_X7_readTest_L125 {E : v_E} {X : v_X} {sh : v_S} {P : v_P} {out : Int32 × v_M} (hL : v_Lay sh P) (qo : Nat) (hqo : v_Or sh P qo) (hro : P 35 1 = some qo) (dF : Nat) (rf : Int32 → v_M → Option (Int32 × v_M)) (hrf : ∀ (x : Int32) (M : v_M) (out : Int32 × v_M), rf x M = some out → v_Ct E dF yX7_readFact cX7_readFact 3 (some .boolean) 0 0 [v_rf E 35, .int x] sh P M (v_Q1 (some (.int out.1)) sh P out.2)) (hO : v_O E X cX7_readTest RX7 5 (dF + 1) (some .boolean) "readTest" (v_Q1 (some (.int out.1)) sh P out.2)) (N : Nat) (x2 : Int32) (M : v_M) (h : f_X7_readTest_L125 N qo rf x2 M = some out) : V E X (0, 0) 125 [(0, v_rf E 35), (2, .int x2)] [] sh P M := by
  have hK := hO.1
  unfold f_X7_readTest_L125 at h
  refine V.iload_n (pc := 125) (i := 2) hK rfl dX7_readTest_125 ?_
  refine V.if_eq (pc := 126) (tgt := 138) hK dX7_readTest_126 (by decide) (fun c => ?_) (fun c => ?_)
  · rw [if_pos c] at h
    refine V.iconst (pc := 138) (v := 1) hK (by decide) dX7_readTest_138 ?_
    obtain ⟨hb, h⟩ := v_ckS h
    exact V.zret (pc := 139) hO (v_z01 hb) dX7_readTest_139 (v_finI h)
  · rw [if_neg c] at h
    refine V.aload_n (pc := 129) (i := 0) hK rfl ⟨_, rfl⟩ dX7_readTest_129 ?_
    refine V.getR (pc := 130) hK fl_RX7_21 rfl (hL.1 35 _ ls_35) hro dX7_readTest_130 ?_
    refine V.bipush (pc := 133) (v := -17) hK (by decide) dX7_readTest_133 ?_
    obtain ⟨z1, hz1, h⟩ := v_bdS h
    refine V.cVv (pc := 135) (ci := 5) hK (c_X5_emit E hL N _ hqo _ _ hz1) Y_X5_emit cv_RX7_114 (by decide) rfl (hqo.1 0 _ rfl) dX7_readTest_135 (by omega) rfl (Nat.le_of_ble_eq_true rfl) ?_
    refine V.iconst (pc := 138) (v := 1) hK (by decide) dX7_readTest_138 ?_
    obtain ⟨hb, h⟩ := v_ckS h
    exact V.zret (pc := 139) hO (v_z01 hb) dX7_readTest_139 (v_finI h)
set_option maxHeartbeats 4000000 in
set_option maxRecDepth 100000 in
theorem w_X7_readTest_L119 {E : v_E} {X : v_X} {sh : v_S} {P : v_P} {out : Int32 × v_M} (hL : v_Lay sh P) (qo : Nat) (hqo : v_Or sh P qo) (hro : P 35 1 = some qo) (dF : Nat) (rf : Int32 → v_M → Option (Int32 × v_M)) (hrf : ∀ (x : Int32) (M : v_M) (out : Int32 × v_M), rf x M = some out → v_Ct E dF yX7_readFact cX7_readFact 3 (some .boolean) 0 0 [v_rf E 35, .int x] sh P M (v_Q1 (some (.int out.1)) sh P out.2)) (hO : v_O E X cX7_readTest RX7 5 (dF + 1) (some .boolean) "readTest" (v_Q1 (some (.int out.1)) sh P out.2)) (N : Nat) (k14 : Int32 → Int32 → Int32 → v_M → Option (Int32 × v_M)) (hk14 : ∀ (x1 : Int32) (x2 : Int32) (x3 : Int32) (M : v_M), k14 x1 x2 x3 M = some out → V E X (0, 0) 14 [(0, v_rf E 35), (1, .int x1), (2, .int x2), (3, .int x3)] [] sh P M) (x1 : Int32) (x2 : Int32) (x3 : Int32) (M : v_M) (h : f_X7_readTest_L119 N qo rf k14 x1 x2 x3 M = some out) : V E X (0, 0) 119 [(0, v_rf E 35), (1, .int x1), (2, .int x2), (3, .int x3)] [] sh P M := by
  have hK := hO.1
  unfold f_X7_readTest_L119 at h
  refine V.iinc (pc := 119) (i := 3) (v := 1) (lv' := [(0, _), (1, _), (2, _), (3, _)]) hK rfl (by decide) (by decide) rfl dX7_readTest_119 ?_
  refine V.goto (pc := 122) (tgt := 14) hK dX7_readTest_122 (by decide) ?_
  refine V.pick [0, 1, 2, 3] (l := [(0, _), (1, _), (2, _), (3, _)]) rfl ?_
  exact hk14 _ _ _ _ h
set_option maxHeartbeats 4000000 in
set_option maxRecDepth 100000 in
theorem w_X7_readTest_L90 {E : v_E} {X : v_X} {sh : v_S} {P : v_P} {out : Int32 × v_M} (hL : v_Lay sh P) (qo : Nat) (hqo : v_Or sh P qo) (hro : P 35 1 = some qo) (dF : Nat) (rf : Int32 → v_M → Option (Int32 × v_M)) (hrf : ∀ (x : Int32) (M : v_M) (out : Int32 × v_M), rf x M = some out → v_Ct E dF yX7_readFact cX7_readFact 3 (some .boolean) 0 0 [v_rf E 35, .int x] sh P M (v_Q1 (some (.int out.1)) sh P out.2)) (hO : v_O E X cX7_readTest RX7 5 (dF + 1) (some .boolean) "readTest" (v_Q1 (some (.int out.1)) sh P out.2)) (N : Nat) (k14 : Int32 → Int32 → Int32 → v_M → Option (Int32 × v_M)) (hk14 : ∀ (x1 : Int32) (x2 : Int32) (x3 : Int32) (M : v_M), k14 x1 x2 x3 M = some out → V E X (0, 0) 14 [(0, v_rf E 35), (1, .int x1), (2, .int x2), (3, .int x3)] [] sh P M) (x1 : Int32) (x3 : Int32) (x4 : Int32) (t0 : Int32) (M : v_M) (h : f_X7_readTest_L90 N qo rf k14 x1 x3 x4 t0 M = some out) : V E X (0, 0) 90 [(0, v_rf E 35), (1, .int x1), (3, .int x3), (4, .int x4)] [.int t0] sh P M := by
  have hK := hO.1
  unfold f_X7_readTest_L90 at h
  refine V.istore_n (pc := 90) (i := 2) (lv' := [(0, _), (1, _), (2, _), (3, _), (4, _)]) hK (by decide) rfl dX7_readTest_90 ?_
  refine V.aload_n (pc := 91) (i := 0) hK rfl ⟨_, rfl⟩ dX7_readTest_91 ?_
  obtain ⟨z1, hz1, h⟩ := v_bdS h
  refine V.cVv (pc := 92) (ci := 7) hK (c_X7_step E hL N _ hz1) Y_X7_step cv_RX7_47 (by decide) rfl (hL.1 35 _ ls_35) dX7_readTest_92 (by omega) rfl (Nat.le_of_ble_eq_true rfl) ?_
  refine V.aload_n (pc := 95) (i := 0) hK rfl ⟨_, rfl⟩ dX7_readTest_95 ?_
  refine V.iload_n (pc := 96) (i := 1) hK rfl dX7_readTest_96 ?_
  obtain ⟨z2, hz2, h⟩ := v_bdS h
  refine V.cV (pc := 97) (ci := 7) hK (hrf _ _ _ hz2) Y_X7_readFact cv_RX7_111 (by decide) rfl (hL.1 35 _ ls_35) dX7_readTest_97 (by omega) rfl (Nat.le_of_ble_eq_true rfl) ?_
  refine V.if_ne (pc := 100) (tgt := 105) hK dX7_readTest_100 (by decide) (fun c => ?_) (fun c => ?_)
  · rw [if_neg c] at h
    refine V.iload (pc := 105) (i := 4) hK rfl dX7_readTest_105 ?_
    refine V.if_eq (pc := 107) (tgt := 119) hK dX7_readTest_107 (by decide) (fun c => ?_) (fun c => ?_)
    · rw [if_pos c] at h
      refine V.pick [0, 1, 2, 3] (l := [(0, _), (1, _), (2, _), (3, _)]) rfl ?_
      exact w_X7_readTest_L119 hL qo hqo hro dF rf hrf hO N _ hk14 _ _ _ _ h
    · rw [if_neg c] at h
      refine V.aload_n (pc := 110) (i := 0) hK rfl ⟨_, rfl⟩ dX7_readTest_110 ?_
      refine V.getR (pc := 111) hK fl_RX7_21 rfl (hL.1 35 _ ls_35) hro dX7_readTest_111 ?_
      refine V.bipush (pc := 114) (v := -16) hK (by decide) dX7_readTest_114 ?_
      obtain ⟨z3, hz3, h⟩ := v_bdS h
      refine V.cVv (pc := 116) (ci := 5) hK (c_X5_emit E hL N _ hqo _ _ hz3) Y_X5_emit cv_RX7_114 (by decide) rfl (hqo.1 0 _ rfl) dX7_readTest_116 (by omega) rfl (Nat.le_of_ble_eq_true rfl) ?_
      refine V.pick [0, 1, 2, 3] (l := [(0, _), (1, _), (2, _), (3, _)]) rfl ?_
      exact w_X7_readTest_L119 hL qo hqo hro dF rf hrf hO N _ hk14 _ _ _ _ h
  · rw [if_pos c] at h
    refine V.iconst (pc := 103) (v := 0) hK (by decide) dX7_readTest_103 ?_
    obtain ⟨hb, h⟩ := v_ckS h
    exact V.zret (pc := 104) hO (v_z01 hb) dX7_readTest_104 (v_finI h)
set_option maxHeartbeats 4000000 in
set_option maxRecDepth 100000 in
theorem w_X7_readTest_L85 {E : v_E} {X : v_X} {sh : v_S} {P : v_P} {out : Int32 × v_M} (hL : v_Lay sh P) (qo : Nat) (hqo : v_Or sh P qo) (hro : P 35 1 = some qo) (dF : Nat) (rf : Int32 → v_M → Option (Int32 × v_M)) (hrf : ∀ (x : Int32) (M : v_M) (out : Int32 × v_M), rf x M = some out → v_Ct E dF yX7_readFact cX7_readFact 3 (some .boolean) 0 0 [v_rf E 35, .int x] sh P M (v_Q1 (some (.int out.1)) sh P out.2)) (hO : v_O E X cX7_readTest RX7 5 (dF + 1) (some .boolean) "readTest" (v_Q1 (some (.int out.1)) sh P out.2)) (N : Nat) (k14 : Int32 → Int32 → Int32 → v_M → Option (Int32 × v_M)) (hk14 : ∀ (x1 : Int32) (x2 : Int32) (x3 : Int32) (M : v_M), k14 x1 x2 x3 M = some out → V E X (0, 0) 14 [(0, v_rf E 35), (1, .int x1), (2, .int x2), (3, .int x3)] [] sh P M) (x1 : Int32) (x3 : Int32) (x4 : Int32) (M : v_M) (h : f_X7_readTest_L85 N qo rf k14 x1 x3 x4 M = some out) : V E X (0, 0) 85 [(0, v_rf E 35), (1, .int x1), (3, .int x3), (4, .int x4)] [] sh P M := by
  have hK := hO.1
  unfold f_X7_readTest_L85 at h
  refine V.iconst (pc := 85) (v := 1) hK (by decide) dX7_readTest_85 ?_
  refine V.goto (pc := 86) (tgt := 90) hK dX7_readTest_86 (by decide) ?_
  refine V.pick [0, 1, 3, 4] (l := [(0, _), (1, _), (3, _), (4, _)]) rfl ?_
  exact w_X7_readTest_L90 hL qo hqo hro dF rf hrf hO N _ hk14 _ _ _ _ _ h
set_option maxHeartbeats 4000000 in
set_option maxRecDepth 100000 in
theorem w_X7_readTest_L76 {E : v_E} {X : v_X} {sh : v_S} {P : v_P} {out : Int32 × v_M} (hL : v_Lay sh P) (qo : Nat) (hqo : v_Or sh P qo) (hro : P 35 1 = some qo) (dF : Nat) (rf : Int32 → v_M → Option (Int32 × v_M)) (hrf : ∀ (x : Int32) (M : v_M) (out : Int32 × v_M), rf x M = some out → v_Ct E dF yX7_readFact cX7_readFact 3 (some .boolean) 0 0 [v_rf E 35, .int x] sh P M (v_Q1 (some (.int out.1)) sh P out.2)) (hO : v_O E X cX7_readTest RX7 5 (dF + 1) (some .boolean) "readTest" (v_Q1 (some (.int out.1)) sh P out.2)) (N : Nat) (k14 : Int32 → Int32 → Int32 → v_M → Option (Int32 × v_M)) (hk14 : ∀ (x1 : Int32) (x2 : Int32) (x3 : Int32) (M : v_M), k14 x1 x2 x3 M = some out → V E X (0, 0) 14 [(0, v_rf E 35), (1, .int x1), (2, .int x2), (3, .int x3)] [] sh P M) (x1 : Int32) (x2 : Int32) (x3 : Int32) (x4 : Int32) (M : v_M) (h : f_X7_readTest_L76 N qo rf k14 x1 x2 x3 x4 M = some out) : V E X (0, 0) 76 [(0, v_rf E 35), (1, .int x1), (2, .int x2), (3, .int x3), (4, .int x4)] [] sh P M := by
  have hK := hO.1
  unfold f_X7_readTest_L76 at h
  refine V.iload_n (pc := 76) (i := 2) hK rfl dX7_readTest_76 ?_
  refine V.if_ne (pc := 77) (tgt := 85) hK dX7_readTest_77 (by decide) (fun c => ?_) (fun c => ?_)
  · rw [if_neg c] at h
    refine V.pick [0, 1, 3, 4] (l := [(0, _), (1, _), (3, _), (4, _)]) rfl ?_
    exact w_X7_readTest_L85 hL qo hqo hro dF rf hrf hO N _ hk14 _ _ _ _ h
  · rw [if_pos c] at h
    refine V.iload (pc := 80) (i := 4) hK rfl dX7_readTest_80 ?_
    refine V.if_ne (pc := 82) (tgt := 89) hK dX7_readTest_82 (by decide) (fun c => ?_) (fun c => ?_)
    · rw [if_neg c] at h
      refine V.iconst (pc := 89) (v := 0) hK (by decide) dX7_readTest_89 ?_
      refine V.pick [0, 1, 3, 4] (l := [(0, _), (1, _), (3, _), (4, _)]) rfl ?_
      exact w_X7_readTest_L90 hL qo hqo hro dF rf hrf hO N _ hk14 _ _ _ _ _ h
    · rw [if_pos c] at h
      refine V.pick [0, 1, 3, 4] (l := [(0, _), (1, _), (3, _), (4, _)]) rfl ?_
      exact w_X7_readTest_L85 hL qo hqo hro dF rf hrf hO N _ hk14 _ _ _ _ h
set_option maxHeartbeats 4000000 in
set_option maxRecDepth 100000 in
theorem w_X7_readTest_L56 {E : v_E} {X : v_X} {sh : v_S} {P : v_P} {out : Int32 × v_M} (hL : v_Lay sh P) (qo : Nat) (hqo : v_Or sh P qo) (hro : P 35 1 = some qo) (dF : Nat) (rf : Int32 → v_M → Option (Int32 × v_M)) (hrf : ∀ (x : Int32) (M : v_M) (out : Int32 × v_M), rf x M = some out → v_Ct E dF yX7_readFact cX7_readFact 3 (some .boolean) 0 0 [v_rf E 35, .int x] sh P M (v_Q1 (some (.int out.1)) sh P out.2)) (hO : v_O E X cX7_readTest RX7 5 (dF + 1) (some .boolean) "readTest" (v_Q1 (some (.int out.1)) sh P out.2)) (N : Nat) (k14 : Int32 → Int32 → Int32 → v_M → Option (Int32 × v_M)) (hk14 : ∀ (x1 : Int32) (x2 : Int32) (x3 : Int32) (M : v_M), k14 x1 x2 x3 M = some out → V E X (0, 0) 14 [(0, v_rf E 35), (1, .int x1), (2, .int x2), (3, .int x3)] [] sh P M) (x1 : Int32) (x2 : Int32) (x3 : Int32) (t0 : Int32) (M : v_M) (h : f_X7_readTest_L56 N qo rf k14 x1 x2 x3 t0 M = some out) : V E X (0, 0) 56 [(0, v_rf E 35), (1, .int x1), (2, .int x2), (3, .int x3)] [.int t0] sh P M := by
  have hK := hO.1
  unfold f_X7_readTest_L56 at h
  refine V.istore (pc := 56) (i := 4) (lv' := [(0, _), (1, _), (2, _), (3, _), (4, _)]) hK (by decide) rfl dX7_readTest_56 ?_
  refine V.iload (pc := 58) (i := 4) hK rfl dX7_readTest_58 ?_
  refine V.if_ne (pc := 60) (tgt := 76) hK dX7_readTest_60 (by decide) (fun c => ?_) (fun c => ?_)
  · rw [if_neg c] at h
    refine V.pick [0, 1, 2, 3, 4] (l := [(0, _), (1, _), (2, _), (3, _), (4, _)]) rfl ?_
    exact w_X7_readTest_L76 hL qo hqo hro dF rf hrf hO N _ hk14 _ _ _ _ _ h
  · rw [if_pos c] at h
    refine V.iload_n (pc := 63) (i := 2) hK rfl dX7_readTest_63 ?_
    refine V.if_eq (pc := 64) (tgt := 76) hK dX7_readTest_64 (by decide) (fun c => ?_) (fun c => ?_)
    · rw [if_pos c] at h
      refine V.pick [0, 1, 2, 3, 4] (l := [(0, _), (1, _), (2, _), (3, _), (4, _)]) rfl ?_
      exact w_X7_readTest_L76 hL qo hqo hro dF rf hrf hO N _ hk14 _ _ _ _ _ h
    · rw [if_neg c] at h
      refine V.aload_n (pc := 67) (i := 0) hK rfl ⟨_, rfl⟩ dX7_readTest_67 ?_
      refine V.getR (pc := 68) hK fl_RX7_21 rfl (hL.1 35 _ ls_35) hro dX7_readTest_68 ?_
      refine V.bipush (pc := 71) (v := -17) hK (by decide) dX7_readTest_71 ?_
      obtain ⟨z1, hz1, h⟩ := v_bdS h
      refine V.cVv (pc := 73) (ci := 5) hK (c_X5_emit E hL N _ hqo _ _ hz1) Y_X5_emit cv_RX7_114 (by decide) rfl (hqo.1 0 _ rfl) dX7_readTest_73 (by omega) rfl (Nat.le_of_ble_eq_true rfl) ?_
      refine V.pick [0, 1, 2, 3, 4] (l := [(0, _), (1, _), (2, _), (3, _), (4, _)]) rfl ?_
      exact w_X7_readTest_L76 hL qo hqo hro dF rf hrf hO N _ hk14 _ _ _ _ _ h
set_option maxHeartbeats 4000000 in
set_option maxRecDepth 100000 in
theorem w_X7_readTest_L41 {E : v_E} {X : v_X} {sh : v_S} {P : v_P} {out : Int32 × v_M} (hL : v_Lay sh P) (qo : Nat) (hqo : v_Or sh P qo) (hro : P 35 1 = some qo) (dF : Nat) (rf : Int32 → v_M → Option (Int32 × v_M)) (hrf : ∀ (x : Int32) (M : v_M) (out : Int32 × v_M), rf x M = some out → v_Ct E dF yX7_readFact cX7_readFact 3 (some .boolean) 0 0 [v_rf E 35, .int x] sh P M (v_Q1 (some (.int out.1)) sh P out.2)) (hO : v_O E X cX7_readTest RX7 5 (dF + 1) (some .boolean) "readTest" (v_Q1 (some (.int out.1)) sh P out.2)) (N : Nat) (k14 : Int32 → Int32 → Int32 → v_M → Option (Int32 × v_M)) (hk14 : ∀ (x1 : Int32) (x2 : Int32) (x3 : Int32) (M : v_M), k14 x1 x2 x3 M = some out → V E X (0, 0) 14 [(0, v_rf E 35), (1, .int x1), (2, .int x2), (3, .int x3)] [] sh P M) (x1 : Int32) (x2 : Int32) (x3 : Int32) (M : v_M) (h : f_X7_readTest_L41 N qo rf k14 x1 x2 x3 M = some out) : V E X (0, 0) 41 [(0, v_rf E 35), (1, .int x1), (2, .int x2), (3, .int x3)] [] sh P M := by
  have hK := hO.1
  unfold f_X7_readTest_L41 at h
  refine V.aload_n (pc := 41) (i := 0) hK rfl ⟨_, rfl⟩ dX7_readTest_41 ?_
  refine V.getI (pc := 42) hK fl_RX7_29 rfl (hL.1 35 _ ls_35) dX7_readTest_42 ?_
  refine V.sipush (pc := 45) (v := 278) hK (by decide) dX7_readTest_45 ?_
  refine V.icmp_ne (pc := 48) (tgt := 55) hK dX7_readTest_48 (by decide) (fun c => ?_) (fun c => ?_)
  · rw [if_neg c] at h
    refine V.iconst (pc := 55) (v := 0) hK (by decide) dX7_readTest_55 ?_
    refine V.pick [0, 1, 2, 3] (l := [(0, _), (1, _), (2, _), (3, _)]) rfl ?_
    exact w_X7_readTest_L56 hL qo hqo hro dF rf hrf hO N _ hk14 _ _ _ _ _ h
  · rw [if_pos c] at h
    refine V.iconst (pc := 51) (v := 1) hK (by decide) dX7_readTest_51 ?_
    refine V.goto (pc := 52) (tgt := 56) hK dX7_readTest_52 (by decide) ?_
    refine V.pick [0, 1, 2, 3] (l := [(0, _), (1, _), (2, _), (3, _)]) rfl ?_
    exact w_X7_readTest_L56 hL qo hqo hro dF rf hrf hO N _ hk14 _ _ _ _ _ h
set_option maxHeartbeats 4000000 in
set_option maxRecDepth 100000 in
theorem w_X7_readTest_L14 {E : v_E} {X : v_X} {sh : v_S} {P : v_P} {out : Int32 × v_M} (hL : v_Lay sh P) (qo : Nat) (hqo : v_Or sh P qo) (hro : P 35 1 = some qo) (dF : Nat) (rf : Int32 → v_M → Option (Int32 × v_M)) (hrf : ∀ (x : Int32) (M : v_M) (out : Int32 × v_M), rf x M = some out → v_Ct E dF yX7_readFact cX7_readFact 3 (some .boolean) 0 0 [v_rf E 35, .int x] sh P M (v_Q1 (some (.int out.1)) sh P out.2)) (hO : v_O E X cX7_readTest RX7 5 (dF + 1) (some .boolean) "readTest" (v_Q1 (some (.int out.1)) sh P out.2)) (N : Nat) (n : Nat) : ∀ (x1 : Int32) (x2 : Int32) (x3 : Int32) (M : v_M), f_X7_readTest_L14 N qo rf n x1 x2 x3 M = some out → V E X (0, 0) 14 [(0, v_rf E 35), (1, .int x1), (2, .int x2), (3, .int x3)] [] sh P M := by
  have hK := hO.1
  induction n with
  | zero => intro x1 x2 x3 M h; rw [f_X7_readTest_L14] at h; cases h
  | succ n ih =>
    intro x1 x2 x3 M h
    rw [f_X7_readTest_L14] at h
    refine V.iload_n (pc := 14) (i := 3) hK rfl dX7_readTest_14 ?_
    refine V.sipush (pc := 15) (v := 400) hK (by decide) dX7_readTest_15 ?_
    refine V.icmp_ge (pc := 18) (tgt := 125) hK dX7_readTest_18 (by decide) (fun c => ?_) (fun c => ?_)
    · rw [if_pos c] at h
      refine V.pick [0, 2] (l := [(0, _), (2, _)]) rfl ?_
      exact w_X7_readTest_L125 hL qo hqo hro dF rf hrf hO N _ _ h
    · rw [if_neg c] at h
      refine V.aload_n (pc := 21) (i := 0) hK rfl ⟨_, rfl⟩ dX7_readTest_21 ?_
      refine V.getI (pc := 22) hK fl_RX7_29 rfl (hL.1 35 _ ls_35) dX7_readTest_22 ?_
      refine V.sipush (pc := 25) (v := 278) hK (by decide) dX7_readTest_25 ?_
      refine V.icmp_eq (pc := 28) (tgt := 41) hK dX7_readTest_28 (by decide) (fun c => ?_) (fun c => ?_)
      · rw [if_pos c] at h
        refine V.pick [0, 1, 2, 3] (l := [(0, _), (1, _), (2, _), (3, _)]) rfl ?_
        exact w_X7_readTest_L41 hL qo hqo hro dF rf hrf hO N _ ih _ _ _ _ h
      · rw [if_neg c] at h
        refine V.aload_n (pc := 31) (i := 0) hK rfl ⟨_, rfl⟩ dX7_readTest_31 ?_
        refine V.getI (pc := 32) hK fl_RX7_29 rfl (hL.1 35 _ ls_35) dX7_readTest_32 ?_
        refine V.sipush (pc := 35) (v := 277) hK (by decide) dX7_readTest_35 ?_
        refine V.icmp_ne (pc := 38) (tgt := 125) hK dX7_readTest_38 (by decide) (fun c => ?_) (fun c => ?_)
        · rw [if_neg c] at h
          refine V.pick [0, 2] (l := [(0, _), (2, _)]) rfl ?_
          exact w_X7_readTest_L125 hL qo hqo hro dF rf hrf hO N _ _ h
        · rw [if_pos c] at h
          refine V.pick [0, 1, 2, 3] (l := [(0, _), (1, _), (2, _), (3, _)]) rfl ?_
          exact w_X7_readTest_L41 hL qo hqo hro dF rf hrf hO N _ ih _ _ _ _ h
set_option maxHeartbeats 4000000 in
set_option maxRecDepth 100000 in
theorem c_X7_readTest (E : v_E) {sh : v_S} {P : v_P} (hL : v_Lay sh P) (N : Nat) (qo : Nat) (hqo : v_Or sh P qo) (hro : P 35 1 = some qo) (dF : Nat) (rf : Int32 → v_M → Option (Int32 × v_M)) (hrf : ∀ (x : Int32) (M : v_M) (out : Int32 × v_M), rf x M = some out → v_Ct E dF yX7_readFact cX7_readFact 3 (some .boolean) 0 0 [v_rf E 35, .int x] sh P M (v_Q1 (some (.int out.1)) sh P out.2)) (x1 : Int32) (M : v_M) {out : Int32 × v_M} (h : f_X7_readTest N qo rf x1 M = some out) : v_Ct E (dF + 1) yX7_readTest cX7_readTest 5 (some .boolean) 0 0 [v_rf E 35, .int x1] sh P M (v_Q1 (some (.int out.1)) sh P out.2) := by
  refine v_Ct.of (by decide +kernel) (Nat.le_of_ble_eq_true rfl) (fun X hO => ?_)
  have hK : v_K E X cX7_readTest RX7 5 (dF + 1) := hO.1
  have hO : v_O E X cX7_readTest RX7 5 (dF + 1) (some .boolean) "readTest" (v_Q1 (some (.int out.1)) sh P out.2) := hO
  show V E X (0, 0) 0 [(0, v_rf E 35), (1, .int x1)] [] sh P M
  unfold f_X7_readTest at h
  refine V.aload_n (pc := 0) (i := 0) hK rfl ⟨_, rfl⟩ dX7_readTest_0 ?_
  refine V.iload_n (pc := 1) (i := 1) hK rfl dX7_readTest_1 ?_
  obtain ⟨z1, hz1, h⟩ := v_bdS h
  refine V.cV (pc := 2) (ci := 7) hK (hrf _ _ _ hz1) Y_X7_readFact cv_RX7_111 (by decide) rfl (hL.1 35 _ ls_35) dX7_readTest_2 (by omega) rfl (Nat.le_of_ble_eq_true rfl) ?_
  refine V.if_ne (pc := 5) (tgt := 10) hK dX7_readTest_5 (by decide) (fun c => ?_) (fun c => ?_)
  · rw [if_neg c] at h
    refine V.iconst (pc := 10) (v := 0) hK (by decide) dX7_readTest_10 ?_
    refine V.istore_n (pc := 11) (i := 2) (lv' := [(0, _), (1, _), (2, _)]) hK (by decide) rfl dX7_readTest_11 ?_
    refine V.iconst (pc := 12) (v := 0) hK (by decide) dX7_readTest_12 ?_
    refine V.istore_n (pc := 13) (i := 3) (lv' := [(0, _), (1, _), (2, _), (3, _)]) hK (by decide) rfl dX7_readTest_13 ?_
    refine V.pick [0, 1, 2, 3] (l := [(0, _), (1, _), (2, _), (3, _)]) rfl ?_
    exact w_X7_readTest_L14 hL qo hqo hro dF rf hrf hO N N _ _ _ _ h
  · rw [if_pos c] at h
    refine V.iconst (pc := 8) (v := 0) hK (by decide) dX7_readTest_8 ?_
    obtain ⟨hb, h⟩ := v_ckS h
    exact V.zret (pc := 9) hO (v_z01 hb) dX7_readTest_9 (v_finI h)
set_option maxHeartbeats 4000000 in
set_option maxRecDepth 100000 in
theorem w_X7_readInner_L57 {E : v_E} {X : v_X} {sh : v_S} {P : v_P} {out : Int32 × v_M} (hL : v_Lay sh P) (qo : Nat) (hqo : v_Or sh P qo) (hro : P 35 1 = some qo) (dF : Nat) (rf : Int32 → v_M → Option (Int32 × v_M)) (hrf : ∀ (x : Int32) (M : v_M) (out : Int32 × v_M), rf x M = some out → v_Ct E dF yX7_readFact cX7_readFact 3 (some .boolean) 0 0 [v_rf E 35, .int x] sh P M (v_Q1 (some (.int out.1)) sh P out.2)) (hO : v_O E X cX7_readInner RX7 3 (dF + 2) (some .boolean) "readInner" (v_Q1 (some (.int out.1)) sh P out.2)) (N : Nat) (x2 : Int32) (M : v_M) (h : f_X7_readInner_L57 N qo rf x2 M = some out) : V E X (0, 0) 57 [(0, v_rf E 35), (2, .int x2)] [] sh P M := by
  have hK := hO.1
  unfold f_X7_readInner_L57 at h
  refine V.iload_n (pc := 57) (i := 2) hK rfl dX7_readInner_57 ?_
  refine V.if_eq (pc := 58) (tgt := 72) hK dX7_readInner_58 (by decide) (fun c => ?_) (fun c => ?_)
  · rw [if_pos c] at h
    refine V.aload_n (pc := 72) (i := 0) hK rfl ⟨_, rfl⟩ dX7_readInner_72 ?_
    refine V.getI (pc := 73) hK fl_RX7_29 rfl (hL.1 35 _ ls_35) dX7_readInner_73 ?_
    refine V.bipush (pc := 76) (v := 93) hK (by decide) dX7_readInner_76 ?_
    refine V.icmp_eq (pc := 78) (tgt := 87) hK dX7_readInner_78 (by decide) (fun c => ?_) (fun c => ?_)
    · rw [if_pos c] at h
      refine V.aload_n (pc := 87) (i := 0) hK rfl ⟨_, rfl⟩ dX7_readInner_87 ?_
      obtain ⟨z1, hz1, h⟩ := v_bdS h
      refine V.cVv (pc := 88) (ci := 7) hK (c_X7_step E hL N _ hz1) Y_X7_step cv_RX7_47 (by decide) rfl (hL.1 35 _ ls_35) dX7_readInner_88 (by omega) rfl (Nat.le_of_ble_eq_true rfl) ?_
      refine V.iconst (pc := 91) (v := 1) hK (by decide) dX7_readInner_91 ?_
      obtain ⟨hb, h⟩ := v_ckS h
      exact V.zret (pc := 92) hO (v_z01 hb) dX7_readInner_92 (v_finI h)
    · rw [if_neg c] at h
      refine V.aload_n (pc := 81) (i := 0) hK rfl ⟨_, rfl⟩ dX7_readInner_81 ?_
      refine V.iconst (pc := 82) (v := 0) hK (by decide) dX7_readInner_82 ?_
      obtain ⟨z2, hz2, h⟩ := v_bdS h
      refine V.cV (pc := 83) (ci := 7) hK (c_X7_fail E hL N _ _ hz2) Y_X7_fail cv_RX7_54 (by decide) rfl (hL.1 35 _ ls_35) dX7_readInner_83 (by omega) rfl (Nat.le_of_ble_eq_true rfl) ?_
      obtain ⟨hb, h⟩ := v_ckS h
      exact V.zret (pc := 86) hO (v_z01 hb) dX7_readInner_86 (v_finI h)
  · rw [if_neg c] at h
    refine V.aload_n (pc := 61) (i := 0) hK rfl ⟨_, rfl⟩ dX7_readInner_61 ?_
    refine V.getR (pc := 62) hK fl_RX7_21 rfl (hL.1 35 _ ls_35) hro dX7_readInner_62 ?_
    refine V.bipush (pc := 65) (v := -8) hK (by decide) dX7_readInner_65 ?_
    obtain ⟨z3, hz3, h⟩ := v_bdS h
    refine V.cVv (pc := 67) (ci := 5) hK (c_X5_emit E hL N _ hqo _ _ hz3) Y_X5_emit cv_RX7_114 (by decide) rfl (hqo.1 0 _ rfl) dX7_readInner_67 (by omega) rfl (Nat.le_of_ble_eq_true rfl) ?_
    refine V.iconst (pc := 70) (v := 1) hK (by decide) dX7_readInner_70 ?_
    obtain ⟨hb, h⟩ := v_ckS h
    exact V.zret (pc := 71) hO (v_z01 hb) dX7_readInner_71 (v_finI h)
set_option maxHeartbeats 4000000 in
set_option maxRecDepth 100000 in
theorem w_X7_readInner_L27 {E : v_E} {X : v_X} {sh : v_S} {P : v_P} {out : Int32 × v_M} (hL : v_Lay sh P) (qo : Nat) (hqo : v_Or sh P qo) (hro : P 35 1 = some qo) (dF : Nat) (rf : Int32 → v_M → Option (Int32 × v_M)) (hrf : ∀ (x : Int32) (M : v_M) (out : Int32 × v_M), rf x M = some out → v_Ct E dF yX7_readFact cX7_readFact 3 (some .boolean) 0 0 [v_rf E 35, .int x] sh P M (v_Q1 (some (.int out.1)) sh P out.2)) (hO : v_O E X cX7_readInner RX7 3 (dF + 2) (some .boolean) "readInner" (v_Q1 (some (.int out.1)) sh P out.2)) (N : Nat) (x1 : Int32) (t0 : Int32) (M : v_M) (h : f_X7_readInner_L27 N qo rf x1 t0 M = some out) : V E X (0, 0) 27 [(0, v_rf E 35), (1, .int x1)] [.int t0] sh P M := by
  have hK := hO.1
  unfold f_X7_readInner_L27 at h
  refine V.istore_n (pc := 27) (i := 2) (lv' := [(0, _), (1, _), (2, _)]) hK (by decide) rfl dX7_readInner_27 ?_
  refine V.aload_n (pc := 28) (i := 0) hK rfl ⟨_, rfl⟩ dX7_readInner_28 ?_
  obtain ⟨z1, hz1, h⟩ := v_bdS h
  refine V.cVv (pc := 29) (ci := 7) hK (c_X7_step E hL N _ hz1) Y_X7_step cv_RX7_47 (by decide) rfl (hL.1 35 _ ls_35) dX7_readInner_29 (by omega) rfl (Nat.le_of_ble_eq_true rfl) ?_
  refine V.iload_n (pc := 32) (i := 2) hK rfl dX7_readInner_32 ?_
  refine V.if_eq (pc := 33) (tgt := 47) hK dX7_readInner_33 (by decide) (fun c => ?_) (fun c => ?_)
  · rw [if_pos c] at h
    refine V.aload_n (pc := 47) (i := 0) hK rfl ⟨_, rfl⟩ dX7_readInner_47 ?_
    refine V.iload_n (pc := 48) (i := 1) hK rfl dX7_readInner_48 ?_
    obtain ⟨z2, hz2, h⟩ := v_bdS h
    refine V.cV (pc := 49) (ci := 7) hK (c_X7_readTest E hL N _ hqo hro dF _ hrf _ _ hz2) Y_X7_readTest cv_RX7_85 (by decide) rfl (hL.1 35 _ ls_35) dX7_readInner_49 (by omega) rfl (Nat.le_of_ble_eq_true rfl) ?_
    refine V.if_ne (pc := 52) (tgt := 57) hK dX7_readInner_52 (by decide) (fun c => ?_) (fun c => ?_)
    · rw [if_neg c] at h
      refine V.pick [0, 2] (l := [(0, _), (2, _)]) rfl ?_
      exact w_X7_readInner_L57 hL qo hqo hro dF rf hrf hO N _ _ h
    · rw [if_pos c] at h
      refine V.iconst (pc := 55) (v := 0) hK (by decide) dX7_readInner_55 ?_
      obtain ⟨hb, h⟩ := v_ckS h
      exact V.zret (pc := 56) hO (v_z01 hb) dX7_readInner_56 (v_finI h)
  · rw [if_neg c] at h
    refine V.aload_n (pc := 36) (i := 0) hK rfl ⟨_, rfl⟩ dX7_readInner_36 ?_
    refine V.iload_n (pc := 37) (i := 1) hK rfl dX7_readInner_37 ?_
    obtain ⟨z3, hz3, h⟩ := v_bdS h
    refine V.cV (pc := 38) (ci := 7) hK (hrf _ _ _ hz3) Y_X7_readFact cv_RX7_111 (by decide) rfl (hL.1 35 _ ls_35) dX7_readInner_38 (by omega) rfl (Nat.le_of_ble_eq_true rfl) ?_
    refine V.if_ne (pc := 41) (tgt := 57) hK dX7_readInner_41 (by decide) (fun c => ?_) (fun c => ?_)
    · rw [if_neg c] at h
      refine V.pick [0, 2] (l := [(0, _), (2, _)]) rfl ?_
      exact w_X7_readInner_L57 hL qo hqo hro dF rf hrf hO N _ _ h
    · rw [if_pos c] at h
      refine V.goto (pc := 44) (tgt := 55) hK dX7_readInner_44 (by decide) ?_
      refine V.iconst (pc := 55) (v := 0) hK (by decide) dX7_readInner_55 ?_
      obtain ⟨hb, h⟩ := v_ckS h
      exact V.zret (pc := 56) hO (v_z01 hb) dX7_readInner_56 (v_finI h)
set_option maxHeartbeats 4000000 in
set_option maxRecDepth 100000 in
theorem c_X7_readInner (E : v_E) {sh : v_S} {P : v_P} (hL : v_Lay sh P) (N : Nat) (qo : Nat) (hqo : v_Or sh P qo) (hro : P 35 1 = some qo) (dF : Nat) (rf : Int32 → v_M → Option (Int32 × v_M)) (hrf : ∀ (x : Int32) (M : v_M) (out : Int32 × v_M), rf x M = some out → v_Ct E dF yX7_readFact cX7_readFact 3 (some .boolean) 0 0 [v_rf E 35, .int x] sh P M (v_Q1 (some (.int out.1)) sh P out.2)) (x1 : Int32) (M : v_M) {out : Int32 × v_M} (h : f_X7_readInner N qo rf x1 M = some out) : v_Ct E (dF + 2) yX7_readInner cX7_readInner 3 (some .boolean) 0 0 [v_rf E 35, .int x1] sh P M (v_Q1 (some (.int out.1)) sh P out.2) := by
  refine v_Ct.of (by decide +kernel) (Nat.le_of_ble_eq_true rfl) (fun X hO => ?_)
  have hK : v_K E X cX7_readInner RX7 3 (dF + 2) := hO.1
  have hO : v_O E X cX7_readInner RX7 3 (dF + 2) (some .boolean) "readInner" (v_Q1 (some (.int out.1)) sh P out.2) := hO
  show V E X (0, 0) 0 [(0, v_rf E 35), (1, .int x1)] [] sh P M
  unfold f_X7_readInner at h
  refine V.iload_n (pc := 0) (i := 1) hK rfl dX7_readInner_0 ?_
  refine V.bipush (pc := 1) (v := 10) hK (by decide) dX7_readInner_1 ?_
  refine V.icmp_le (pc := 3) (tgt := 12) hK dX7_readInner_3 (by decide) (fun c => ?_) (fun c => ?_)
  · rw [if_pos c] at h
    refine V.aload_n (pc := 12) (i := 0) hK rfl ⟨_, rfl⟩ dX7_readInner_12 ?_
    refine V.getI (pc := 13) hK fl_RX7_29 rfl (hL.1 35 _ ls_35) dX7_readInner_13 ?_
    refine V.sipush (pc := 16) (v := 279) hK (by decide) dX7_readInner_16 ?_
    refine V.icmp_ne (pc := 19) (tgt := 26) hK dX7_readInner_19 (by decide) (fun c => ?_) (fun c => ?_)
    · rw [if_neg c] at h
      refine V.iconst (pc := 26) (v := 0) hK (by decide) dX7_readInner_26 ?_
      refine V.pick [0, 1] (l := [(0, _), (1, _)]) rfl ?_
      exact w_X7_readInner_L27 hL qo hqo hro dF rf hrf hO N _ _ _ h
    · rw [if_pos c] at h
      refine V.iconst (pc := 22) (v := 1) hK (by decide) dX7_readInner_22 ?_
      refine V.goto (pc := 23) (tgt := 27) hK dX7_readInner_23 (by decide) ?_
      refine V.pick [0, 1] (l := [(0, _), (1, _)]) rfl ?_
      exact w_X7_readInner_L27 hL qo hqo hro dF rf hrf hO N _ _ _ h
  · rw [if_neg c] at h
    refine V.aload_n (pc := 6) (i := 0) hK rfl ⟨_, rfl⟩ dX7_readInner_6 ?_
    refine V.iconst (pc := 7) (v := 2) hK (by decide) dX7_readInner_7 ?_
    obtain ⟨z1, hz1, h⟩ := v_bdS h
    refine V.cV (pc := 8) (ci := 7) hK (c_X7_fail E hL N _ _ hz1) Y_X7_fail cv_RX7_54 (by decide) rfl (hL.1 35 _ ls_35) dX7_readInner_8 (by omega) rfl (Nat.le_of_ble_eq_true rfl) ?_
    obtain ⟨hb, h⟩ := v_ckS h
    exact V.zret (pc := 11) hO (v_z01 hb) dX7_readInner_11 (v_finI h)
set_option maxHeartbeats 4000000 in
set_option maxRecDepth 100000 in
theorem c_X7_comparing (E : v_E) {sh : v_S} {P : v_P} (hL : v_Lay sh P) (N : Nat) (M : v_M) {out : Int32 × v_M} (h : f_X7_comparing N M = some out) : v_Ct E 0 yX7_comparing cX7_comparing 1 (some .int) 0 0 [v_rf E 35] sh P M (v_Q1 (some (.int out.1)) sh P out.2) := by
  refine v_Ct.of (by decide +kernel) (Nat.le_of_ble_eq_true rfl) (fun X hO => ?_)
  have hK : v_K E X cX7_comparing RX7 1 0 := hO.1
  have hO : v_O E X cX7_comparing RX7 1 0 (some .int) "comparing" (v_Q1 (some (.int out.1)) sh P out.2) := hO
  show V E X (0, 0) 0 [(0, v_rf E 35)] [] sh P M
  unfold f_X7_comparing at h
  refine V.aload_n (pc := 0) (i := 0) hK rfl ⟨_, rfl⟩ dX7_comparing_0 ?_
  refine V.getI (pc := 1) hK fl_RX7_29 rfl (hL.1 35 _ ls_35) dX7_comparing_1 ?_
  by_cases c60 : (M.1 35 3) = (60 : Int32)
  · rw [if_pos c60] at h
    refine V.lookup (pc := 4) (off := 52) (tgt := 56) hK dX7_comparing_4 (by decide) (by rw [c60]; decide) (by decide) ?_
    refine V.bipush (pc := 56) (v := -11) hK (by decide) dX7_comparing_56 ?_
    exact V.iret (pc := 58) hO dX7_comparing_58 (v_finI h)
  · rw [if_neg c60] at h
    by_cases c61 : (M.1 35 3) = (61 : Int32)
    · rw [if_pos c61] at h
      refine V.lookup (pc := 4) (off := 58) (tgt := 62) hK dX7_comparing_4 (by decide) (by rw [c61]; decide) (by decide) ?_
      refine V.bipush (pc := 62) (v := -13) hK (by decide) dX7_comparing_62 ?_
      exact V.iret (pc := 64) hO dX7_comparing_64 (v_finI h)
    · rw [if_neg c61] at h
      by_cases c62 : (M.1 35 3) = (62 : Int32)
      · rw [if_pos c62] at h
        refine V.lookup (pc := 4) (off := 64) (tgt := 68) hK dX7_comparing_4 (by decide) (by rw [c62]; decide) (by decide) ?_
        refine V.bipush (pc := 68) (v := -15) hK (by decide) dX7_comparing_68 ?_
        exact V.iret (pc := 70) hO dX7_comparing_70 (v_finI h)
      · rw [if_neg c62] at h
        by_cases c257 : (M.1 35 3) = (257 : Int32)
        · rw [if_pos c257] at h
          refine V.lookup (pc := 4) (off := 55) (tgt := 59) hK dX7_comparing_4 (by decide) (by rw [c257]; decide) (by decide) ?_
          refine V.bipush (pc := 59) (v := -12) hK (by decide) dX7_comparing_59 ?_
          exact V.iret (pc := 61) hO dX7_comparing_61 (v_finI h)
        · rw [if_neg c257] at h
          by_cases c258 : (M.1 35 3) = (258 : Int32)
          · rw [if_pos c258] at h
            refine V.lookup (pc := 4) (off := 61) (tgt := 65) hK dX7_comparing_4 (by decide) (by rw [c258]; decide) (by decide) ?_
            refine V.bipush (pc := 65) (v := -14) hK (by decide) dX7_comparing_65 ?_
            exact V.iret (pc := 67) hO dX7_comparing_67 (v_finI h)
          · rw [if_neg c258] at h
            refine V.lookup (pc := 4) (off := 67) (tgt := 71) hK dX7_comparing_4 (by decide) (show (if (60 : Int) = Int32.toInt (M.1 35 3) then (52 : Int) else if (61 : Int) = Int32.toInt (M.1 35 3) then (58 : Int) else if (62 : Int) = Int32.toInt (M.1 35 3) then (64 : Int) else if (257 : Int) = Int32.toInt (M.1 35 3) then (55 : Int) else if (258 : Int) = Int32.toInt (M.1 35 3) then (61 : Int) else (67 : Int)) = 67 from by rw [if_neg (fun e => v_tne (by decide) c60 e.symm), if_neg (fun e => v_tne (by decide) c61 e.symm), if_neg (fun e => v_tne (by decide) c62 e.symm), if_neg (fun e => v_tne (by decide) c257 e.symm), if_neg (fun e => v_tne (by decide) c258 e.symm)]) (by decide) ?_
            refine V.iconst (pc := 71) (v := 0) hK (by decide) dX7_comparing_71 ?_
            exact V.iret (pc := 72) hO dX7_comparing_72 (v_finI h)
set_option maxHeartbeats 4000000 in
set_option maxRecDepth 100000 in
theorem w_X8_findTurn_L32 {E : v_E} {X : v_X} {sh : v_S} {P : v_P} {out : Int32 × v_M} (hL : v_Lay sh P) (hO : v_O E X cX8_findTurn RX8 4 0 (some .int) "findTurn" (v_Q1 (some (.int out.1)) sh P out.2)) (N : Nat) (k2 : Int32 → Int32 → Int32 → v_M → Option (Int32 × v_M)) (hk2 : ∀ (x1 : Int32) (x2 : Int32) (x3 : Int32) (M : v_M), k2 x1 x2 x3 M = some out → V E X (0, 0) 2 [(0, v_rf E 52), (1, .int x1), (2, .int x2), (3, .int x3)] [] sh P M) (x1 : Int32) (x2 : Int32) (x3 : Int32) (M : v_M) (h : f_X8_findTurn_L32 N k2 x1 x2 x3 M = some out) : V E X (0, 0) 32 [(0, v_rf E 52), (1, .int x1), (2, .int x2), (3, .int x3)] [] sh P M := by
  have hK := hO.1
  unfold f_X8_findTurn_L32 at h
  refine V.iinc (pc := 32) (i := 3) (v := 1) (lv' := [(0, _), (1, _), (2, _), (3, _)]) hK rfl (by decide) (by decide) rfl dX8_findTurn_32 ?_
  refine V.goto (pc := 35) (tgt := 2) hK dX8_findTurn_35 (by decide) ?_
  refine V.pick [0, 1, 2, 3] (l := [(0, _), (1, _), (2, _), (3, _)]) rfl ?_
  exact hk2 _ _ _ _ h
set_option maxHeartbeats 4000000 in
set_option maxRecDepth 100000 in
theorem w_X8_findTurn_L2 {E : v_E} {X : v_X} {sh : v_S} {P : v_P} {out : Int32 × v_M} (hL : v_Lay sh P) (hO : v_O E X cX8_findTurn RX8 4 0 (some .int) "findTurn" (v_Q1 (some (.int out.1)) sh P out.2)) (N : Nat) (n : Nat) : ∀ (x1 : Int32) (x2 : Int32) (x3 : Int32) (M : v_M), f_X8_findTurn_L2 N n x1 x2 x3 M = some out → V E X (0, 0) 2 [(0, v_rf E 52), (1, .int x1), (2, .int x2), (3, .int x3)] [] sh P M := by
  have hK := hO.1
  induction n with
  | zero => intro x1 x2 x3 M h; rw [f_X8_findTurn_L2] at h; cases h
  | succ n ih =>
    intro x1 x2 x3 M h
    rw [f_X8_findTurn_L2] at h
    refine V.iload_n (pc := 2) (i := 3) hK rfl dX8_findTurn_2 ?_
    refine V.aload_n (pc := 3) (i := 0) hK rfl ⟨_, rfl⟩ dX8_findTurn_3 ?_
    refine V.getI (pc := 4) hK fl_RX8_9 rfl (hL.1 52 _ ls_52) dX8_findTurn_4 ?_
    refine V.icmp_ge (pc := 7) (tgt := 38) hK dX8_findTurn_7 (by decide) (fun c => ?_) (fun c => ?_)
    · rw [if_pos c] at h
      refine V.aload_n (pc := 38) (i := 0) hK rfl ⟨_, rfl⟩ dX8_findTurn_38 ?_
      refine V.getI (pc := 39) hK fl_RX8_9 rfl (hL.1 52 _ ls_52) dX8_findTurn_39 ?_
      exact V.iret (pc := 42) hO dX8_findTurn_42 (v_finI h)
    · rw [if_neg c] at h
      refine V.aload_n (pc := 10) (i := 0) hK rfl ⟨_, rfl⟩ dX8_findTurn_10 ?_
      refine V.getR (pc := 11) hK fl_RX8_19 rfl (hL.1 52 _ ls_52) (hL.2 52 2 54 rfl) dX8_findTurn_11 ?_
      refine V.iload_n (pc := 14) (i := 3) hK rfl dX8_findTurn_14 ?_
      obtain ⟨hb, h⟩ := v_ckS h
      refine V.iald (pc := 15) hK (hL.1 54 _ ls_54) (v_ibS hb) dX8_findTurn_15 ?_
      refine V.iload_n (pc := 16) (i := 1) hK rfl dX8_findTurn_16 ?_
      refine V.icmp_ne (pc := 17) (tgt := 32) hK dX8_findTurn_17 (by decide) (fun c => ?_) (fun c => ?_)
      · rw [if_neg c] at h
        refine V.pick [0, 1, 2, 3] (l := [(0, _), (1, _), (2, _), (3, _)]) rfl ?_
        exact w_X8_findTurn_L32 hL hO N _ ih _ _ _ _ h
      · rw [if_pos c] at h
        refine V.aload_n (pc := 20) (i := 0) hK rfl ⟨_, rfl⟩ dX8_findTurn_20 ?_
        refine V.getR (pc := 21) hK fl_RX8_22 rfl (hL.1 52 _ ls_52) (hL.2 52 3 55 rfl) dX8_findTurn_21 ?_
        refine V.iload_n (pc := 24) (i := 3) hK rfl dX8_findTurn_24 ?_
        obtain ⟨hb, h⟩ := v_ckS h
        refine V.iald (pc := 25) hK (hL.1 55 _ ls_55) (v_ibS hb) dX8_findTurn_25 ?_
        refine V.iload_n (pc := 26) (i := 2) hK rfl dX8_findTurn_26 ?_
        refine V.icmp_ne (pc := 27) (tgt := 32) hK dX8_findTurn_27 (by decide) (fun c => ?_) (fun c => ?_)
        · rw [if_neg c] at h
          refine V.pick [0, 1, 2, 3] (l := [(0, _), (1, _), (2, _), (3, _)]) rfl ?_
          exact w_X8_findTurn_L32 hL hO N _ ih _ _ _ _ h
        · rw [if_pos c] at h
          refine V.iload_n (pc := 30) (i := 3) hK rfl dX8_findTurn_30 ?_
          exact V.iret (pc := 31) hO dX8_findTurn_31 (v_finI h)
set_option maxHeartbeats 4000000 in
set_option maxRecDepth 100000 in
theorem c_X8_findTurn (E : v_E) {sh : v_S} {P : v_P} (hL : v_Lay sh P) (N : Nat) (x1 : Int32) (x2 : Int32) (M : v_M) {out : Int32 × v_M} (h : f_X8_findTurn N x1 x2 M = some out) : v_Ct E 0 yX8_findTurn cX8_findTurn 4 (some .int) 0 0 [v_rf E 52, .int x1, .int x2] sh P M (v_Q1 (some (.int out.1)) sh P out.2) := by
  refine v_Ct.of (by decide +kernel) (Nat.le_of_ble_eq_true rfl) (fun X hO => ?_)
  have hK : v_K E X cX8_findTurn RX8 4 0 := hO.1
  have hO : v_O E X cX8_findTurn RX8 4 0 (some .int) "findTurn" (v_Q1 (some (.int out.1)) sh P out.2) := hO
  show V E X (0, 0) 0 [(0, v_rf E 52), (1, .int x1), (2, .int x2)] [] sh P M
  unfold f_X8_findTurn at h
  refine V.iconst (pc := 0) (v := 0) hK (by decide) dX8_findTurn_0 ?_
  refine V.istore_n (pc := 1) (i := 3) (lv' := [(0, _), (1, _), (2, _), (3, _)]) hK (by decide) rfl dX8_findTurn_1 ?_
  refine V.pick [0, 1, 2, 3] (l := [(0, _), (1, _), (2, _), (3, _)]) rfl ?_
  exact w_X8_findTurn_L2 hL hO N N _ _ _ _ h
set_option maxHeartbeats 4000000 in
set_option maxRecDepth 100000 in
theorem c_X8_putSeen (E : v_E) {sh : v_S} {P : v_P} (hL : v_Lay sh P) (N : Nat) (x1 : Int32) (x2 : Int32) (x3 : Int32) (M : v_M) {out : Int32 × v_M} (h : f_X8_putSeen N x1 x2 x3 M = some out) : v_Ct E 0 yX8_putSeen cX8_putSeen 4 (some .int) 0 0 [v_rf E 52, .int x1, .int x2, .int x3] sh P M (v_Q1 (some (.int out.1)) sh P out.2) := by
  refine v_Ct.of (by decide +kernel) (Nat.le_of_ble_eq_true rfl) (fun X hO => ?_)
  have hK : v_K E X cX8_putSeen RX8 4 0 := hO.1
  have hO : v_O E X cX8_putSeen RX8 4 0 (some .int) "putSeen" (v_Q1 (some (.int out.1)) sh P out.2) := hO
  show V E X (0, 0) 0 [(0, v_rf E 52), (1, .int x1), (2, .int x2), (3, .int x3)] [] sh P M
  unfold f_X8_putSeen at h
  refine V.aload_n (pc := 0) (i := 0) hK rfl ⟨_, rfl⟩ dX8_putSeen_0 ?_
  refine V.getI (pc := 1) hK fl_RX8_40 rfl (hL.1 52 _ ls_52) dX8_putSeen_1 ?_
  refine V.bipush (pc := 4) (v := 100) hK (by decide) dX8_putSeen_4 ?_
  refine V.icmp_lt (pc := 6) (tgt := 11) hK dX8_putSeen_6 (by decide) (fun c => ?_) (fun c => ?_)
  · rw [if_pos c] at h
    refine V.aload_n (pc := 11) (i := 0) hK rfl ⟨_, rfl⟩ dX8_putSeen_11 ?_
    refine V.getR (pc := 12) hK fl_RX8_43 rfl (hL.1 52 _ ls_52) (hL.2 52 10 61 rfl) dX8_putSeen_12 ?_
    refine V.aload_n (pc := 15) (i := 0) hK rfl ⟨_, rfl⟩ dX8_putSeen_15 ?_
    refine V.getI (pc := 16) hK fl_RX8_40 rfl (hL.1 52 _ ls_52) dX8_putSeen_16 ?_
    refine V.iload_n (pc := 19) (i := 1) hK rfl dX8_putSeen_19 ?_
    obtain ⟨hb, h⟩ := v_ckS h
    refine V.iast (pc := 20) hK (hL.1 61 _ ls_61) (v_ibS hb) dX8_putSeen_20 ?_
    refine V.nmM (fun M1 eM1 => ?_)
    have h := v_lt eM1 h
    refine V.aload_n (pc := 21) (i := 0) hK rfl ⟨_, rfl⟩ dX8_putSeen_21 ?_
    refine V.getR (pc := 22) hK fl_RX8_46 rfl (hL.1 52 _ ls_52) (hL.2 52 11 62 rfl) dX8_putSeen_22 ?_
    refine V.aload_n (pc := 25) (i := 0) hK rfl ⟨_, rfl⟩ dX8_putSeen_25 ?_
    refine V.getI (pc := 26) hK fl_RX8_40 rfl (hL.1 52 _ ls_52) dX8_putSeen_26 ?_
    refine V.iload_n (pc := 29) (i := 2) hK rfl dX8_putSeen_29 ?_
    obtain ⟨hb, h⟩ := v_ckS h
    refine V.iast (pc := 30) hK (hL.1 62 _ ls_62) (v_ibS hb) dX8_putSeen_30 ?_
    refine V.nmM (fun M2 eM2 => ?_)
    have h := v_lt eM2 h
    refine V.aload_n (pc := 31) (i := 0) hK rfl ⟨_, rfl⟩ dX8_putSeen_31 ?_
    refine V.getR (pc := 32) hK fl_RX8_49 rfl (hL.1 52 _ ls_52) (hL.2 52 12 63 rfl) dX8_putSeen_32 ?_
    refine V.aload_n (pc := 35) (i := 0) hK rfl ⟨_, rfl⟩ dX8_putSeen_35 ?_
    refine V.getI (pc := 36) hK fl_RX8_40 rfl (hL.1 52 _ ls_52) dX8_putSeen_36 ?_
    refine V.iload_n (pc := 39) (i := 3) hK rfl dX8_putSeen_39 ?_
    obtain ⟨hb, h⟩ := v_ckS h
    refine V.zast (pc := 40) hK (hL.1 63 _ ls_63) (v_ibS hb) dX8_putSeen_40 ?_
    refine V.nmM (fun M3 eM3 => ?_)
    have h := v_lt eM3 h
    refine V.aload_n (pc := 41) (i := 0) hK rfl ⟨_, rfl⟩ dX8_putSeen_41 ?_
    refine V.dup (pc := 42) hK rfl dX8_putSeen_42 ?_
    refine V.getI (pc := 43) hK fl_RX8_40 rfl (hL.1 52 _ ls_52) dX8_putSeen_43 ?_
    refine V.iconst (pc := 46) (v := 1) hK (by decide) dX8_putSeen_46 ?_
    refine V.iadd (pc := 47) hK dX8_putSeen_47 ?_
    refine V.putI (pc := 48) hK fl_RX8_40 rfl rfl ⟨rfl, rfl⟩ (hL.1 52 _ ls_52) dX8_putSeen_48 ?_
    refine V.nmM (fun M4 eM4 => ?_)
    have h := v_lt eM4 h
    refine V.aload_n (pc := 51) (i := 0) hK rfl ⟨_, rfl⟩ dX8_putSeen_51 ?_
    refine V.getI (pc := 52) hK fl_RX8_40 rfl (hL.1 52 _ ls_52) dX8_putSeen_52 ?_
    exact V.iret (pc := 55) hO dX8_putSeen_55 (v_finI h)
  · rw [if_neg c] at h
    refine V.iconst (pc := 9) (v := -1) hK (by decide) dX8_putSeen_9 ?_
    exact V.iret (pc := 10) hO dX8_putSeen_10 (v_finI h)
set_option maxHeartbeats 4000000 in
set_option maxRecDepth 100000 in
theorem w_X9_put_L3 {E : v_E} {X : v_X} {sh : v_S} {P : v_P} {out : Int32 × v_M} (hL : v_Lay sh P) (hO : v_O E X cX9_put RX9 3 0 none "put" (v_Q1 (none) sh P out.2)) (N : Nat) (n : Nat) : ∀ (x1 : Int32) (x2 : Int32) (M : v_M), f_X9_put_L3 N n x1 x2 M = some out → V E X (0, 0) 3 [(0, v_rf E 36), (1, .int x1), (2, .int x2)] [] sh P M := by
  have hK := hO.1
  induction n with
  | zero => intro x1 x2 M h; rw [f_X9_put_L3] at h; cases h
  | succ n ih =>
    intro x1 x2 M h
    rw [f_X9_put_L3] at h
    refine V.iload_n (pc := 3) (i := 2) hK rfl dX9_put_3 ?_
    refine V.if_lt (pc := 4) (tgt := 49) hK dX9_put_4 (by decide) (fun c => ?_) (fun c => ?_)
    · rw [if_pos c] at h
      exact V.vret (pc := 49) hO dX9_put_49 (v_finV h)
    · rw [if_neg c] at h
      refine V.aload_n (pc := 7) (i := 0) hK rfl ⟨_, rfl⟩ dX9_put_7 ?_
      refine V.getI (pc := 8) hK fl_RX9_9 rfl (hL.1 36 _ ls_36) dX9_put_8 ?_
      refine V.sipush (pc := 11) (v := 400) hK (by decide) dX9_put_11 ?_
      refine V.icmp_ge (pc := 14) (tgt := 49) hK dX9_put_14 (by decide) (fun c => ?_) (fun c => ?_)
      · rw [if_pos c] at h
        exact V.vret (pc := 49) hO dX9_put_49 (v_finV h)
      · rw [if_neg c] at h
        refine V.aload_n (pc := 17) (i := 0) hK rfl ⟨_, rfl⟩ dX9_put_17 ?_
        refine V.getR (pc := 18) hK fl_RX9_21 rfl (hL.1 36 _ ls_36) (hL.2 36 3 37 rfl) dX9_put_18 ?_
        refine V.aload_n (pc := 21) (i := 0) hK rfl ⟨_, rfl⟩ dX9_put_21 ?_
        refine V.getI (pc := 22) hK fl_RX9_9 rfl (hL.1 36 _ ls_36) dX9_put_22 ?_
        refine V.iload_n (pc := 25) (i := 1) hK rfl dX9_put_25 ?_
        refine V.iload_n (pc := 26) (i := 2) hK rfl dX9_put_26 ?_
        refine V.iushr (pc := 27) hK dX9_put_27 ?_
        refine V.sipush (pc := 28) (v := 255) hK (by decide) dX9_put_28 ?_
        refine V.iand (pc := 31) hK dX9_put_31 ?_
        obtain ⟨hb, h⟩ := v_ckS h
        refine V.iast (pc := 32) hK (hL.1 37 _ ls_37) (v_ibS hb) dX9_put_32 ?_
        refine V.nmM (fun M1 eM1 => ?_)
        have h := v_lt eM1 h
        refine V.aload_n (pc := 33) (i := 0) hK rfl ⟨_, rfl⟩ dX9_put_33 ?_
        refine V.dup (pc := 34) hK rfl dX9_put_34 ?_
        refine V.getI (pc := 35) hK fl_RX9_9 rfl (hL.1 36 _ ls_36) dX9_put_35 ?_
        refine V.iconst (pc := 38) (v := 1) hK (by decide) dX9_put_38 ?_
        refine V.iadd (pc := 39) hK dX9_put_39 ?_
        refine V.putI (pc := 40) hK fl_RX9_9 rfl rfl ⟨rfl, rfl⟩ (hL.1 36 _ ls_36) dX9_put_40 ?_
        refine V.nmM (fun M2 eM2 => ?_)
        have h := v_lt eM2 h
        refine V.iinc (pc := 43) (i := 2) (v := -8) (lv' := [(0, _), (1, _), (2, _)]) hK rfl (by decide) (by decide) rfl dX9_put_43 ?_
        refine V.goto (pc := 46) (tgt := 3) hK dX9_put_46 (by decide) ?_
        refine V.pick [0, 1, 2] (l := [(0, _), (1, _), (2, _)]) rfl ?_
        exact ih _ _ _ h
set_option maxHeartbeats 4000000 in
set_option maxRecDepth 100000 in
theorem c_X9_put (E : v_E) {sh : v_S} {P : v_P} (hL : v_Lay sh P) (N : Nat) (x1 : Int32) (M : v_M) {out : Int32 × v_M} (h : f_X9_put N x1 M = some out) : v_Ct E 0 yX9_put cX9_put 3 none 0 0 [v_rf E 36, .int x1] sh P M (v_Q1 (none) sh P out.2) := by
  refine v_Ct.of (by decide +kernel) (Nat.le_of_ble_eq_true rfl) (fun X hO => ?_)
  have hK : v_K E X cX9_put RX9 3 0 := hO.1
  have hO : v_O E X cX9_put RX9 3 0 none "put" (v_Q1 (none) sh P out.2) := hO
  show V E X (0, 0) 0 [(0, v_rf E 36), (1, .int x1)] [] sh P M
  unfold f_X9_put at h
  refine V.bipush (pc := 0) (v := 24) hK (by decide) dX9_put_0 ?_
  refine V.istore_n (pc := 2) (i := 2) (lv' := [(0, _), (1, _), (2, _)]) hK (by decide) rfl dX9_put_2 ?_
  refine V.pick [0, 1, 2] (l := [(0, _), (1, _), (2, _)]) rfl ?_
  exact w_X9_put_L3 hL hO N N _ _ _ h
set_option maxHeartbeats 4000000 in
set_option maxRecDepth 100000 in
theorem c_X9_byteAt (E : v_E) {sh : v_S} {P : v_P} (hL : v_Lay sh P) (N : Nat) (x1 : Int32) (M : v_M) {out : Int32 × v_M} (h : f_X9_byteAt N x1 M = some out) : v_Ct E 0 yX9_byteAt cX9_byteAt 2 (some .int) 0 0 [v_rf E 36, .int x1] sh P M (v_Q1 (some (.int out.1)) sh P out.2) := by
  refine v_Ct.of (by decide +kernel) (Nat.le_of_ble_eq_true rfl) (fun X hO => ?_)
  have hK : v_K E X cX9_byteAt RX9 2 0 := hO.1
  have hO : v_O E X cX9_byteAt RX9 2 0 (some .int) "byteAt" (v_Q1 (some (.int out.1)) sh P out.2) := hO
  show V E X (0, 0) 0 [(0, v_rf E 36), (1, .int x1)] [] sh P M
  unfold f_X9_byteAt at h
  refine V.iload_n (pc := 0) (i := 1) hK rfl dX9_byteAt_0 ?_
  refine V.if_lt (pc := 1) (tgt := 28) hK dX9_byteAt_1 (by decide) (fun c => ?_) (fun c => ?_)
  · rw [if_pos c] at h
    refine V.iconst (pc := 28) (v := -1) hK (by decide) dX9_byteAt_28 ?_
    exact V.iret (pc := 29) hO dX9_byteAt_29 (v_finI h)
  · rw [if_neg c] at h
    refine V.iload_n (pc := 4) (i := 1) hK rfl dX9_byteAt_4 ?_
    refine V.aload_n (pc := 5) (i := 0) hK rfl ⟨_, rfl⟩ dX9_byteAt_5 ?_
    refine V.getI (pc := 6) hK fl_RX9_9 rfl (hL.1 36 _ ls_36) dX9_byteAt_6 ?_
    refine V.icmp_ge (pc := 9) (tgt := 28) hK dX9_byteAt_9 (by decide) (fun c => ?_) (fun c => ?_)
    · rw [if_pos c] at h
      refine V.iconst (pc := 28) (v := -1) hK (by decide) dX9_byteAt_28 ?_
      exact V.iret (pc := 29) hO dX9_byteAt_29 (v_finI h)
    · rw [if_neg c] at h
      refine V.iload_n (pc := 12) (i := 1) hK rfl dX9_byteAt_12 ?_
      refine V.sipush (pc := 13) (v := 400) hK (by decide) dX9_byteAt_13 ?_
      refine V.icmp_ge (pc := 16) (tgt := 28) hK dX9_byteAt_16 (by decide) (fun c => ?_) (fun c => ?_)
      · rw [if_pos c] at h
        refine V.iconst (pc := 28) (v := -1) hK (by decide) dX9_byteAt_28 ?_
        exact V.iret (pc := 29) hO dX9_byteAt_29 (v_finI h)
      · rw [if_neg c] at h
        refine V.aload_n (pc := 19) (i := 0) hK rfl ⟨_, rfl⟩ dX9_byteAt_19 ?_
        refine V.getR (pc := 20) hK fl_RX9_21 rfl (hL.1 36 _ ls_36) (hL.2 36 3 37 rfl) dX9_byteAt_20 ?_
        refine V.iload_n (pc := 23) (i := 1) hK rfl dX9_byteAt_23 ?_
        obtain ⟨hb, h⟩ := v_ckS h
        refine V.iald (pc := 24) hK (hL.1 37 _ ls_37) (v_ibS hb) dX9_byteAt_24 ?_
        refine V.goto (pc := 25) (tgt := 29) hK dX9_byteAt_25 (by decide) ?_
        exact V.iret (pc := 29) hO dX9_byteAt_29 (v_finI h)
set_option maxHeartbeats 4000000 in
set_option maxRecDepth 100000 in
theorem w_X9_skipBlanks_L2 {E : v_E} {X : v_X} {sh : v_S} {P : v_P} {out : Int32 × v_M} (hL : v_Lay sh P) (hO : v_O E X cX9_skipBlanks RX9 2 1 none "skipBlanks" (v_Q1 (none) sh P out.2)) (N : Nat) (n : Nat) : ∀ (x1 : Int32) (M : v_M), f_X9_skipBlanks_L2 N n x1 M = some out → V E X (0, 0) 2 [(0, v_rf E 36), (1, .int x1)] [] sh P M := by
  have hK := hO.1
  induction n with
  | zero => intro x1 M h; rw [f_X9_skipBlanks_L2] at h; cases h
  | succ n ih =>
    intro x1 M h
    rw [f_X9_skipBlanks_L2] at h
    refine V.iload_n (pc := 2) (i := 1) hK rfl dX9_skipBlanks_2 ?_
    refine V.sipush (pc := 3) (v := 400) hK (by decide) dX9_skipBlanks_3 ?_
    refine V.icmp_ge (pc := 6) (tgt := 38) hK dX9_skipBlanks_6 (by decide) (fun c => ?_) (fun c => ?_)
    · rw [if_pos c] at h
      exact V.vret (pc := 38) hO dX9_skipBlanks_38 (v_finV h)
    · rw [if_neg c] at h
      refine V.aload_n (pc := 9) (i := 0) hK rfl ⟨_, rfl⟩ dX9_skipBlanks_9 ?_
      refine V.aload_n (pc := 10) (i := 0) hK rfl ⟨_, rfl⟩ dX9_skipBlanks_10 ?_
      refine V.getI (pc := 11) hK fl_RX9_18 rfl (hL.1 36 _ ls_36) dX9_skipBlanks_11 ?_
      obtain ⟨z1, hz1, h⟩ := v_bdS h
      refine V.cV (pc := 14) (ci := 9) hK (c_X9_byteAt E hL N _ _ hz1) Y_X9_byteAt cv_RX9_41 (by decide) rfl (hL.1 36 _ ls_36) dX9_skipBlanks_14 (by decide) rfl (Nat.le_of_ble_eq_true rfl) ?_
      refine V.bipush (pc := 17) (v := 32) hK (by decide) dX9_skipBlanks_17 ?_
      refine V.icmp_ne (pc := 19) (tgt := 38) hK dX9_skipBlanks_19 (by decide) (fun c => ?_) (fun c => ?_)
      · rw [if_neg c] at h
        exact V.vret (pc := 38) hO dX9_skipBlanks_38 (v_finV h)
      · rw [if_pos c] at h
        refine V.aload_n (pc := 22) (i := 0) hK rfl ⟨_, rfl⟩ dX9_skipBlanks_22 ?_
        refine V.dup (pc := 23) hK rfl dX9_skipBlanks_23 ?_
        refine V.getI (pc := 24) hK fl_RX9_18 rfl (hL.1 36 _ ls_36) dX9_skipBlanks_24 ?_
        refine V.iconst (pc := 27) (v := 1) hK (by decide) dX9_skipBlanks_27 ?_
        refine V.iadd (pc := 28) hK dX9_skipBlanks_28 ?_
        refine V.putI (pc := 29) hK fl_RX9_18 rfl rfl ⟨rfl, rfl⟩ (hL.1 36 _ ls_36) dX9_skipBlanks_29 ?_
        refine V.nmM (fun M2 eM2 => ?_)
        have h := v_lt eM2 h
        refine V.iinc (pc := 32) (i := 1) (v := 1) (lv' := [(0, _), (1, _)]) hK rfl (by decide) (by decide) rfl dX9_skipBlanks_32 ?_
        refine V.goto (pc := 35) (tgt := 2) hK dX9_skipBlanks_35 (by decide) ?_
        refine V.pick [0, 1] (l := [(0, _), (1, _)]) rfl ?_
        exact ih _ _ h
set_option maxHeartbeats 4000000 in
set_option maxRecDepth 100000 in
theorem c_X9_skipBlanks (E : v_E) {sh : v_S} {P : v_P} (hL : v_Lay sh P) (N : Nat) (M : v_M) {out : Int32 × v_M} (h : f_X9_skipBlanks N M = some out) : v_Ct E 1 yX9_skipBlanks cX9_skipBlanks 2 none 0 0 [v_rf E 36] sh P M (v_Q1 (none) sh P out.2) := by
  refine v_Ct.of (by decide +kernel) (Nat.le_of_ble_eq_true rfl) (fun X hO => ?_)
  have hK : v_K E X cX9_skipBlanks RX9 2 1 := hO.1
  have hO : v_O E X cX9_skipBlanks RX9 2 1 none "skipBlanks" (v_Q1 (none) sh P out.2) := hO
  show V E X (0, 0) 0 [(0, v_rf E 36)] [] sh P M
  unfold f_X9_skipBlanks at h
  refine V.iconst (pc := 0) (v := 0) hK (by decide) dX9_skipBlanks_0 ?_
  refine V.istore_n (pc := 1) (i := 1) (lv' := [(0, _), (1, _)]) hK (by decide) rfl dX9_skipBlanks_1 ?_
  refine V.pick [0, 1] (l := [(0, _), (1, _)]) rfl ?_
  exact w_X9_skipBlanks_L2 hL hO N N _ _ h
set_option maxHeartbeats 4000000 in
set_option maxRecDepth 100000 in
theorem w_X9_isSame_L2 {E : v_E} {X : v_X} {sh : v_S} {P : v_P} {out : Int32 × v_M} (hL : v_Lay sh P) (hO : v_O E X cX9_isSame RX9 5 4 (some .boolean) "isSame" (v_Q1 (some (.int out.1)) sh P out.2)) (N : Nat) (n : Nat) : ∀ (x1 : Int32) (x2 : Int32) (x3 : Int32) (M : v_M), f_X9_isSame_L2 N n x1 x2 x3 M = some out → V E X (0, 0) 2 [(0, v_rf E 36), (1, .int x1), (2, .int x2), (3, .int x3)] [] sh P M := by
  have hK := hO.1
  induction n with
  | zero => intro x1 x2 x3 M h; rw [f_X9_isSame_L2] at h; cases h
  | succ n ih =>
    intro x1 x2 x3 M h
    rw [f_X9_isSame_L2] at h
    refine V.iload_n (pc := 2) (i := 3) hK rfl dX9_isSame_2 ?_
    refine V.aload_n (pc := 3) (i := 0) hK rfl ⟨_, rfl⟩ dX9_isSame_3 ?_
    refine V.getI (pc := 4) hK fl_RX9_18 rfl (hL.1 36 _ ls_36) dX9_isSame_4 ?_
    refine V.icmp_ge (pc := 7) (tgt := 50) hK dX9_isSame_7 (by decide) (fun c => ?_) (fun c => ?_)
    · rw [if_pos c] at h
      refine V.iconst (pc := 50) (v := 1) hK (by decide) dX9_isSame_50 ?_
      obtain ⟨hb, h⟩ := v_ckS h
      exact V.zret (pc := 51) hO (v_z01 hb) dX9_isSame_51 (v_finI h)
    · rw [if_neg c] at h
      refine V.iload_n (pc := 10) (i := 1) hK rfl dX9_isSame_10 ?_
      refine V.iload_n (pc := 11) (i := 3) hK rfl dX9_isSame_11 ?_
      refine V.iadd (pc := 12) hK dX9_isSame_12 ?_
      refine V.iload_n (pc := 13) (i := 2) hK rfl dX9_isSame_13 ?_
      refine V.isub (pc := 14) hK dX9_isSame_14 ?_
      refine V.topi (fun y1 ey1 => ?_)
      have h := v_lt ey1 h
      refine V.istore (pc := 15) (i := 4) (lv' := [(0, _), (1, _), (2, _), (3, _), (4, _)]) hK (by decide) rfl dX9_isSame_15 ?_
      refine V.iload (pc := 17) (i := 4) hK rfl dX9_isSame_17 ?_
      refine V.ldcS (pc := 19) (i := 0) hK (show v_sx[0]? = some (RX9, _, _) from rfl) dX9_isSame_19 ?_
      obtain ⟨z2, hz2, h⟩ := v_bdS h
      refine V.cStr (pc := 21) hK (c_J0_length_8abf5 E hL N _ _ hz2) Y_J0_length_8abf5 cv_RX9_60 rfl (lt_J0_length_8abf5 hz2) dX9_isSame_21 (by decide) rfl (Nat.le_of_ble_eq_true rfl) ?_
      refine V.icmp_ge (pc := 24) (tgt := 42) hK dX9_isSame_24 (by decide) (fun c => ?_) (fun c => ?_)
      · rw [if_pos c] at h
        refine V.iconst (pc := 42) (v := 0) hK (by decide) dX9_isSame_42 ?_
        obtain ⟨hb, h⟩ := v_ckS h
        exact V.zret (pc := 43) hO (v_z01 hb) dX9_isSame_43 (v_finI h)
      · rw [if_neg c] at h
        refine V.ldcS (pc := 27) (i := 0) hK (show v_sx[0]? = some (RX9, _, _) from rfl) dX9_isSame_27 ?_
        refine V.iload (pc := 29) (i := 4) hK rfl dX9_isSame_29 ?_
        obtain ⟨z3, hz3, h⟩ := v_bdS h
        refine V.cStr (pc := 31) hK (c_J0_charAt_5068e E hL N _ _ _ hz3) Y_J0_charAt_5068e cv_RX9_64 rfl (lt_J0_charAt_5068e hz3) dX9_isSame_31 (by decide) rfl (Nat.le_of_ble_eq_true rfl) ?_
        refine V.aload_n (pc := 34) (i := 0) hK rfl ⟨_, rfl⟩ dX9_isSame_34 ?_
        refine V.iload_n (pc := 35) (i := 3) hK rfl dX9_isSame_35 ?_
        obtain ⟨z4, hz4, h⟩ := v_bdS h
        refine V.cV (pc := 36) (ci := 9) hK (c_X9_byteAt E hL N _ _ hz4) Y_X9_byteAt cv_RX9_41 (by decide) rfl (hL.1 36 _ ls_36) dX9_isSame_36 (by decide) rfl (Nat.le_of_ble_eq_true rfl) ?_
        refine V.icmp_eq (pc := 39) (tgt := 44) hK dX9_isSame_39 (by decide) (fun c => ?_) (fun c => ?_)
        · rw [if_pos c] at h
          refine V.iinc (pc := 44) (i := 3) (v := 1) (lv' := [(0, _), (1, _), (2, _), (3, _), (4, _)]) hK rfl (by decide) (by decide) rfl dX9_isSame_44 ?_
          refine V.goto (pc := 47) (tgt := 2) hK dX9_isSame_47 (by decide) ?_
          refine V.pick [0, 1, 2, 3] (l := [(0, _), (1, _), (2, _), (3, _)]) rfl ?_
          exact ih _ _ _ _ h
        · rw [if_neg c] at h
          refine V.iconst (pc := 42) (v := 0) hK (by decide) dX9_isSame_42 ?_
          obtain ⟨hb, h⟩ := v_ckS h
          exact V.zret (pc := 43) hO (v_z01 hb) dX9_isSame_43 (v_finI h)
set_option maxHeartbeats 4000000 in
set_option maxRecDepth 100000 in
theorem c_X9_isSame (E : v_E) {sh : v_S} {P : v_P} (hL : v_Lay sh P) (N : Nat) (x1 : Int32) (x2 : Int32) (M : v_M) {out : Int32 × v_M} (h : f_X9_isSame N x1 x2 M = some out) : v_Ct E 4 yX9_isSame cX9_isSame 5 (some .boolean) 0 0 [v_rf E 36, .int x1, .int x2] sh P M (v_Q1 (some (.int out.1)) sh P out.2) := by
  refine v_Ct.of (by decide +kernel) (Nat.le_of_ble_eq_true rfl) (fun X hO => ?_)
  have hK : v_K E X cX9_isSame RX9 5 4 := hO.1
  have hO : v_O E X cX9_isSame RX9 5 4 (some .boolean) "isSame" (v_Q1 (some (.int out.1)) sh P out.2) := hO
  show V E X (0, 0) 0 [(0, v_rf E 36), (1, .int x1), (2, .int x2)] [] sh P M
  unfold f_X9_isSame at h
  refine V.iload_n (pc := 0) (i := 2) hK rfl dX9_isSame_0 ?_
  refine V.istore_n (pc := 1) (i := 3) (lv' := [(0, _), (1, _), (2, _), (3, _)]) hK (by decide) rfl dX9_isSame_1 ?_
  refine V.pick [0, 1, 2, 3] (l := [(0, _), (1, _), (2, _), (3, _)]) rfl ?_
  exact w_X9_isSame_L2 hL hO N N _ _ _ _ h
set_option maxHeartbeats 4000000 in
set_option maxRecDepth 100000 in
theorem c_X9_isDigit (E : v_E) {sh : v_S} {P : v_P} (hL : v_Lay sh P) (N : Nat) (x0 : Int32) (M : v_M) {out : Int32 × v_M} (h : f_X9_isDigit N x0 M = some out) : v_Ct E 0 yX9_isDigit cX9_isDigit 1 (some .boolean) 0 0 [.int x0] sh P M (v_Q1 (some (.int out.1)) sh P out.2) := by
  refine v_Ct.of (by decide +kernel) (Nat.le_of_ble_eq_true rfl) (fun X hO => ?_)
  have hK : v_K E X cX9_isDigit RX9 1 0 := hO.1
  have hO : v_O E X cX9_isDigit RX9 1 0 (some .boolean) "isDigit" (v_Q1 (some (.int out.1)) sh P out.2) := hO
  show V E X (0, 0) 0 [(0, .int x0)] [] sh P M
  unfold f_X9_isDigit at h
  refine V.iload_n (pc := 0) (i := 0) hK rfl dX9_isDigit_0 ?_
  refine V.bipush (pc := 1) (v := 48) hK (by decide) dX9_isDigit_1 ?_
  refine V.icmp_lt (pc := 3) (tgt := 16) hK dX9_isDigit_3 (by decide) (fun c => ?_) (fun c => ?_)
  · rw [if_pos c] at h
    refine V.iconst (pc := 16) (v := 0) hK (by decide) dX9_isDigit_16 ?_
    obtain ⟨hb, h⟩ := v_ckS h
    exact V.zret (pc := 17) hO (v_z01 hb) dX9_isDigit_17 (v_finI h)
  · rw [if_neg c] at h
    refine V.iload_n (pc := 6) (i := 0) hK rfl dX9_isDigit_6 ?_
    refine V.bipush (pc := 7) (v := 57) hK (by decide) dX9_isDigit_7 ?_
    refine V.icmp_gt (pc := 9) (tgt := 16) hK dX9_isDigit_9 (by decide) (fun c => ?_) (fun c => ?_)
    · rw [if_pos c] at h
      refine V.iconst (pc := 16) (v := 0) hK (by decide) dX9_isDigit_16 ?_
      obtain ⟨hb, h⟩ := v_ckS h
      exact V.zret (pc := 17) hO (v_z01 hb) dX9_isDigit_17 (v_finI h)
    · rw [if_neg c] at h
      refine V.iconst (pc := 12) (v := 1) hK (by decide) dX9_isDigit_12 ?_
      refine V.goto (pc := 13) (tgt := 17) hK dX9_isDigit_13 (by decide) ?_
      obtain ⟨hb, h⟩ := v_ckS h
      exact V.zret (pc := 17) hO (v_z01 hb) dX9_isDigit_17 (v_finI h)
set_option maxHeartbeats 4000000 in
set_option maxRecDepth 100000 in
theorem c_X9_isLetter (E : v_E) {sh : v_S} {P : v_P} (hL : v_Lay sh P) (N : Nat) (x0 : Int32) (M : v_M) {out : Int32 × v_M} (h : f_X9_isLetter N x0 M = some out) : v_Ct E 0 yX9_isLetter cX9_isLetter 1 (some .boolean) 0 0 [.int x0] sh P M (v_Q1 (some (.int out.1)) sh P out.2) := by
  refine v_Ct.of (by decide +kernel) (Nat.le_of_ble_eq_true rfl) (fun X hO => ?_)
  have hK : v_K E X cX9_isLetter RX9 1 0 := hO.1
  have hO : v_O E X cX9_isLetter RX9 1 0 (some .boolean) "isLetter" (v_Q1 (some (.int out.1)) sh P out.2) := hO
  show V E X (0, 0) 0 [(0, .int x0)] [] sh P M
  unfold f_X9_isLetter at h
  refine V.iload_n (pc := 0) (i := 0) hK rfl dX9_isLetter_0 ?_
  refine V.bipush (pc := 1) (v := 97) hK (by decide) dX9_isLetter_1 ?_
  refine V.icmp_lt (pc := 3) (tgt := 16) hK dX9_isLetter_3 (by decide) (fun c => ?_) (fun c => ?_)
  · rw [if_pos c] at h
    refine V.iconst (pc := 16) (v := 0) hK (by decide) dX9_isLetter_16 ?_
    obtain ⟨hb, h⟩ := v_ckS h
    exact V.zret (pc := 17) hO (v_z01 hb) dX9_isLetter_17 (v_finI h)
  · rw [if_neg c] at h
    refine V.iload_n (pc := 6) (i := 0) hK rfl dX9_isLetter_6 ?_
    refine V.bipush (pc := 7) (v := 122) hK (by decide) dX9_isLetter_7 ?_
    refine V.icmp_gt (pc := 9) (tgt := 16) hK dX9_isLetter_9 (by decide) (fun c => ?_) (fun c => ?_)
    · rw [if_pos c] at h
      refine V.iconst (pc := 16) (v := 0) hK (by decide) dX9_isLetter_16 ?_
      obtain ⟨hb, h⟩ := v_ckS h
      exact V.zret (pc := 17) hO (v_z01 hb) dX9_isLetter_17 (v_finI h)
    · rw [if_neg c] at h
      refine V.iconst (pc := 12) (v := 1) hK (by decide) dX9_isLetter_12 ?_
      refine V.goto (pc := 13) (tgt := 17) hK dX9_isLetter_13 (by decide) ?_
      obtain ⟨hb, h⟩ := v_ckS h
      exact V.zret (pc := 17) hO (v_z01 hb) dX9_isLetter_17 (v_finI h)
set_option maxHeartbeats 4000000 in
set_option maxRecDepth 100000 in
theorem w_X10_queueHolders_L70 {E : v_E} {X : v_X} {sh : v_S} {P : v_P} {out : Int32 × v_M} (hL : v_Lay sh P) (hO : v_O E X cX10_queueHolders RX10 8 0 (some .int) "queueHolders" (v_Q1 (some (.int out.1)) sh P out.2)) (N : Nat) (k14 : Int32 → Int32 → Int32 → v_M → Option (Int32 × v_M)) (hk14 : ∀ (x4 : Int32) (x5 : Int32) (x6 : Int32) (M : v_M), k14 x4 x5 x6 M = some out → V E X (0, 0) 14 [(0, v_rf E 64), (1, v_rf E 52), (4, .int x4), (5, .int x5), (6, .int x6)] [] sh P M) (x4 : Int32) (x5 : Int32) (x6 : Int32) (M : v_M) (h : f_X10_queueHolders_L70 N k14 x4 x5 x6 M = some out) : V E X (0, 0) 70 [(0, v_rf E 64), (1, v_rf E 52), (4, .int x4), (5, .int x5), (6, .int x6)] [] sh P M := by
  have hK := hO.1
  unfold f_X10_queueHolders_L70 at h
  refine V.aload_n (pc := 70) (i := 1) hK rfl ⟨_, rfl⟩ dX10_queueHolders_70 ?_
  refine V.getR (pc := 71) hK fl_RX10_107 rfl (hL.1 52 _ ls_52) (hL.2 52 6 58 rfl) dX10_queueHolders_71 ?_
  refine V.iload (pc := 74) (i := 5) hK rfl dX10_queueHolders_74 ?_
  obtain ⟨hb, h⟩ := v_ckS h
  refine V.iald (pc := 76) hK (hL.1 58 _ ls_58) (v_ibS hb) dX10_queueHolders_76 ?_
  refine V.topi (fun y1 ey1 => ?_)
  have h := v_lt ey1 h
  refine V.istore (pc := 77) (i := 5) (lv' := [(0, _), (1, _), (4, _), (5, _), (6, _)]) hK (by decide) rfl dX10_queueHolders_77 ?_
  refine V.iinc (pc := 79) (i := 6) (v := 1) (lv' := [(0, _), (1, _), (4, _), (5, _), (6, _)]) hK rfl (by decide) (by decide) rfl dX10_queueHolders_79 ?_
  refine V.goto (pc := 82) (tgt := 14) hK dX10_queueHolders_82 (by decide) ?_
  refine V.pick [0, 1, 4, 5, 6] (l := [(0, _), (1, _), (4, _), (5, _), (6, _)]) rfl ?_
  exact hk14 _ _ _ _ h
set_option maxHeartbeats 4000000 in
set_option maxRecDepth 100000 in
theorem w_X10_queueHolders_L14 {E : v_E} {X : v_X} {sh : v_S} {P : v_P} {out : Int32 × v_M} (hL : v_Lay sh P) (hO : v_O E X cX10_queueHolders RX10 8 0 (some .int) "queueHolders" (v_Q1 (some (.int out.1)) sh P out.2)) (N : Nat) (n : Nat) : ∀ (x4 : Int32) (x5 : Int32) (x6 : Int32) (M : v_M), f_X10_queueHolders_L14 N n x4 x5 x6 M = some out → V E X (0, 0) 14 [(0, v_rf E 64), (1, v_rf E 52), (4, .int x4), (5, .int x5), (6, .int x6)] [] sh P M := by
  have hK := hO.1
  induction n with
  | zero => intro x4 x5 x6 M h; rw [f_X10_queueHolders_L14] at h; cases h
  | succ n ih =>
    intro x4 x5 x6 M h
    rw [f_X10_queueHolders_L14] at h
    refine V.iload (pc := 14) (i := 6) hK rfl dX10_queueHolders_14 ?_
    refine V.sipush (pc := 16) (v := 200) hK (by decide) dX10_queueHolders_16 ?_
    refine V.icmp_ge (pc := 19) (tgt := 85) hK dX10_queueHolders_19 (by decide) (fun c => ?_) (fun c => ?_)
    · rw [if_pos c] at h
      refine V.iload (pc := 85) (i := 4) hK rfl dX10_queueHolders_85 ?_
      exact V.iret (pc := 87) hO dX10_queueHolders_87 (v_finI h)
    · rw [if_neg c] at h
      refine V.iload (pc := 22) (i := 5) hK rfl dX10_queueHolders_22 ?_
      refine V.if_lt (pc := 24) (tgt := 85) hK dX10_queueHolders_24 (by decide) (fun c => ?_) (fun c => ?_)
      · rw [if_pos c] at h
        refine V.iload (pc := 85) (i := 4) hK rfl dX10_queueHolders_85 ?_
        exact V.iret (pc := 87) hO dX10_queueHolders_87 (v_finI h)
      · rw [if_neg c] at h
        refine V.aload_n (pc := 27) (i := 1) hK rfl ⟨_, rfl⟩ dX10_queueHolders_27 ?_
        refine V.getR (pc := 28) hK fl_RX10_71 rfl (hL.1 52 _ ls_52) (hL.2 52 1 53 rfl) dX10_queueHolders_28 ?_
        refine V.iload (pc := 31) (i := 5) hK rfl dX10_queueHolders_31 ?_
        obtain ⟨hb, h⟩ := v_ckS h
        refine V.iald (pc := 33) hK (hL.1 53 _ ls_53) (v_ibS hb) dX10_queueHolders_33 ?_
        refine V.topi (fun y1 ey1 => ?_)
        have h := v_lt ey1 h
        refine V.istore (pc := 34) (i := 7) (lv' := [(0, _), (1, _), (4, _), (5, _), (6, _), (7, _)]) hK (by decide) rfl dX10_queueHolders_34 ?_
        refine V.aload_n (pc := 36) (i := 0) hK rfl ⟨_, rfl⟩ dX10_queueHolders_36 ?_
        refine V.getR (pc := 37) hK fl_RX10_24 rfl (hL.1 64 _ ls_64) (hL.2 64 3 67 rfl) dX10_queueHolders_37 ?_
        refine V.iload (pc := 40) (i := 7) hK rfl dX10_queueHolders_40 ?_
        obtain ⟨hb, h⟩ := v_ckS h
        refine V.iald (pc := 42) hK (hL.1 67 _ ls_67) (v_ibS hb) dX10_queueHolders_42 ?_
        refine V.iload (pc := 43) (i := 5) hK rfl dX10_queueHolders_43 ?_
        refine V.icmp_ne (pc := 45) (tgt := 70) hK dX10_queueHolders_45 (by decide) (fun c => ?_) (fun c => ?_)
        · rw [if_neg c] at h
          refine V.pick [0, 1, 4, 5, 6] (l := [(0, _), (1, _), (4, _), (5, _), (6, _)]) rfl ?_
          exact w_X10_queueHolders_L70 hL hO N _ ih _ _ _ _ h
        · rw [if_pos c] at h
          refine V.iload (pc := 48) (i := 4) hK rfl dX10_queueHolders_48 ?_
          refine V.aload_n (pc := 50) (i := 0) hK rfl ⟨_, rfl⟩ dX10_queueHolders_50 ?_
          refine V.getR (pc := 51) hK fl_RX10_27 rfl (hL.1 64 _ ls_64) (hL.2 64 4 68 rfl) dX10_queueHolders_51 ?_
          refine V.alen (pc := 54) (v := 200) hK (hL.1 68 _ ls_68) (by decide) (by decide) dX10_queueHolders_54 ?_
          refine V.icmp_ge (pc := 55) (tgt := 70) hK dX10_queueHolders_55 (by decide) (fun c => ?_) (fun c => ?_)
          · rw [if_pos c] at h
            refine V.pick [0, 1, 4, 5, 6] (l := [(0, _), (1, _), (4, _), (5, _), (6, _)]) rfl ?_
            exact w_X10_queueHolders_L70 hL hO N _ ih _ _ _ _ h
          · rw [if_neg c] at h
            refine V.aload_n (pc := 58) (i := 0) hK rfl ⟨_, rfl⟩ dX10_queueHolders_58 ?_
            refine V.getR (pc := 59) hK fl_RX10_27 rfl (hL.1 64 _ ls_64) (hL.2 64 4 68 rfl) dX10_queueHolders_59 ?_
            refine V.iload (pc := 62) (i := 4) hK rfl dX10_queueHolders_62 ?_
            refine V.iload (pc := 64) (i := 7) hK rfl dX10_queueHolders_64 ?_
            obtain ⟨hb, h⟩ := v_ckS h
            refine V.iast (pc := 66) hK (hL.1 68 _ ls_68) (v_ibS hb) dX10_queueHolders_66 ?_
            refine V.nmM (fun M2 eM2 => ?_)
            have h := v_lt eM2 h
            refine V.iinc (pc := 67) (i := 4) (v := 1) (lv' := [(0, _), (1, _), (4, _), (5, _), (6, _), (7, _)]) hK rfl (by decide) (by decide) rfl dX10_queueHolders_67 ?_
            refine V.pick [0, 1, 4, 5, 6] (l := [(0, _), (1, _), (4, _), (5, _), (6, _)]) rfl ?_
            exact w_X10_queueHolders_L70 hL hO N _ ih _ _ _ _ h
set_option maxHeartbeats 4000000 in
set_option maxRecDepth 100000 in
theorem c_X10_queueHolders (E : v_E) {sh : v_S} {P : v_P} (hL : v_Lay sh P) (N : Nat) (x2 : Int32) (x3 : Int32) (M : v_M) {out : Int32 × v_M} (h : f_X10_queueHolders N x2 x3 M = some out) : v_Ct E 0 yX10_queueHolders cX10_queueHolders 8 (some .int) 0 0 [v_rf E 64, v_rf E 52, .int x2, .int x3] sh P M (v_Q1 (some (.int out.1)) sh P out.2) := by
  refine v_Ct.of (by decide +kernel) (Nat.le_of_ble_eq_true rfl) (fun X hO => ?_)
  have hK : v_K E X cX10_queueHolders RX10 8 0 := hO.1
  have hO : v_O E X cX10_queueHolders RX10 8 0 (some .int) "queueHolders" (v_Q1 (some (.int out.1)) sh P out.2) := hO
  show V E X (0, 0) 0 [(0, v_rf E 64), (1, v_rf E 52), (2, .int x2), (3, .int x3)] [] sh P M
  unfold f_X10_queueHolders at h
  refine V.iload_n (pc := 0) (i := 3) hK rfl dX10_queueHolders_0 ?_
  refine V.istore (pc := 1) (i := 4) (lv' := [(0, _), (1, _), (2, _), (3, _), (4, _)]) hK (by decide) rfl dX10_queueHolders_1 ?_
  refine V.aload_n (pc := 3) (i := 1) hK rfl ⟨_, rfl⟩ dX10_queueHolders_3 ?_
  refine V.getR (pc := 4) hK fl_RX10_104 rfl (hL.1 52 _ ls_52) (hL.2 52 8 60 rfl) dX10_queueHolders_4 ?_
  refine V.iload_n (pc := 7) (i := 2) hK rfl dX10_queueHolders_7 ?_
  obtain ⟨hb, h⟩ := v_ckS h
  refine V.iald (pc := 8) hK (hL.1 60 _ ls_60) (v_ibS hb) dX10_queueHolders_8 ?_
  refine V.topi (fun y1 ey1 => ?_)
  have h := v_lt ey1 h
  refine V.istore (pc := 9) (i := 5) (lv' := [(0, _), (1, _), (2, _), (3, _), (4, _), (5, _)]) hK (by decide) rfl dX10_queueHolders_9 ?_
  refine V.iconst (pc := 11) (v := 0) hK (by decide) dX10_queueHolders_11 ?_
  refine V.istore (pc := 12) (i := 6) (lv' := [(0, _), (1, _), (2, _), (3, _), (4, _), (5, _), (6, _)]) hK (by decide) rfl dX10_queueHolders_12 ?_
  refine V.pick [0, 1, 4, 5, 6] (l := [(0, _), (1, _), (4, _), (5, _), (6, _)]) rfl ?_
  exact w_X10_queueHolders_L14 hL hO N N _ _ _ _ h
set_option maxHeartbeats 4000000 in
set_option maxRecDepth 100000 in
theorem w_X10_moveChoices_L15 {E : v_E} {X : v_X} {sh : v_S} {P : v_P} {out : Int32 × v_M} (hL : v_Lay sh P) (hO : v_O E X cX10_moveChoices RX10 8 0 none "moveChoices" (v_Q1 (none) sh P out.2)) (N : Nat) (n : Nat) : ∀ (x3 : Int32) (x4 : Int32) (M : v_M), f_X10_moveChoices_L15 N n x3 x4 M = some out → V E X (0, 0) 15 [(0, v_rf E 64), (1, v_rf E 52), (3, .int x3), (4, .int x4)] [] sh P M := by
  have hK := hO.1
  induction n with
  | zero => intro x3 x4 M h; rw [f_X10_moveChoices_L15] at h; cases h
  | succ n ih =>
    intro x3 x4 M h
    rw [f_X10_moveChoices_L15] at h
    refine V.iload (pc := 15) (i := 4) hK rfl dX10_moveChoices_15 ?_
    refine V.sipush (pc := 17) (v := 200) hK (by decide) dX10_moveChoices_17 ?_
    refine V.icmp_ge (pc := 20) (tgt := 88) hK dX10_moveChoices_20 (by decide) (fun c => ?_) (fun c => ?_)
    · rw [if_pos c] at h
      exact V.vret (pc := 88) hO dX10_moveChoices_88 (v_finV h)
    · rw [if_neg c] at h
      refine V.aload_n (pc := 23) (i := 0) hK rfl ⟨_, rfl⟩ dX10_moveChoices_23 ?_
      refine V.getR (pc := 24) hK fl_RX10_33 rfl (hL.1 64 _ ls_64) (hL.2 64 6 70 rfl) dX10_moveChoices_24 ?_
      refine V.iload_n (pc := 27) (i := 3) hK rfl dX10_moveChoices_27 ?_
      obtain ⟨hb, h⟩ := v_ckS h
      refine V.iald (pc := 28) hK (hL.1 70 _ ls_70) (v_ibS hb) dX10_moveChoices_28 ?_
      refine V.if_lt (pc := 29) (tgt := 88) hK dX10_moveChoices_29 (by decide) (fun c => ?_) (fun c => ?_)
      · rw [if_pos c] at h
        exact V.vret (pc := 88) hO dX10_moveChoices_88 (v_finV h)
      · rw [if_neg c] at h
        refine V.aload_n (pc := 32) (i := 0) hK rfl ⟨_, rfl⟩ dX10_moveChoices_32 ?_
        refine V.getR (pc := 33) hK fl_RX10_33 rfl (hL.1 64 _ ls_64) (hL.2 64 6 70 rfl) dX10_moveChoices_33 ?_
        refine V.iload_n (pc := 36) (i := 3) hK rfl dX10_moveChoices_36 ?_
        obtain ⟨hb, h⟩ := v_ckS h
        refine V.iald (pc := 37) hK (hL.1 70 _ ls_70) (v_ibS hb) dX10_moveChoices_37 ?_
        refine V.topi (fun y1 ey1 => ?_)
        have h := v_lt ey1 h
        refine V.istore (pc := 38) (i := 5) (lv' := [(0, _), (1, _), (3, _), (4, _), (5, _)]) hK (by decide) rfl dX10_moveChoices_38 ?_
        refine V.aload_n (pc := 40) (i := 1) hK rfl ⟨_, rfl⟩ dX10_moveChoices_40 ?_
        refine V.getR (pc := 41) hK fl_RX10_71 rfl (hL.1 52 _ ls_52) (hL.2 52 1 53 rfl) dX10_moveChoices_41 ?_
        refine V.iload (pc := 44) (i := 5) hK rfl dX10_moveChoices_44 ?_
        obtain ⟨hb, h⟩ := v_ckS h
        refine V.iald (pc := 46) hK (hL.1 53 _ ls_53) (v_ibS hb) dX10_moveChoices_46 ?_
        refine V.topi (fun y2 ey2 => ?_)
        have h := v_lt ey2 h
        refine V.istore (pc := 47) (i := 6) (lv' := [(0, _), (1, _), (3, _), (4, _), (5, _), (6, _)]) hK (by decide) rfl dX10_moveChoices_47 ?_
        refine V.aload_n (pc := 49) (i := 0) hK rfl ⟨_, rfl⟩ dX10_moveChoices_49 ?_
        refine V.getR (pc := 50) hK fl_RX10_24 rfl (hL.1 64 _ ls_64) (hL.2 64 3 67 rfl) dX10_moveChoices_50 ?_
        refine V.iload (pc := 53) (i := 6) hK rfl dX10_moveChoices_53 ?_
        obtain ⟨hb, h⟩ := v_ckS h
        refine V.iald (pc := 55) hK (hL.1 67 _ ls_67) (v_ibS hb) dX10_moveChoices_55 ?_
        refine V.topi (fun y3 ey3 => ?_)
        have h := v_lt ey3 h
        refine V.istore (pc := 56) (i := 7) (lv' := [(0, _), (1, _), (3, _), (4, _), (5, _), (6, _), (7, _)]) hK (by decide) rfl dX10_moveChoices_56 ?_
        refine V.aload_n (pc := 58) (i := 0) hK rfl ⟨_, rfl⟩ dX10_moveChoices_58 ?_
        refine V.getR (pc := 59) hK fl_RX10_24 rfl (hL.1 64 _ ls_64) (hL.2 64 3 67 rfl) dX10_moveChoices_59 ?_
        refine V.iload (pc := 62) (i := 6) hK rfl dX10_moveChoices_62 ?_
        refine V.iload (pc := 64) (i := 5) hK rfl dX10_moveChoices_64 ?_
        obtain ⟨hb, h⟩ := v_ckS h
        refine V.iast (pc := 66) hK (hL.1 67 _ ls_67) (v_ibS hb) dX10_moveChoices_66 ?_
        refine V.nmM (fun M4 eM4 => ?_)
        have h := v_lt eM4 h
        refine V.iload (pc := 67) (i := 7) hK rfl dX10_moveChoices_67 ?_
        refine V.iconst (pc := 69) (v := -1) hK (by decide) dX10_moveChoices_69 ?_
        refine V.icmp_ne (pc := 70) (tgt := 74) hK dX10_moveChoices_70 (by decide) (fun c => ?_) (fun c => ?_)
        · rw [if_neg c] at h
          refine V.aload_n (pc := 74) (i := 1) hK rfl ⟨_, rfl⟩ dX10_moveChoices_74 ?_
          refine V.getR (pc := 75) hK fl_RX10_81 rfl (hL.1 52 _ ls_52) (hL.2 52 4 56 rfl) dX10_moveChoices_75 ?_
          refine V.iload (pc := 78) (i := 7) hK rfl dX10_moveChoices_78 ?_
          obtain ⟨hb, h⟩ := v_ckS h
          refine V.iald (pc := 80) hK (hL.1 56 _ ls_56) (v_ibS hb) dX10_moveChoices_80 ?_
          refine V.topi (fun y5 ey5 => ?_)
          have h := v_lt ey5 h
          refine V.istore_n (pc := 81) (i := 3) (lv' := [(0, _), (1, _), (3, _), (4, _), (5, _), (6, _), (7, _)]) hK (by decide) rfl dX10_moveChoices_81 ?_
          refine V.iinc (pc := 82) (i := 4) (v := 1) (lv' := [(0, _), (1, _), (3, _), (4, _), (5, _), (6, _), (7, _)]) hK rfl (by decide) (by decide) rfl dX10_moveChoices_82 ?_
          refine V.goto (pc := 85) (tgt := 15) hK dX10_moveChoices_85 (by decide) ?_
          refine V.pick [0, 1, 3, 4] (l := [(0, _), (1, _), (3, _), (4, _)]) rfl ?_
          exact ih _ _ _ h
        · rw [if_pos c] at h
          exact V.vret (pc := 73) hO dX10_moveChoices_73 (v_finV h)
set_option maxHeartbeats 4000000 in
set_option maxRecDepth 100000 in
theorem c_X10_moveChoices (E : v_E) {sh : v_S} {P : v_P} (hL : v_Lay sh P) (N : Nat) (x2 : Int32) (M : v_M) {out : Int32 × v_M} (h : f_X10_moveChoices N x2 M = some out) : v_Ct E 0 yX10_moveChoices cX10_moveChoices 8 none 0 0 [v_rf E 64, v_rf E 52, .int x2] sh P M (v_Q1 (none) sh P out.2) := by
  refine v_Ct.of (by decide +kernel) (Nat.le_of_ble_eq_true rfl) (fun X hO => ?_)
  have hK : v_K E X cX10_moveChoices RX10 8 0 := hO.1
  have hO : v_O E X cX10_moveChoices RX10 8 0 none "moveChoices" (v_Q1 (none) sh P out.2) := hO
  show V E X (0, 0) 0 [(0, v_rf E 64), (1, v_rf E 52), (2, .int x2)] [] sh P M
  unfold f_X10_moveChoices at h
  refine V.aload_n (pc := 0) (i := 0) hK rfl ⟨_, rfl⟩ dX10_moveChoices_0 ?_
  refine V.getR (pc := 1) hK fl_RX10_30 rfl (hL.1 64 _ ls_64) (hL.2 64 5 69 rfl) dX10_moveChoices_1 ?_
  refine V.iload_n (pc := 4) (i := 2) hK rfl dX10_moveChoices_4 ?_
  refine V.dup2 (pc := 5) hK rfl rfl dX10_moveChoices_5 ?_
  obtain ⟨hb, h⟩ := v_ckS h
  refine V.iald (pc := 6) hK (hL.1 69 _ ls_69) (v_ibS hb) dX10_moveChoices_6 ?_
  refine V.iconst (pc := 7) (v := 1) hK (by decide) dX10_moveChoices_7 ?_
  refine V.iadd (pc := 8) hK dX10_moveChoices_8 ?_
  obtain ⟨hb, h⟩ := v_ckS h
  refine V.iast (pc := 9) hK (hL.1 69 _ ls_69) (v_ibS hb) dX10_moveChoices_9 ?_
  refine V.nmM (fun M1 eM1 => ?_)
  have h := v_lt eM1 h
  refine V.iload_n (pc := 10) (i := 2) hK rfl dX10_moveChoices_10 ?_
  refine V.istore_n (pc := 11) (i := 3) (lv' := [(0, _), (1, _), (2, _), (3, _)]) hK (by decide) rfl dX10_moveChoices_11 ?_
  refine V.iconst (pc := 12) (v := 0) hK (by decide) dX10_moveChoices_12 ?_
  refine V.istore (pc := 13) (i := 4) (lv' := [(0, _), (1, _), (2, _), (3, _), (4, _)]) hK (by decide) rfl dX10_moveChoices_13 ?_
  refine V.pick [0, 1, 3, 4] (l := [(0, _), (1, _), (3, _), (4, _)]) rfl ?_
  exact w_X10_moveChoices_L15 hL hO N N _ _ _ h
set_option maxHeartbeats 4000000 in
set_option maxRecDepth 100000 in
theorem c_X11_machine (E : v_E) {sh : v_S} {P : v_P} (hL : v_Lay sh P) (N : Nat) (M : v_M) {out : Int32 × v_M} (h : f_X11_machine N M = some out) : v_Ct E 1 yX11_machine cX11_machine 1 (some .int) 0 0 [v_rf E 0] sh P M (v_Q1 (some (.int out.1)) sh P out.2) := by
  refine v_Ct.of (by decide +kernel) (Nat.le_of_ble_eq_true rfl) (fun X hO => ?_)
  have hK : v_K E X cX11_machine RX11 1 1 := hO.1
  have hO : v_O E X cX11_machine RX11 1 1 (some .int) "machine" (v_Q1 (some (.int out.1)) sh P out.2) := hO
  show V E X (0, 0) 0 [(0, v_rf E 0)] [] sh P M
  unfold f_X11_machine at h
  refine V.aload_n (pc := 0) (i := 0) hK rfl ⟨_, rfl⟩ dX11_machine_0 ?_
  refine V.getR (pc := 1) hK fl_RX11_26 rfl (hL.1 0 _ ls_0) (hL.2 0 3 11 rfl) dX11_machine_1 ?_
  obtain ⟨z1, hz1, h⟩ := v_bdS h
  refine V.cV (pc := 4) (ci := 4) hK (c_X4_add E hL N _ (v_FlL hL 11 rfl) _ hz1) Y_X4_add cv_RX11_105 (by decide) rfl (hL.1 11 _ ls_11) dX11_machine_4 (by decide) rfl (Nat.le_of_ble_eq_true rfl) ?_
  exact V.iret (pc := 7) hO dX11_machine_7 (v_finI h)
