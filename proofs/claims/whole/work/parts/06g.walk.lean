set_option maxHeartbeats 4000000 in
set_option maxRecDepth 100000 in
theorem c_X6_putReading (E : v_E) {sh : v_S} {P : v_P} (hL : v_Lay sh P) (N : Nat) (x1 : Int32) (x2 : Int32) (x3 : Int32) (M : v_M) {out : Int32 × v_M} (h : f_X6_putReading N x1 x2 x3 M = some out) : v_Ct E 1 yX6_putReading cX6_putReading 5 none 0 0 [v_rf E 71, .int x1, .int x2, .int x3] sh P M (v_Q1 (none) sh P out.2) := by
  refine v_Ct.of (by decide +kernel) (Nat.le_of_ble_eq_true rfl) (fun X hO => ?_)
  have hK : v_K E X cX6_putReading RX6 5 1 := hO.1
  have hO : v_O E X cX6_putReading RX6 5 1 none "putReading" (v_Q1 (none) sh P out.2) := hO
  show V E X (0, 0) 0 [(0, v_rf E 71), (1, .int x1), (2, .int x2), (3, .int x3)] [] sh P M
  unfold f_X6_putReading at h
  refine V.iload_n (pc := 0) (i := 1) hK rfl dX6_putReading_0 ?_
  refine V.bipush (pc := 1) (v := 30) hK (by decide) dX6_putReading_1 ?_
  refine V.imul (pc := 3) hK dX6_putReading_3 ?_
  refine V.iload_n (pc := 4) (i := 2) hK rfl dX6_putReading_4 ?_
  refine V.iadd (pc := 5) hK dX6_putReading_5 ?_
  refine V.topi (fun y1 ey1 => ?_)
  have h := v_lt ey1 h
  refine V.istore (pc := 6) (i := 4) (lv' := [(0, _), (1, _), (2, _), (3, _), (4, _)]) hK (by decide) rfl dX6_putReading_6 ?_
  refine V.iload (pc := 8) (i := 4) hK rfl dX6_putReading_8 ?_
  refine V.iconst (pc := 10) (v := 0) hK (by decide) dX6_putReading_10 ?_
  refine V.aload_n (pc := 11) (i := 0) hK rfl ⟨_, rfl⟩ dX6_putReading_11 ?_
  refine V.getR (pc := 12) hK fl_RX6_28 rfl (hL.1 71 _ ls_71) (hL.2 71 5 76 rfl) dX6_putReading_12 ?_
  refine V.alen (pc := 15) (v := 480) hK (hL.1 76 _ ls_76) (by decide) (by decide) dX6_putReading_15 ?_
  refine V.iconst (pc := 16) (v := 1) hK (by decide) dX6_putReading_16 ?_
  refine V.isub (pc := 17) hK dX6_putReading_17 ?_
  obtain ⟨z2, hz2, h⟩ := v_bdS h
  refine V.cSN (pc := 18) hK (c_X11_within E hL N _ _ _ _ hz2) Y_X11_within cn_RX6_37 dX6_putReading_18 (by decide) rfl (Nat.le_of_ble_eq_true rfl) ?_
  refine V.if_eq (pc := 21) (tgt := 42) hK dX6_putReading_21 (by decide) (fun c => ?_) (fun c => ?_)
  · rw [if_pos c] at h
    exact V.vret (pc := 42) hO dX6_putReading_42 (v_finV h)
  · rw [if_neg c] at h
    refine V.aload_n (pc := 24) (i := 0) hK rfl ⟨_, rfl⟩ dX6_putReading_24 ?_
    refine V.getR (pc := 25) hK fl_RX6_28 rfl (hL.1 71 _ ls_71) (hL.2 71 5 76 rfl) dX6_putReading_25 ?_
    refine V.iload (pc := 28) (i := 4) hK rfl dX6_putReading_28 ?_
    refine V.aload_n (pc := 30) (i := 0) hK rfl ⟨_, rfl⟩ dX6_putReading_30 ?_
    refine V.getR (pc := 31) hK fl_RX6_28 rfl (hL.1 71 _ ls_71) (hL.2 71 5 76 rfl) dX6_putReading_31 ?_
    refine V.iload (pc := 34) (i := 4) hK rfl dX6_putReading_34 ?_
    obtain ⟨hb, h⟩ := v_ckS h
    refine V.iald (pc := 36) hK (hL.1 76 _ ls_76) (v_ibS hb) dX6_putReading_36 ?_
    refine V.iload_n (pc := 37) (i := 3) hK rfl dX6_putReading_37 ?_
    refine V.mmin (pc := 38) hK tw_1036 tw_mmins tw_mi tw_mminc dX6_putReading_38 (by decide) (Nat.le_of_ble_eq_true rfl) ?_
    obtain ⟨hb, h⟩ := v_ckS h
    refine V.iast (pc := 41) hK (hL.1 76 _ ls_76) (v_ibS hb) dX6_putReading_41 ?_
    refine V.nmM (fun M3 eM3 => ?_)
    have h := v_lt eM3 h
    exact V.vret (pc := 42) hO dX6_putReading_42 (v_finV h)
set_option maxHeartbeats 4000000 in
set_option maxRecDepth 100000 in
theorem w_X6_gatherKnowing_L69 {E : v_E} {X : v_X} {sh : v_S} {P : v_P} {out : Int32 × v_M} (hL : v_Lay sh P) (hO : v_O E X cX6_gatherKnowing RX6 5 1 none "gatherKnowing" (v_Q1 (none) sh P out.2)) (N : Nat) (k13 : Int32 → Int32 → v_M → Option (Int32 × v_M)) (hk13 : ∀ (x1 : Int32) (x2 : Int32) (M : v_M), k13 x1 x2 M = some out → V E X (0, 0) 13 [(0, v_rf E 71), (1, .int x1), (2, .int x2)] [] sh P M) (k36 : Int32 → Int32 → Int32 → Int32 → v_M → Option (Int32 × v_M)) (hk36 : ∀ (x1 : Int32) (x2 : Int32) (x3 : Int32) (x4 : Int32) (M : v_M), k36 x1 x2 x3 x4 M = some out → V E X (0, 0) 36 [(0, v_rf E 71), (1, .int x1), (2, .int x2), (3, .int x3), (4, .int x4)] [] sh P M) (x1 : Int32) (x2 : Int32) (x3 : Int32) (x4 : Int32) (M : v_M) (h : f_X6_gatherKnowing_L69 N k13 k36 x1 x2 x3 x4 M = some out) : V E X (0, 0) 69 [(0, v_rf E 71), (1, .int x1), (2, .int x2), (3, .int x3), (4, .int x4)] [] sh P M := by
  have hK := hO.1
  unfold f_X6_gatherKnowing_L69 at h
  refine V.iinc (pc := 69) (i := 4) (v := 1) (lv' := [(0, _), (1, _), (2, _), (3, _), (4, _)]) hK rfl (by decide) (by decide) rfl dX6_gatherKnowing_69 ?_
  refine V.goto (pc := 72) (tgt := 36) hK dX6_gatherKnowing_72 (by decide) ?_
  refine V.pick [0, 1, 2, 3, 4] (l := [(0, _), (1, _), (2, _), (3, _), (4, _)]) rfl ?_
  exact hk36 _ _ _ _ _ h
set_option maxHeartbeats 4000000 in
set_option maxRecDepth 100000 in
theorem w_X6_gatherKnowing_L36 {E : v_E} {X : v_X} {sh : v_S} {P : v_P} {out : Int32 × v_M} (hL : v_Lay sh P) (hO : v_O E X cX6_gatherKnowing RX6 5 1 none "gatherKnowing" (v_Q1 (none) sh P out.2)) (N : Nat) (k13 : Int32 → Int32 → v_M → Option (Int32 × v_M)) (hk13 : ∀ (x1 : Int32) (x2 : Int32) (M : v_M), k13 x1 x2 M = some out → V E X (0, 0) 13 [(0, v_rf E 71), (1, .int x1), (2, .int x2)] [] sh P M) (n : Nat) : ∀ (x1 : Int32) (x2 : Int32) (x3 : Int32) (x4 : Int32) (M : v_M), f_X6_gatherKnowing_L36 N k13 n x1 x2 x3 x4 M = some out → V E X (0, 0) 36 [(0, v_rf E 71), (1, .int x1), (2, .int x2), (3, .int x3), (4, .int x4)] [] sh P M := by
  have hK := hO.1
  induction n with
  | zero => intro x1 x2 x3 x4 M h; rw [f_X6_gatherKnowing_L36] at h; cases h
  | succ n ih =>
    intro x1 x2 x3 x4 M h
    rw [f_X6_gatherKnowing_L36] at h
    refine V.iload (pc := 36) (i := 4) hK rfl dX6_gatherKnowing_36 ?_
    refine V.iload_n (pc := 38) (i := 2) hK rfl dX6_gatherKnowing_38 ?_
    refine V.icmp_ge (pc := 39) (tgt := 75) hK dX6_gatherKnowing_39 (by decide) (fun c => ?_) (fun c => ?_)
    · rw [if_pos c] at h
      refine V.aload_n (pc := 75) (i := 0) hK rfl ⟨_, rfl⟩ dX6_gatherKnowing_75 ?_
      refine V.getR (pc := 76) hK fl_RX6_22 rfl (hL.1 71 _ ls_71) (hL.2 71 3 74 rfl) dX6_gatherKnowing_76 ?_
      refine V.iload_n (pc := 79) (i := 2) hK rfl dX6_gatherKnowing_79 ?_
      refine V.iload_n (pc := 80) (i := 3) hK rfl dX6_gatherKnowing_80 ?_
      obtain ⟨hb, h⟩ := v_ckS h
      refine V.iast (pc := 81) hK (hL.1 74 _ ls_74) (v_ibS hb) dX6_gatherKnowing_81 ?_
      refine V.nmM (fun M1 eM1 => ?_)
      have h := v_lt eM1 h
      refine V.iinc (pc := 82) (i := 2) (v := 1) (lv' := [(0, _), (1, _), (2, _), (3, _), (4, _)]) hK rfl (by decide) (by decide) rfl dX6_gatherKnowing_82 ?_
      refine V.goto (pc := 85) (tgt := 13) hK dX6_gatherKnowing_85 (by decide) ?_
      refine V.pick [0, 1, 2] (l := [(0, _), (1, _), (2, _)]) rfl ?_
      exact hk13 _ _ _ h
    · rw [if_neg c] at h
      refine V.aload_n (pc := 42) (i := 0) hK rfl ⟨_, rfl⟩ dX6_gatherKnowing_42 ?_
      refine V.getR (pc := 43) hK fl_RX6_25 rfl (hL.1 71 _ ls_71) (hL.2 71 4 75 rfl) dX6_gatherKnowing_43 ?_
      refine V.iload_n (pc := 46) (i := 2) hK rfl dX6_gatherKnowing_46 ?_
      obtain ⟨hb, h⟩ := v_ckS h
      refine V.iald (pc := 47) hK (hL.1 75 _ ls_75) (v_ibS hb) dX6_gatherKnowing_47 ?_
      refine V.iload (pc := 48) (i := 4) hK rfl dX6_gatherKnowing_48 ?_
      refine V.ishr (pc := 50) hK dX6_gatherKnowing_50 ?_
      refine V.iconst (pc := 51) (v := 1) hK (by decide) dX6_gatherKnowing_51 ?_
      refine V.iand (pc := 52) hK dX6_gatherKnowing_52 ?_
      refine V.iconst (pc := 53) (v := 1) hK (by decide) dX6_gatherKnowing_53 ?_
      refine V.icmp_ne (pc := 54) (tgt := 69) hK dX6_gatherKnowing_54 (by decide) (fun c => ?_) (fun c => ?_)
      · rw [if_neg c] at h
        refine V.pick [0, 1, 2, 3, 4] (l := [(0, _), (1, _), (2, _), (3, _), (4, _)]) rfl ?_
        exact w_X6_gatherKnowing_L69 hL hO N _ hk13 _ ih _ _ _ _ _ h
      · rw [if_pos c] at h
        refine V.iload_n (pc := 57) (i := 3) hK rfl dX6_gatherKnowing_57 ?_
        refine V.aload_n (pc := 58) (i := 0) hK rfl ⟨_, rfl⟩ dX6_gatherKnowing_58 ?_
        refine V.getR (pc := 59) hK fl_RX6_22 rfl (hL.1 71 _ ls_71) (hL.2 71 3 74 rfl) dX6_gatherKnowing_59 ?_
        refine V.iload (pc := 62) (i := 4) hK rfl dX6_gatherKnowing_62 ?_
        obtain ⟨hb, h⟩ := v_ckS h
        refine V.iald (pc := 64) hK (hL.1 74 _ ls_74) (v_ibS hb) dX6_gatherKnowing_64 ?_
        refine V.mmax (pc := 65) hK tw_1045 tw_mmaxs tw_mi tw_mmaxc dX6_gatherKnowing_65 (by decide) (Nat.le_of_ble_eq_true rfl) ?_
        refine V.topi (fun y2 ey2 => ?_)
        have h := v_lt ey2 h
        refine V.istore_n (pc := 68) (i := 3) (lv' := [(0, _), (1, _), (2, _), (3, _), (4, _)]) hK (by decide) rfl dX6_gatherKnowing_68 ?_
        refine V.pick [0, 1, 2, 3, 4] (l := [(0, _), (1, _), (2, _), (3, _), (4, _)]) rfl ?_
        exact w_X6_gatherKnowing_L69 hL hO N _ hk13 _ ih _ _ _ _ _ h
set_option maxHeartbeats 4000000 in
set_option maxRecDepth 100000 in
theorem w_X6_gatherKnowing_L13 {E : v_E} {X : v_X} {sh : v_S} {P : v_P} {out : Int32 × v_M} (hL : v_Lay sh P) (hO : v_O E X cX6_gatherKnowing RX6 5 1 none "gatherKnowing" (v_Q1 (none) sh P out.2)) (N : Nat) (n : Nat) : ∀ (x1 : Int32) (x2 : Int32) (M : v_M), f_X6_gatherKnowing_L13 N n x1 x2 M = some out → V E X (0, 0) 13 [(0, v_rf E 71), (1, .int x1), (2, .int x2)] [] sh P M := by
  have hK := hO.1
  induction n with
  | zero => intro x1 x2 M h; rw [f_X6_gatherKnowing_L13] at h; cases h
  | succ n ih =>
    intro x1 x2 M h
    rw [f_X6_gatherKnowing_L13] at h
    refine V.iload_n (pc := 13) (i := 2) hK rfl dX6_gatherKnowing_13 ?_
    refine V.aload_n (pc := 14) (i := 0) hK rfl ⟨_, rfl⟩ dX6_gatherKnowing_14 ?_
    refine V.getI (pc := 15) hK fl_RX6_9 rfl (hL.1 71 _ ls_71) dX6_gatherKnowing_15 ?_
    refine V.icmp_ge (pc := 18) (tgt := 88) hK dX6_gatherKnowing_18 (by decide) (fun c => ?_) (fun c => ?_)
    · rw [if_pos c] at h
      exact V.vret (pc := 88) hO dX6_gatherKnowing_88 (v_finV h)
    · rw [if_neg c] at h
      refine V.aload_n (pc := 21) (i := 0) hK rfl ⟨_, rfl⟩ dX6_gatherKnowing_21 ?_
      refine V.getR (pc := 22) hK fl_RX6_28 rfl (hL.1 71 _ ls_71) (hL.2 71 5 76 rfl) dX6_gatherKnowing_22 ?_
      refine V.iload_n (pc := 25) (i := 1) hK rfl dX6_gatherKnowing_25 ?_
      refine V.bipush (pc := 26) (v := 30) hK (by decide) dX6_gatherKnowing_26 ?_
      refine V.imul (pc := 28) hK dX6_gatherKnowing_28 ?_
      refine V.iload_n (pc := 29) (i := 2) hK rfl dX6_gatherKnowing_29 ?_
      refine V.iadd (pc := 30) hK dX6_gatherKnowing_30 ?_
      obtain ⟨hb, h⟩ := v_ckS h
      refine V.iald (pc := 31) hK (hL.1 76 _ ls_76) (v_ibS hb) dX6_gatherKnowing_31 ?_
      refine V.topi (fun y1 ey1 => ?_)
      have h := v_lt ey1 h
      refine V.istore_n (pc := 32) (i := 3) (lv' := [(0, _), (1, _), (2, _), (3, _)]) hK (by decide) rfl dX6_gatherKnowing_32 ?_
      refine V.iconst (pc := 33) (v := 0) hK (by decide) dX6_gatherKnowing_33 ?_
      refine V.istore (pc := 34) (i := 4) (lv' := [(0, _), (1, _), (2, _), (3, _), (4, _)]) hK (by decide) rfl dX6_gatherKnowing_34 ?_
      refine V.pick [0, 1, 2, 3, 4] (l := [(0, _), (1, _), (2, _), (3, _), (4, _)]) rfl ?_
      exact w_X6_gatherKnowing_L36 hL hO N _ ih N _ _ _ _ _ h
set_option maxHeartbeats 4000000 in
set_option maxRecDepth 100000 in
theorem c_X6_gatherKnowing (E : v_E) {sh : v_S} {P : v_P} (hL : v_Lay sh P) (N : Nat) (x1 : Int32) (M : v_M) {out : Int32 × v_M} (h : f_X6_gatherKnowing N x1 M = some out) : v_Ct E 1 yX6_gatherKnowing cX6_gatherKnowing 5 none 0 0 [v_rf E 71, .int x1] sh P M (v_Q1 (none) sh P out.2) := by
  refine v_Ct.of (by decide +kernel) (Nat.le_of_ble_eq_true rfl) (fun X hO => ?_)
  have hK : v_K E X cX6_gatherKnowing RX6 5 1 := hO.1
  have hO : v_O E X cX6_gatherKnowing RX6 5 1 none "gatherKnowing" (v_Q1 (none) sh P out.2) := hO
  show V E X (0, 0) 0 [(0, v_rf E 71), (1, .int x1)] [] sh P M
  unfold f_X6_gatherKnowing at h
  refine V.iload_n (pc := 0) (i := 1) hK rfl dX6_gatherKnowing_0 ?_
  refine V.iconst (pc := 1) (v := 0) hK (by decide) dX6_gatherKnowing_1 ?_
  refine V.bipush (pc := 2) (v := 15) hK (by decide) dX6_gatherKnowing_2 ?_
  obtain ⟨z1, hz1, h⟩ := v_bdS h
  refine V.cSN (pc := 4) hK (c_X11_within E hL N _ _ _ _ hz1) Y_X11_within cn_RX6_37 dX6_gatherKnowing_4 (by decide) rfl (Nat.le_of_ble_eq_true rfl) ?_
  refine V.if_ne (pc := 7) (tgt := 11) hK dX6_gatherKnowing_7 (by decide) (fun c => ?_) (fun c => ?_)
  · rw [if_neg c] at h
    refine V.iconst (pc := 11) (v := 0) hK (by decide) dX6_gatherKnowing_11 ?_
    refine V.istore_n (pc := 12) (i := 2) (lv' := [(0, _), (1, _), (2, _)]) hK (by decide) rfl dX6_gatherKnowing_12 ?_
    refine V.pick [0, 1, 2] (l := [(0, _), (1, _), (2, _)]) rfl ?_
    exact w_X6_gatherKnowing_L13 hL hO N N _ _ _ h
  · rw [if_pos c] at h
    exact V.vret (pc := 10) hO dX6_gatherKnowing_10 (v_finV h)
set_option maxHeartbeats 4000000 in
set_option maxRecDepth 100000 in
theorem c_X7_isNumberTo (E : v_E) {sh : v_S} {P : v_P} (hL : v_Lay sh P) (N : Nat) (x1 : Int32) (M : v_M) {out : Int32 × v_M} (h : f_X7_isNumberTo N x1 M = some out) : v_Ct E 1 yX7_isNumberTo cX7_isNumberTo 2 (some .boolean) 0 0 [v_rf E 35, .int x1] sh P M (v_Q1 (some (.int out.1)) sh P out.2) := by
  refine v_Ct.of (by decide +kernel) (Nat.le_of_ble_eq_true rfl) (fun X hO => ?_)
  have hK : v_K E X cX7_isNumberTo RX7 2 1 := hO.1
  have hO : v_O E X cX7_isNumberTo RX7 2 1 (some .boolean) "isNumberTo" (v_Q1 (some (.int out.1)) sh P out.2) := hO
  show V E X (0, 0) 0 [(0, v_rf E 35), (1, .int x1)] [] sh P M
  unfold f_X7_isNumberTo at h
  refine V.aload_n (pc := 0) (i := 0) hK rfl ⟨_, rfl⟩ dX7_isNumberTo_0 ?_
  refine V.getI (pc := 1) hK fl_RX7_29 rfl (hL.1 35 _ ls_35) dX7_isNumberTo_1 ?_
  refine V.sipush (pc := 4) (v := 256) hK (by decide) dX7_isNumberTo_4 ?_
  refine V.icmp_eq (pc := 7) (tgt := 16) hK dX7_isNumberTo_7 (by decide) (fun c => ?_) (fun c => ?_)
  · rw [if_pos c] at h
    refine V.aload_n (pc := 16) (i := 0) hK rfl ⟨_, rfl⟩ dX7_isNumberTo_16 ?_
    refine V.getI (pc := 17) hK fl_RX7_32 rfl (hL.1 35 _ ls_35) dX7_isNumberTo_17 ?_
    refine V.iconst (pc := 20) (v := 0) hK (by decide) dX7_isNumberTo_20 ?_
    refine V.iload_n (pc := 21) (i := 1) hK rfl dX7_isNumberTo_21 ?_
    obtain ⟨z1, hz1, h⟩ := v_bdS h
    refine V.cSN (pc := 22) hK (c_X11_within E hL N _ _ _ _ hz1) Y_X11_within cn_RX7_68 dX7_isNumberTo_22 (by decide) rfl (Nat.le_of_ble_eq_true rfl) ?_
    refine V.if_ne (pc := 25) (tgt := 36) hK dX7_isNumberTo_25 (by decide) (fun c => ?_) (fun c => ?_)
    · rw [if_neg c] at h
      refine V.iconst (pc := 36) (v := 1) hK (by decide) dX7_isNumberTo_36 ?_
      refine V.goto (pc := 37) (tgt := 41) hK dX7_isNumberTo_37 (by decide) ?_
      obtain ⟨hb, h⟩ := v_ckS h
      exact V.zret (pc := 41) hO (v_z01 hb) dX7_isNumberTo_41 (v_finI h)
    · rw [if_pos c] at h
      refine V.aload_n (pc := 28) (i := 0) hK rfl ⟨_, rfl⟩ dX7_isNumberTo_28 ?_
      refine V.iconst (pc := 29) (v := 1) hK (by decide) dX7_isNumberTo_29 ?_
      obtain ⟨z2, hz2, h⟩ := v_bdS h
      refine V.cV (pc := 30) (ci := 7) hK (c_X7_fail E hL N _ _ hz2) Y_X7_fail cv_RX7_54 (by decide) rfl (hL.1 35 _ ls_35) dX7_isNumberTo_30 (by decide) rfl (Nat.le_of_ble_eq_true rfl) ?_
      refine V.if_eq (pc := 33) (tgt := 40) hK dX7_isNumberTo_33 (by decide) (fun c => ?_) (fun c => ?_)
      · rw [if_pos c] at h
        refine V.iconst (pc := 40) (v := 0) hK (by decide) dX7_isNumberTo_40 ?_
        obtain ⟨hb, h⟩ := v_ckS h
        exact V.zret (pc := 41) hO (v_z01 hb) dX7_isNumberTo_41 (v_finI h)
      · rw [if_neg c] at h
        refine V.iconst (pc := 36) (v := 1) hK (by decide) dX7_isNumberTo_36 ?_
        refine V.goto (pc := 37) (tgt := 41) hK dX7_isNumberTo_37 (by decide) ?_
        obtain ⟨hb, h⟩ := v_ckS h
        exact V.zret (pc := 41) hO (v_z01 hb) dX7_isNumberTo_41 (v_finI h)
  · rw [if_neg c] at h
    refine V.aload_n (pc := 10) (i := 0) hK rfl ⟨_, rfl⟩ dX7_isNumberTo_10 ?_
    refine V.iconst (pc := 11) (v := 0) hK (by decide) dX7_isNumberTo_11 ?_
    obtain ⟨z3, hz3, h⟩ := v_bdS h
    refine V.cV (pc := 12) (ci := 7) hK (c_X7_fail E hL N _ _ hz3) Y_X7_fail cv_RX7_54 (by decide) rfl (hL.1 35 _ ls_35) dX7_isNumberTo_12 (by decide) rfl (Nat.le_of_ble_eq_true rfl) ?_
    obtain ⟨hb, h⟩ := v_ckS h
    exact V.zret (pc := 15) hO (v_z01 hb) dX7_isNumberTo_15 (v_finI h)
set_option maxHeartbeats 4000000 in
set_option maxRecDepth 100000 in
theorem c_X7_readLook (E : v_E) {sh : v_S} {P : v_P} (hL : v_Lay sh P) (N : Nat) (qo : Nat) (hqo : v_Or sh P qo) (hro : P 35 1 = some qo) (x1 : Int32) (M : v_M) {out : Int32 × v_M} (h : f_X7_readLook N qo x1 M = some out) : v_Ct E 1 yX7_readLook cX7_readLook 2 (some .boolean) 0 0 [v_rf E 35, .int x1] sh P M (v_Q1 (some (.int out.1)) sh P out.2) := by
  refine v_Ct.of (by decide +kernel) (Nat.le_of_ble_eq_true rfl) (fun X hO => ?_)
  have hK : v_K E X cX7_readLook RX7 2 1 := hO.1
  have hO : v_O E X cX7_readLook RX7 2 1 (some .boolean) "readLook" (v_Q1 (some (.int out.1)) sh P out.2) := hO
  show V E X (0, 0) 0 [(0, v_rf E 35), (1, .int x1)] [] sh P M
  unfold f_X7_readLook at h
  refine V.aload_n (pc := 0) (i := 0) hK rfl ⟨_, rfl⟩ dX7_readLook_0 ?_
  refine V.getI (pc := 1) hK fl_RX7_29 rfl (hL.1 35 _ ls_35) dX7_readLook_1 ?_
  refine V.sipush (pc := 4) (v := 264) hK (by decide) dX7_readLook_4 ?_
  refine V.sipush (pc := 7) (v := 267) hK (by decide) dX7_readLook_7 ?_
  obtain ⟨z1, hz1, h⟩ := v_bdS h
  refine V.cSN (pc := 10) hK (c_X11_within E hL N _ _ _ _ hz1) Y_X11_within cn_RX7_68 dX7_readLook_10 (by decide) rfl (Nat.le_of_ble_eq_true rfl) ?_
  refine V.if_ne (pc := 13) (tgt := 22) hK dX7_readLook_13 (by decide) (fun c => ?_) (fun c => ?_)
  · rw [if_neg c] at h
    refine V.aload_n (pc := 22) (i := 0) hK rfl ⟨_, rfl⟩ dX7_readLook_22 ?_
    refine V.getR (pc := 23) hK fl_RX7_21 rfl (hL.1 35 _ ls_35) hro dX7_readLook_23 ?_
    refine V.getR (pc := 26) hK fl_RX7_97 rfl (hqo.1 0 _ rfl) (hqo.2 5 2 rfl) dX7_readLook_26 ?_
    refine V.iload_n (pc := 29) (i := 1) hK rfl dX7_readLook_29 ?_
    refine V.iconst (pc := 30) (v := 1) hK (by decide) dX7_readLook_30 ?_
    refine V.aload_n (pc := 31) (i := 0) hK rfl ⟨_, rfl⟩ dX7_readLook_31 ?_
    refine V.getI (pc := 32) hK fl_RX7_29 rfl (hL.1 35 _ ls_35) dX7_readLook_32 ?_
    refine V.sipush (pc := 35) (v := 264) hK (by decide) dX7_readLook_35 ?_
    refine V.isub (pc := 38) hK dX7_readLook_38 ?_
    refine V.ishl (pc := 39) hK dX7_readLook_39 ?_
    obtain ⟨hb, h⟩ := v_ckS h
    refine V.iast (pc := 40) hK (hqo.1 2 _ rfl) (v_ibS hb) dX7_readLook_40 ?_
    refine V.nmM (fun M2 eM2 => ?_)
    have h := v_lt eM2 h
    refine V.aload_n (pc := 41) (i := 0) hK rfl ⟨_, rfl⟩ dX7_readLook_41 ?_
    obtain ⟨z3, hz3, h⟩ := v_bdS h
    refine V.cVv (pc := 42) (ci := 7) hK (c_X7_step E hL N _ hz3) Y_X7_step cv_RX7_47 (by decide) rfl (hL.1 35 _ ls_35) dX7_readLook_42 (by decide) rfl (Nat.le_of_ble_eq_true rfl) ?_
    refine V.iconst (pc := 45) (v := 1) hK (by decide) dX7_readLook_45 ?_
    obtain ⟨hb, h⟩ := v_ckS h
    exact V.zret (pc := 46) hO (v_z01 hb) dX7_readLook_46 (v_finI h)
  · rw [if_pos c] at h
    refine V.aload_n (pc := 16) (i := 0) hK rfl ⟨_, rfl⟩ dX7_readLook_16 ?_
    refine V.iconst (pc := 17) (v := 0) hK (by decide) dX7_readLook_17 ?_
    obtain ⟨z4, hz4, h⟩ := v_bdS h
    refine V.cV (pc := 18) (ci := 7) hK (c_X7_fail E hL N _ _ hz4) Y_X7_fail cv_RX7_54 (by decide) rfl (hL.1 35 _ ls_35) dX7_readLook_18 (by decide) rfl (Nat.le_of_ble_eq_true rfl) ?_
    obtain ⟨hb, h⟩ := v_ckS h
    exact V.zret (pc := 21) hO (v_z01 hb) dX7_readLook_21 (v_finI h)
set_option maxHeartbeats 4000000 in
set_option maxRecDepth 100000 in
theorem w_X7_readValue_L100 {E : v_E} {X : v_X} {sh : v_S} {P : v_P} {out : Int32 × v_M} (hL : v_Lay sh P) (qo : Nat) (hqo : v_Or sh P qo) (hro : P 35 1 = some qo) (hO : v_O E X cX7_readValue RX7 2 1 (some .boolean) "readValue" (v_Q1 (some (.int out.1)) sh P out.2)) (N : Nat) (t0 : Int32) (M : v_M) (h : f_X7_readValue_L100 N qo t0 M = some out) : V E X (0, 0) 100 [(0, v_rf E 35)] [.int t0, v_rf E qo] sh P M := by
  have hK := hO.1
  unfold f_X7_readValue_L100 at h
  obtain ⟨z1, hz1, h⟩ := v_bdS h
  refine V.cVv (pc := 100) (ci := 5) hK (c_X5_emit E hL N _ hqo _ _ hz1) Y_X5_emit cv_RX7_114 (by decide) rfl (hqo.1 0 _ rfl) dX7_readValue_100 (by decide) rfl (Nat.le_of_ble_eq_true rfl) ?_
  refine V.aload_n (pc := 103) (i := 0) hK rfl ⟨_, rfl⟩ dX7_readValue_103 ?_
  obtain ⟨z2, hz2, h⟩ := v_bdS h
  refine V.cVv (pc := 104) (ci := 7) hK (c_X7_step E hL N _ hz2) Y_X7_step cv_RX7_47 (by decide) rfl (hL.1 35 _ ls_35) dX7_readValue_104 (by decide) rfl (Nat.le_of_ble_eq_true rfl) ?_
  refine V.iconst (pc := 107) (v := 1) hK (by decide) dX7_readValue_107 ?_
  obtain ⟨hb, h⟩ := v_ckS h
  exact V.zret (pc := 108) hO (v_z01 hb) dX7_readValue_108 (v_finI h)
set_option maxHeartbeats 4000000 in
set_option maxRecDepth 100000 in
theorem w_X7_readValue_L52 {E : v_E} {X : v_X} {sh : v_S} {P : v_P} {out : Int32 × v_M} (hL : v_Lay sh P) (qo : Nat) (hqo : v_Or sh P qo) (hro : P 35 1 = some qo) (hO : v_O E X cX7_readValue RX7 2 1 (some .boolean) "readValue" (v_Q1 (some (.int out.1)) sh P out.2)) (N : Nat) (x1 : Int32) (M : v_M) (h : f_X7_readValue_L52 N qo x1 M = some out) : V E X (0, 0) 52 [(0, v_rf E 35), (1, .int x1)] [] sh P M := by
  have hK := hO.1
  unfold f_X7_readValue_L52 at h
  refine V.aload_n (pc := 52) (i := 0) hK rfl ⟨_, rfl⟩ dX7_readValue_52 ?_
  refine V.getI (pc := 53) hK fl_RX7_35 rfl (hL.1 35 _ ls_35) dX7_readValue_53 ?_
  refine V.bipush (pc := 56) (v := 60) hK (by decide) dX7_readValue_56 ?_
  refine V.icmp_lt (pc := 58) (tgt := 67) hK dX7_readValue_58 (by decide) (fun c => ?_) (fun c => ?_)
  · rw [if_pos c] at h
    refine V.aload_n (pc := 67) (i := 0) hK rfl ⟨_, rfl⟩ dX7_readValue_67 ?_
    refine V.dup (pc := 68) hK rfl dX7_readValue_68 ?_
    refine V.getI (pc := 69) hK fl_RX7_35 rfl (hL.1 35 _ ls_35) dX7_readValue_69 ?_
    refine V.iconst (pc := 72) (v := 1) hK (by decide) dX7_readValue_72 ?_
    refine V.iadd (pc := 73) hK dX7_readValue_73 ?_
    refine V.putI (pc := 74) hK fl_RX7_35 rfl rfl ⟨rfl, rfl⟩ (hL.1 35 _ ls_35) dX7_readValue_74 ?_
    refine V.nmM (fun M1 eM1 => ?_)
    have h := v_lt eM1 h
    refine V.aload_n (pc := 77) (i := 0) hK rfl ⟨_, rfl⟩ dX7_readValue_77 ?_
    refine V.getR (pc := 78) hK fl_RX7_21 rfl (hL.1 35 _ ls_35) hro dX7_readValue_78 ?_
    refine V.iload_n (pc := 81) (i := 1) hK rfl dX7_readValue_81 ?_
    refine V.if_eq (pc := 82) (tgt := 96) hK dX7_readValue_82 (by decide) (fun c => ?_) (fun c => ?_)
    · rw [if_pos c] at h
      refine V.aload_n (pc := 96) (i := 0) hK rfl ⟨_, rfl⟩ dX7_readValue_96 ?_
      refine V.getI (pc := 97) hK fl_RX7_32 rfl (hL.1 35 _ ls_35) dX7_readValue_97 ?_
      refine V.pick [0] (l := [(0, _)]) rfl ?_
      exact w_X7_readValue_L100 hL qo hqo hro hO N _ _ h
    · rw [if_neg c] at h
      refine V.sipush (pc := 85) (v := 267) hK (by decide) dX7_readValue_85 ?_
      refine V.aload_n (pc := 88) (i := 0) hK rfl ⟨_, rfl⟩ dX7_readValue_88 ?_
      refine V.getI (pc := 89) hK fl_RX7_29 rfl (hL.1 35 _ ls_35) dX7_readValue_89 ?_
      refine V.isub (pc := 92) hK dX7_readValue_92 ?_
      refine V.goto (pc := 93) (tgt := 100) hK dX7_readValue_93 (by decide) ?_
      refine V.pick [0] (l := [(0, _)]) rfl ?_
      exact w_X7_readValue_L100 hL qo hqo hro hO N _ _ h
  · rw [if_neg c] at h
    refine V.aload_n (pc := 61) (i := 0) hK rfl ⟨_, rfl⟩ dX7_readValue_61 ?_
    refine V.iconst (pc := 62) (v := 3) hK (by decide) dX7_readValue_62 ?_
    obtain ⟨z2, hz2, h⟩ := v_bdS h
    refine V.cV (pc := 63) (ci := 7) hK (c_X7_fail E hL N _ _ hz2) Y_X7_fail cv_RX7_54 (by decide) rfl (hL.1 35 _ ls_35) dX7_readValue_63 (by decide) rfl (Nat.le_of_ble_eq_true rfl) ?_
    obtain ⟨hb, h⟩ := v_ckS h
    exact V.zret (pc := 66) hO (v_z01 hb) dX7_readValue_66 (v_finI h)
set_option maxHeartbeats 4000000 in
set_option maxRecDepth 100000 in
theorem w_X7_readValue_L34 {E : v_E} {X : v_X} {sh : v_S} {P : v_P} {out : Int32 × v_M} (hL : v_Lay sh P) (qo : Nat) (hqo : v_Or sh P qo) (hro : P 35 1 = some qo) (hO : v_O E X cX7_readValue RX7 2 1 (some .boolean) "readValue" (v_Q1 (some (.int out.1)) sh P out.2)) (N : Nat) (x1 : Int32) (M : v_M) (h : f_X7_readValue_L34 N qo x1 M = some out) : V E X (0, 0) 34 [(0, v_rf E 35), (1, .int x1)] [] sh P M := by
  have hK := hO.1
  unfold f_X7_readValue_L34 at h
  refine V.iload_n (pc := 34) (i := 1) hK rfl dX7_readValue_34 ?_
  refine V.if_ne (pc := 35) (tgt := 52) hK dX7_readValue_35 (by decide) (fun c => ?_) (fun c => ?_)
  · rw [if_neg c] at h
    refine V.pick [0, 1] (l := [(0, _), (1, _)]) rfl ?_
    exact w_X7_readValue_L52 hL qo hqo hro hO N _ _ h
  · rw [if_pos c] at h
    refine V.aload_n (pc := 38) (i := 0) hK rfl ⟨_, rfl⟩ dX7_readValue_38 ?_
    refine V.getI (pc := 39) hK fl_RX7_32 rfl (hL.1 35 _ ls_35) dX7_readValue_39 ?_
    refine V.iconst (pc := 42) (v := -1) hK (by decide) dX7_readValue_42 ?_
    refine V.icmp_ne (pc := 43) (tgt := 52) hK dX7_readValue_43 (by decide) (fun c => ?_) (fun c => ?_)
    · rw [if_neg c] at h
      refine V.pick [0, 1] (l := [(0, _), (1, _)]) rfl ?_
      exact w_X7_readValue_L52 hL qo hqo hro hO N _ _ h
    · rw [if_pos c] at h
      refine V.aload_n (pc := 46) (i := 0) hK rfl ⟨_, rfl⟩ dX7_readValue_46 ?_
      refine V.iconst (pc := 47) (v := 1) hK (by decide) dX7_readValue_47 ?_
      obtain ⟨z1, hz1, h⟩ := v_bdS h
      refine V.cV (pc := 48) (ci := 7) hK (c_X7_fail E hL N _ _ hz1) Y_X7_fail cv_RX7_54 (by decide) rfl (hL.1 35 _ ls_35) dX7_readValue_48 (by decide) rfl (Nat.le_of_ble_eq_true rfl) ?_
      obtain ⟨hb, h⟩ := v_ckS h
      exact V.zret (pc := 51) hO (v_z01 hb) dX7_readValue_51 (v_finI h)
set_option maxHeartbeats 4000000 in
set_option maxRecDepth 100000 in
theorem c_X7_readValue (E : v_E) {sh : v_S} {P : v_P} (hL : v_Lay sh P) (N : Nat) (qo : Nat) (hqo : v_Or sh P qo) (hro : P 35 1 = some qo) (M : v_M) {out : Int32 × v_M} (h : f_X7_readValue N qo M = some out) : v_Ct E 1 yX7_readValue cX7_readValue 2 (some .boolean) 0 0 [v_rf E 35] sh P M (v_Q1 (some (.int out.1)) sh P out.2) := by
  refine v_Ct.of (by decide +kernel) (Nat.le_of_ble_eq_true rfl) (fun X hO => ?_)
  have hK : v_K E X cX7_readValue RX7 2 1 := hO.1
  have hO : v_O E X cX7_readValue RX7 2 1 (some .boolean) "readValue" (v_Q1 (some (.int out.1)) sh P out.2) := hO
  show V E X (0, 0) 0 [(0, v_rf E 35)] [] sh P M
  unfold f_X7_readValue at h
  refine V.aload_n (pc := 0) (i := 0) hK rfl ⟨_, rfl⟩ dX7_readValue_0 ?_
  refine V.getI (pc := 1) hK fl_RX7_29 rfl (hL.1 35 _ ls_35) dX7_readValue_1 ?_
  refine V.sipush (pc := 4) (v := 268) hK (by decide) dX7_readValue_4 ?_
  refine V.sipush (pc := 7) (v := 274) hK (by decide) dX7_readValue_7 ?_
  obtain ⟨z1, hz1, h⟩ := v_bdS h
  refine V.cSN (pc := 10) hK (c_X11_within E hL N _ _ _ _ hz1) Y_X11_within cn_RX7_68 dX7_readValue_10 (by decide) rfl (Nat.le_of_ble_eq_true rfl) ?_
  refine V.topi (fun y2 ey2 => ?_)
  have h := v_lt ey2 h
  refine V.istore_n (pc := 13) (i := 1) (lv' := [(0, _), (1, _)]) hK (by decide) rfl dX7_readValue_13 ?_
  refine V.aload_n (pc := 14) (i := 0) hK rfl ⟨_, rfl⟩ dX7_readValue_14 ?_
  refine V.getI (pc := 15) hK fl_RX7_29 rfl (hL.1 35 _ ls_35) dX7_readValue_15 ?_
  refine V.sipush (pc := 18) (v := 256) hK (by decide) dX7_readValue_18 ?_
  refine V.icmp_eq (pc := 21) (tgt := 34) hK dX7_readValue_21 (by decide) (fun c => ?_) (fun c => ?_)
  · rw [if_pos c] at h
    refine V.pick [0, 1] (l := [(0, _), (1, _)]) rfl ?_
    exact w_X7_readValue_L34 hL qo hqo hro hO N _ _ h
  · rw [if_neg c] at h
    refine V.iload_n (pc := 24) (i := 1) hK rfl dX7_readValue_24 ?_
    refine V.if_ne (pc := 25) (tgt := 34) hK dX7_readValue_25 (by decide) (fun c => ?_) (fun c => ?_)
    · rw [if_neg c] at h
      refine V.pick [0, 1] (l := [(0, _), (1, _)]) rfl ?_
      exact w_X7_readValue_L34 hL qo hqo hro hO N _ _ h
    · rw [if_pos c] at h
      refine V.aload_n (pc := 28) (i := 0) hK rfl ⟨_, rfl⟩ dX7_readValue_28 ?_
      refine V.iconst (pc := 29) (v := 0) hK (by decide) dX7_readValue_29 ?_
      obtain ⟨z3, hz3, h⟩ := v_bdS h
      refine V.cV (pc := 30) (ci := 7) hK (c_X7_fail E hL N _ _ hz3) Y_X7_fail cv_RX7_54 (by decide) rfl (hL.1 35 _ ls_35) dX7_readValue_30 (by decide) rfl (Nat.le_of_ble_eq_true rfl) ?_
      obtain ⟨hb, h⟩ := v_ckS h
      exact V.zret (pc := 33) hO (v_z01 hb) dX7_readValue_33 (v_finI h)
set_option maxHeartbeats 4000000 in
set_option maxRecDepth 100000 in
theorem w_X8_put_L115 {E : v_E} {X : v_X} {sh : v_S} {P : v_P} {out : Int32 × v_M} (hL : v_Lay sh P) (hO : v_O E X cX8_put RX8 6 1 (some .int) "put" (v_Q1 (some (.int out.1)) sh P out.2)) (N : Nat) (x4 : Int32) (x5 : Int32) (t0 : Int32) (t1 : Int32) (M : v_M) (h : f_X8_put_L115 N x4 x5 t0 t1 M = some out) : V E X (0, 0) 115 [(0, v_rf E 52), (4, .int x4), (5, .int x5)] [.int t0, .int t1, v_rf E 58] sh P M := by
  have hK := hO.1
  unfold f_X8_put_L115 at h
  obtain ⟨hb, h⟩ := v_ckS h
  refine V.iast (pc := 115) hK (hL.1 58 _ ls_58) (v_ibS hb) dX8_put_115 ?_
  refine V.nmM (fun M1 eM1 => ?_)
  have h := v_lt eM1 h
  refine V.aload_n (pc := 116) (i := 0) hK rfl ⟨_, rfl⟩ dX8_put_116 ?_
  refine V.getR (pc := 117) hK fl_RX8_37 rfl (hL.1 52 _ ls_52) (hL.2 52 8 60 rfl) dX8_put_117 ?_
  refine V.iload (pc := 120) (i := 5) hK rfl dX8_put_120 ?_
  refine V.iload (pc := 122) (i := 4) hK rfl dX8_put_122 ?_
  obtain ⟨hb, h⟩ := v_ckS h
  refine V.iast (pc := 124) hK (hL.1 60 _ ls_60) (v_ibS hb) dX8_put_124 ?_
  refine V.nmM (fun M2 eM2 => ?_)
  have h := v_lt eM2 h
  refine V.aload_n (pc := 125) (i := 0) hK rfl ⟨_, rfl⟩ dX8_put_125 ?_
  refine V.iload (pc := 126) (i := 4) hK rfl dX8_put_126 ?_
  refine V.iconst (pc := 128) (v := 1) hK (by decide) dX8_put_128 ?_
  refine V.iadd (pc := 129) hK dX8_put_129 ?_
  refine V.putI (pc := 130) hK fl_RX8_9 rfl rfl ⟨rfl, rfl⟩ (hL.1 52 _ ls_52) dX8_put_130 ?_
  refine V.nmM (fun M3 eM3 => ?_)
  have h := v_lt eM3 h
  refine V.iload (pc := 133) (i := 4) hK rfl dX8_put_133 ?_
  exact V.iret (pc := 135) hO dX8_put_135 (v_finI h)
set_option maxHeartbeats 4000000 in
set_option maxRecDepth 100000 in
theorem c_X8_put (E : v_E) {sh : v_S} {P : v_P} (hL : v_Lay sh P) (N : Nat) (x1 : Int32) (x2 : Int32) (x3 : Int32) (M : v_M) {out : Int32 × v_M} (h : f_X8_put N x1 x2 x3 M = some out) : v_Ct E 1 yX8_put cX8_put 6 (some .int) 0 0 [v_rf E 52, .int x1, .int x2, .int x3] sh P M (v_Q1 (some (.int out.1)) sh P out.2) := by
  refine v_Ct.of (by decide +kernel) (Nat.le_of_ble_eq_true rfl) (fun X hO => ?_)
  have hK : v_K E X cX8_put RX8 6 1 := hO.1
  have hO : v_O E X cX8_put RX8 6 1 (some .int) "put" (v_Q1 (some (.int out.1)) sh P out.2) := hO
  show V E X (0, 0) 0 [(0, v_rf E 52), (1, .int x1), (2, .int x2), (3, .int x3)] [] sh P M
  unfold f_X8_put at h
  refine V.aload_n (pc := 0) (i := 0) hK rfl ⟨_, rfl⟩ dX8_put_0 ?_
  refine V.getI (pc := 1) hK fl_RX8_9 rfl (hL.1 52 _ ls_52) dX8_put_1 ?_
  refine V.sipush (pc := 4) (v := 200) hK (by decide) dX8_put_4 ?_
  refine V.icmp_ge (pc := 7) (tgt := 21) hK dX8_put_7 (by decide) (fun c => ?_) (fun c => ?_)
  · rw [if_pos c] at h
    refine V.iconst (pc := 21) (v := -1) hK (by decide) dX8_put_21 ?_
    exact V.iret (pc := 22) hO dX8_put_22 (v_finI h)
  · rw [if_neg c] at h
    refine V.iload_n (pc := 10) (i := 1) hK rfl dX8_put_10 ?_
    refine V.iconst (pc := 11) (v := 0) hK (by decide) dX8_put_11 ?_
    refine V.sipush (pc := 12) (v := 199) hK (by decide) dX8_put_12 ?_
    obtain ⟨z1, hz1, h⟩ := v_bdS h
    refine V.cSN (pc := 15) hK (c_X11_within E hL N _ _ _ _ hz1) Y_X11_within cn_RX8_59 dX8_put_15 (by decide) rfl (Nat.le_of_ble_eq_true rfl) ?_
    refine V.if_ne (pc := 18) (tgt := 23) hK dX8_put_18 (by decide) (fun c => ?_) (fun c => ?_)
    · rw [if_neg c] at h
      refine V.aload_n (pc := 23) (i := 0) hK rfl ⟨_, rfl⟩ dX8_put_23 ?_
      refine V.getI (pc := 24) hK fl_RX8_9 rfl (hL.1 52 _ ls_52) dX8_put_24 ?_
      refine V.topi (fun y2 ey2 => ?_)
      have h := v_lt ey2 h
      refine V.istore (pc := 27) (i := 4) (lv' := [(0, _), (1, _), (2, _), (3, _), (4, _)]) hK (by decide) rfl dX8_put_27 ?_
      refine V.aload_n (pc := 29) (i := 0) hK rfl ⟨_, rfl⟩ dX8_put_29 ?_
      refine V.iload_n (pc := 30) (i := 2) hK rfl dX8_put_30 ?_
      refine V.iload_n (pc := 31) (i := 3) hK rfl dX8_put_31 ?_
      obtain ⟨z3, hz3, h⟩ := v_bdS h
      refine V.cV (pc := 32) (ci := 8) hK (c_X8_findTurn E hL N _ _ _ hz3) Y_X8_findTurn cv_RX8_63 (by decide) rfl (hL.1 52 _ ls_52) dX8_put_32 (by decide) rfl (Nat.le_of_ble_eq_true rfl) ?_
      refine V.topi (fun y4 ey4 => ?_)
      have h := v_lt ey4 h
      refine V.istore (pc := 35) (i := 5) (lv' := [(0, _), (1, _), (2, _), (3, _), (4, _), (5, _)]) hK (by decide) rfl dX8_put_35 ?_
      refine V.aload_n (pc := 37) (i := 0) hK rfl ⟨_, rfl⟩ dX8_put_37 ?_
      refine V.getR (pc := 38) hK fl_RX8_15 rfl (hL.1 52 _ ls_52) (hL.2 52 1 53 rfl) dX8_put_38 ?_
      refine V.iload (pc := 41) (i := 4) hK rfl dX8_put_41 ?_
      refine V.iload_n (pc := 43) (i := 1) hK rfl dX8_put_43 ?_
      obtain ⟨hb, h⟩ := v_ckS h
      refine V.iast (pc := 44) hK (hL.1 53 _ ls_53) (v_ibS hb) dX8_put_44 ?_
      refine V.nmM (fun M5 eM5 => ?_)
      have h := v_lt eM5 h
      refine V.aload_n (pc := 45) (i := 0) hK rfl ⟨_, rfl⟩ dX8_put_45 ?_
      refine V.getR (pc := 46) hK fl_RX8_19 rfl (hL.1 52 _ ls_52) (hL.2 52 2 54 rfl) dX8_put_46 ?_
      refine V.iload (pc := 49) (i := 4) hK rfl dX8_put_49 ?_
      refine V.iload_n (pc := 51) (i := 2) hK rfl dX8_put_51 ?_
      obtain ⟨hb, h⟩ := v_ckS h
      refine V.iast (pc := 52) hK (hL.1 54 _ ls_54) (v_ibS hb) dX8_put_52 ?_
      refine V.nmM (fun M6 eM6 => ?_)
      have h := v_lt eM6 h
      refine V.aload_n (pc := 53) (i := 0) hK rfl ⟨_, rfl⟩ dX8_put_53 ?_
      refine V.getR (pc := 54) hK fl_RX8_22 rfl (hL.1 52 _ ls_52) (hL.2 52 3 55 rfl) dX8_put_54 ?_
      refine V.iload (pc := 57) (i := 4) hK rfl dX8_put_57 ?_
      refine V.iload_n (pc := 59) (i := 3) hK rfl dX8_put_59 ?_
      obtain ⟨hb, h⟩ := v_ckS h
      refine V.iast (pc := 60) hK (hL.1 55 _ ls_55) (v_ibS hb) dX8_put_60 ?_
      refine V.nmM (fun M7 eM7 => ?_)
      have h := v_lt eM7 h
      refine V.aload_n (pc := 61) (i := 0) hK rfl ⟨_, rfl⟩ dX8_put_61 ?_
      refine V.getR (pc := 62) hK fl_RX8_25 rfl (hL.1 52 _ ls_52) (hL.2 52 4 56 rfl) dX8_put_62 ?_
      refine V.iload (pc := 65) (i := 4) hK rfl dX8_put_65 ?_
      refine V.iload (pc := 67) (i := 5) hK rfl dX8_put_67 ?_
      obtain ⟨hb, h⟩ := v_ckS h
      refine V.iast (pc := 69) hK (hL.1 56 _ ls_56) (v_ibS hb) dX8_put_69 ?_
      refine V.nmM (fun M8 eM8 => ?_)
      have h := v_lt eM8 h
      refine V.aload_n (pc := 70) (i := 0) hK rfl ⟨_, rfl⟩ dX8_put_70 ?_
      refine V.getR (pc := 71) hK fl_RX8_28 rfl (hL.1 52 _ ls_52) (hL.2 52 5 57 rfl) dX8_put_71 ?_
      refine V.iload (pc := 74) (i := 4) hK rfl dX8_put_74 ?_
      refine V.aload_n (pc := 76) (i := 0) hK rfl ⟨_, rfl⟩ dX8_put_76 ?_
      refine V.getR (pc := 77) hK fl_RX8_34 rfl (hL.1 52 _ ls_52) (hL.2 52 7 59 rfl) dX8_put_77 ?_
      refine V.iload_n (pc := 80) (i := 1) hK rfl dX8_put_80 ?_
      obtain ⟨hb, h⟩ := v_ckS h
      refine V.iald (pc := 81) hK (hL.1 59 _ ls_59) (v_ibS hb) dX8_put_81 ?_
      obtain ⟨hb, h⟩ := v_ckS h
      refine V.iast (pc := 82) hK (hL.1 57 _ ls_57) (v_ibS hb) dX8_put_82 ?_
      refine V.nmM (fun M9 eM9 => ?_)
      have h := v_lt eM9 h
      refine V.aload_n (pc := 83) (i := 0) hK rfl ⟨_, rfl⟩ dX8_put_83 ?_
      refine V.getR (pc := 84) hK fl_RX8_34 rfl (hL.1 52 _ ls_52) (hL.2 52 7 59 rfl) dX8_put_84 ?_
      refine V.iload_n (pc := 87) (i := 1) hK rfl dX8_put_87 ?_
      refine V.iload (pc := 88) (i := 4) hK rfl dX8_put_88 ?_
      obtain ⟨hb, h⟩ := v_ckS h
      refine V.iast (pc := 90) hK (hL.1 59 _ ls_59) (v_ibS hb) dX8_put_90 ?_
      refine V.nmM (fun M10 eM10 => ?_)
      have h := v_lt eM10 h
      refine V.aload_n (pc := 91) (i := 0) hK rfl ⟨_, rfl⟩ dX8_put_91 ?_
      refine V.getR (pc := 92) hK fl_RX8_31 rfl (hL.1 52 _ ls_52) (hL.2 52 6 58 rfl) dX8_put_92 ?_
      refine V.iload (pc := 95) (i := 4) hK rfl dX8_put_95 ?_
      refine V.iload (pc := 97) (i := 5) hK rfl dX8_put_97 ?_
      refine V.iload (pc := 99) (i := 4) hK rfl dX8_put_99 ?_
      refine V.icmp_ge (pc := 101) (tgt := 114) hK dX8_put_101 (by decide) (fun c => ?_) (fun c => ?_)
      · rw [if_pos c] at h
        refine V.iconst (pc := 114) (v := -1) hK (by decide) dX8_put_114 ?_
        refine V.pick [0, 4, 5] (l := [(0, _), (4, _), (5, _)]) rfl ?_
        exact w_X8_put_L115 hL hO N _ _ _ _ _ h
      · rw [if_neg c] at h
        refine V.aload_n (pc := 104) (i := 0) hK rfl ⟨_, rfl⟩ dX8_put_104 ?_
        refine V.getR (pc := 105) hK fl_RX8_37 rfl (hL.1 52 _ ls_52) (hL.2 52 8 60 rfl) dX8_put_105 ?_
        refine V.iload (pc := 108) (i := 5) hK rfl dX8_put_108 ?_
        obtain ⟨hb, h⟩ := v_ckS h
        refine V.iald (pc := 110) hK (hL.1 60 _ ls_60) (v_ibS hb) dX8_put_110 ?_
        refine V.goto (pc := 111) (tgt := 115) hK dX8_put_111 (by decide) ?_
        refine V.pick [0, 4, 5] (l := [(0, _), (4, _), (5, _)]) rfl ?_
        exact w_X8_put_L115 hL hO N _ _ _ _ _ h
    · rw [if_pos c] at h
      refine V.iconst (pc := 21) (v := -1) hK (by decide) dX8_put_21 ?_
      exact V.iret (pc := 22) hO dX8_put_22 (v_finI h)
set_option maxHeartbeats 4000000 in
set_option maxRecDepth 100000 in
theorem w_X8_tasksOf_L47 {E : v_E} {X : v_X} {sh : v_S} {P : v_P} {out : Int32 × v_M} (hL : v_Lay sh P) (hO : v_O E X cX8_tasksOf RX8 5 1 (some .int) "tasksOf" (v_Q1 (some (.int out.1)) sh P out.2)) (N : Nat) (k4 : Int32 → Int32 → Int32 → v_M → Option (Int32 × v_M)) (hk4 : ∀ (x1 : Int32) (x2 : Int32) (x3 : Int32) (M : v_M), k4 x1 x2 x3 M = some out → V E X (0, 0) 4 [(0, v_rf E 52), (1, .int x1), (2, .int x2), (3, .int x3)] [] sh P M) (x1 : Int32) (x2 : Int32) (x3 : Int32) (M : v_M) (h : f_X8_tasksOf_L47 N k4 x1 x2 x3 M = some out) : V E X (0, 0) 47 [(0, v_rf E 52), (1, .int x1), (2, .int x2), (3, .int x3)] [] sh P M := by
  have hK := hO.1
  unfold f_X8_tasksOf_L47 at h
  refine V.iinc (pc := 47) (i := 3) (v := 1) (lv' := [(0, _), (1, _), (2, _), (3, _)]) hK rfl (by decide) (by decide) rfl dX8_tasksOf_47 ?_
  refine V.goto (pc := 50) (tgt := 4) hK dX8_tasksOf_50 (by decide) ?_
  refine V.pick [0, 1, 2, 3] (l := [(0, _), (1, _), (2, _), (3, _)]) rfl ?_
  exact hk4 _ _ _ _ h
set_option maxHeartbeats 4000000 in
set_option maxRecDepth 100000 in
theorem w_X8_tasksOf_L4 {E : v_E} {X : v_X} {sh : v_S} {P : v_P} {out : Int32 × v_M} (hL : v_Lay sh P) (hO : v_O E X cX8_tasksOf RX8 5 1 (some .int) "tasksOf" (v_Q1 (some (.int out.1)) sh P out.2)) (N : Nat) (n : Nat) : ∀ (x1 : Int32) (x2 : Int32) (x3 : Int32) (M : v_M), f_X8_tasksOf_L4 N n x1 x2 x3 M = some out → V E X (0, 0) 4 [(0, v_rf E 52), (1, .int x1), (2, .int x2), (3, .int x3)] [] sh P M := by
  have hK := hO.1
  induction n with
  | zero => intro x1 x2 x3 M h; rw [f_X8_tasksOf_L4] at h; cases h
  | succ n ih =>
    intro x1 x2 x3 M h
    rw [f_X8_tasksOf_L4] at h
    refine V.iload_n (pc := 4) (i := 3) hK rfl dX8_tasksOf_4 ?_
    refine V.bipush (pc := 5) (v := 10) hK (by decide) dX8_tasksOf_5 ?_
    refine V.icmp_ge (pc := 7) (tgt := 53) hK dX8_tasksOf_7 (by decide) (fun c => ?_) (fun c => ?_)
    · rw [if_pos c] at h
      refine V.iload_n (pc := 53) (i := 2) hK rfl dX8_tasksOf_53 ?_
      exact V.iret (pc := 54) hO dX8_tasksOf_54 (v_finI h)
    · rw [if_neg c] at h
      refine V.iload_n (pc := 10) (i := 1) hK rfl dX8_tasksOf_10 ?_
      refine V.bipush (pc := 11) (v := 10) hK (by decide) dX8_tasksOf_11 ?_
      refine V.imul (pc := 13) hK dX8_tasksOf_13 ?_
      refine V.iload_n (pc := 14) (i := 3) hK rfl dX8_tasksOf_14 ?_
      refine V.iadd (pc := 15) hK dX8_tasksOf_15 ?_
      refine V.topi (fun y1 ey1 => ?_)
      have h := v_lt ey1 h
      refine V.istore (pc := 16) (i := 4) (lv' := [(0, _), (1, _), (2, _), (3, _), (4, _)]) hK (by decide) rfl dX8_tasksOf_16 ?_
      refine V.iload (pc := 18) (i := 4) hK rfl dX8_tasksOf_18 ?_
      refine V.iconst (pc := 20) (v := 0) hK (by decide) dX8_tasksOf_20 ?_
      refine V.sipush (pc := 21) (v := 199) hK (by decide) dX8_tasksOf_21 ?_
      obtain ⟨z2, hz2, h⟩ := v_bdS h
      refine V.cSN (pc := 24) hK (c_X11_within E hL N _ _ _ _ hz2) Y_X11_within cn_RX8_59 dX8_tasksOf_24 (by decide) rfl (Nat.le_of_ble_eq_true rfl) ?_
      refine V.if_eq (pc := 27) (tgt := 47) hK dX8_tasksOf_27 (by decide) (fun c => ?_) (fun c => ?_)
      · rw [if_pos c] at h
        refine V.pick [0, 1, 2, 3] (l := [(0, _), (1, _), (2, _), (3, _)]) rfl ?_
        exact w_X8_tasksOf_L47 hL hO N _ ih _ _ _ _ h
      · rw [if_neg c] at h
        refine V.aload_n (pc := 30) (i := 0) hK rfl ⟨_, rfl⟩ dX8_tasksOf_30 ?_
        refine V.getR (pc := 31) hK fl_RX8_34 rfl (hL.1 52 _ ls_52) (hL.2 52 7 59 rfl) dX8_tasksOf_31 ?_
        refine V.iload (pc := 34) (i := 4) hK rfl dX8_tasksOf_34 ?_
        obtain ⟨hb, h⟩ := v_ckS h
        refine V.iald (pc := 36) hK (hL.1 59 _ ls_59) (v_ibS hb) dX8_tasksOf_36 ?_
        refine V.iconst (pc := 37) (v := -1) hK (by decide) dX8_tasksOf_37 ?_
        refine V.icmp_eq (pc := 38) (tgt := 47) hK dX8_tasksOf_38 (by decide) (fun c => ?_) (fun c => ?_)
        · rw [if_pos c] at h
          refine V.pick [0, 1, 2, 3] (l := [(0, _), (1, _), (2, _), (3, _)]) rfl ?_
          exact w_X8_tasksOf_L47 hL hO N _ ih _ _ _ _ h
        · rw [if_neg c] at h
          refine V.iload_n (pc := 41) (i := 2) hK rfl dX8_tasksOf_41 ?_
          refine V.iconst (pc := 42) (v := 1) hK (by decide) dX8_tasksOf_42 ?_
          refine V.iload_n (pc := 43) (i := 3) hK rfl dX8_tasksOf_43 ?_
          refine V.ishl (pc := 44) hK dX8_tasksOf_44 ?_
          refine V.ior (pc := 45) hK dX8_tasksOf_45 ?_
          refine V.topi (fun y3 ey3 => ?_)
          have h := v_lt ey3 h
          refine V.istore_n (pc := 46) (i := 2) (lv' := [(0, _), (1, _), (2, _), (3, _), (4, _)]) hK (by decide) rfl dX8_tasksOf_46 ?_
          refine V.pick [0, 1, 2, 3] (l := [(0, _), (1, _), (2, _), (3, _)]) rfl ?_
          exact w_X8_tasksOf_L47 hL hO N _ ih _ _ _ _ h
set_option maxHeartbeats 4000000 in
set_option maxRecDepth 100000 in
theorem c_X8_tasksOf (E : v_E) {sh : v_S} {P : v_P} (hL : v_Lay sh P) (N : Nat) (x1 : Int32) (M : v_M) {out : Int32 × v_M} (h : f_X8_tasksOf N x1 M = some out) : v_Ct E 1 yX8_tasksOf cX8_tasksOf 5 (some .int) 0 0 [v_rf E 52, .int x1] sh P M (v_Q1 (some (.int out.1)) sh P out.2) := by
  refine v_Ct.of (by decide +kernel) (Nat.le_of_ble_eq_true rfl) (fun X hO => ?_)
  have hK : v_K E X cX8_tasksOf RX8 5 1 := hO.1
  have hO : v_O E X cX8_tasksOf RX8 5 1 (some .int) "tasksOf" (v_Q1 (some (.int out.1)) sh P out.2) := hO
  show V E X (0, 0) 0 [(0, v_rf E 52), (1, .int x1)] [] sh P M
  unfold f_X8_tasksOf at h
  refine V.iconst (pc := 0) (v := 0) hK (by decide) dX8_tasksOf_0 ?_
  refine V.istore_n (pc := 1) (i := 2) (lv' := [(0, _), (1, _), (2, _)]) hK (by decide) rfl dX8_tasksOf_1 ?_
  refine V.iconst (pc := 2) (v := 0) hK (by decide) dX8_tasksOf_2 ?_
  refine V.istore_n (pc := 3) (i := 3) (lv' := [(0, _), (1, _), (2, _), (3, _)]) hK (by decide) rfl dX8_tasksOf_3 ?_
  refine V.pick [0, 1, 2, 3] (l := [(0, _), (1, _), (2, _), (3, _)]) rfl ?_
  exact w_X8_tasksOf_L4 hL hO N N _ _ _ _ h
set_option maxHeartbeats 4000000 in
set_option maxRecDepth 100000 in
theorem w_X8_forgetFrom_L140 {E : v_E} {X : v_X} {sh : v_S} {P : v_P} {out : Int32 × v_M} (hL : v_Lay sh P) (hO : v_O E X cX8_forgetFrom RX8 5 2 none "forgetFrom" (v_Q1 (none) sh P out.2)) (N : Nat) (k87 : Int32 → Int32 → Int32 → v_M → Option (Int32 × v_M)) (hk87 : ∀ (x1 : Int32) (x3 : Int32) (x4 : Int32) (M : v_M), k87 x1 x3 x4 M = some out → V E X (0, 0) 87 [(0, v_rf E 52), (1, .int x1), (3, .int x3), (4, .int x4)] [] sh P M) (x1 : Int32) (x3 : Int32) (x4 : Int32) (M : v_M) (h : f_X8_forgetFrom_L140 N k87 x1 x3 x4 M = some out) : V E X (0, 0) 140 [(0, v_rf E 52), (1, .int x1), (3, .int x3), (4, .int x4)] [] sh P M := by
  have hK := hO.1
  unfold f_X8_forgetFrom_L140 at h
  refine V.iinc (pc := 140) (i := 4) (v := 1) (lv' := [(0, _), (1, _), (3, _), (4, _)]) hK rfl (by decide) (by decide) rfl dX8_forgetFrom_140 ?_
  refine V.goto (pc := 143) (tgt := 87) hK dX8_forgetFrom_143 (by decide) ?_
  refine V.pick [0, 1, 3, 4] (l := [(0, _), (1, _), (3, _), (4, _)]) rfl ?_
  exact hk87 _ _ _ _ h
set_option maxHeartbeats 4000000 in
set_option maxRecDepth 100000 in
theorem w_X8_forgetFrom_L87 {E : v_E} {X : v_X} {sh : v_S} {P : v_P} {out : Int32 × v_M} (hL : v_Lay sh P) (hO : v_O E X cX8_forgetFrom RX8 5 2 none "forgetFrom" (v_Q1 (none) sh P out.2)) (N : Nat) (n : Nat) : ∀ (x1 : Int32) (x3 : Int32) (x4 : Int32) (M : v_M), f_X8_forgetFrom_L87 N n x1 x3 x4 M = some out → V E X (0, 0) 87 [(0, v_rf E 52), (1, .int x1), (3, .int x3), (4, .int x4)] [] sh P M := by
  have hK := hO.1
  induction n with
  | zero => intro x1 x3 x4 M h; rw [f_X8_forgetFrom_L87] at h; cases h
  | succ n ih =>
    intro x1 x3 x4 M h
    rw [f_X8_forgetFrom_L87] at h
    refine V.iload (pc := 87) (i := 4) hK rfl dX8_forgetFrom_87 ?_
    refine V.iload_n (pc := 89) (i := 3) hK rfl dX8_forgetFrom_89 ?_
    refine V.icmp_ge (pc := 90) (tgt := 146) hK dX8_forgetFrom_90 (by decide) (fun c => ?_) (fun c => ?_)
    · rw [if_pos c] at h
      exact V.vret (pc := 146) hO dX8_forgetFrom_146 (v_finV h)
    · rw [if_neg c] at h
      refine V.iload (pc := 93) (i := 4) hK rfl dX8_forgetFrom_93 ?_
      refine V.bipush (pc := 95) (v := 100) hK (by decide) dX8_forgetFrom_95 ?_
      refine V.icmp_ge (pc := 97) (tgt := 146) hK dX8_forgetFrom_97 (by decide) (fun c => ?_) (fun c => ?_)
      · rw [if_pos c] at h
        exact V.vret (pc := 146) hO dX8_forgetFrom_146 (v_finV h)
      · rw [if_neg c] at h
        refine V.aload_n (pc := 100) (i := 0) hK rfl ⟨_, rfl⟩ dX8_forgetFrom_100 ?_
        refine V.getR (pc := 101) hK fl_RX8_43 rfl (hL.1 52 _ ls_52) (hL.2 52 10 61 rfl) dX8_forgetFrom_101 ?_
        refine V.iload (pc := 104) (i := 4) hK rfl dX8_forgetFrom_104 ?_
        obtain ⟨hb, h⟩ := v_ckS h
        refine V.iald (pc := 106) hK (hL.1 61 _ ls_61) (v_ibS hb) dX8_forgetFrom_106 ?_
        refine V.iload_n (pc := 107) (i := 1) hK rfl dX8_forgetFrom_107 ?_
        refine V.bipush (pc := 108) (v := 10) hK (by decide) dX8_forgetFrom_108 ?_
        refine V.imul (pc := 110) hK dX8_forgetFrom_110 ?_
        refine V.icmp_ge (pc := 111) (tgt := 140) hK dX8_forgetFrom_111 (by decide) (fun c => ?_) (fun c => ?_)
        · rw [if_pos c] at h
          refine V.pick [0, 1, 3, 4] (l := [(0, _), (1, _), (3, _), (4, _)]) rfl ?_
          exact w_X8_forgetFrom_L140 hL hO N _ ih _ _ _ _ h
        · rw [if_neg c] at h
          refine V.aload_n (pc := 114) (i := 0) hK rfl ⟨_, rfl⟩ dX8_forgetFrom_114 ?_
          refine V.aload_n (pc := 115) (i := 0) hK rfl ⟨_, rfl⟩ dX8_forgetFrom_115 ?_
          refine V.getR (pc := 116) hK fl_RX8_43 rfl (hL.1 52 _ ls_52) (hL.2 52 10 61 rfl) dX8_forgetFrom_116 ?_
          refine V.iload (pc := 119) (i := 4) hK rfl dX8_forgetFrom_119 ?_
          obtain ⟨hb, h⟩ := v_ckS h
          refine V.iald (pc := 121) hK (hL.1 61 _ ls_61) (v_ibS hb) dX8_forgetFrom_121 ?_
          refine V.aload_n (pc := 122) (i := 0) hK rfl ⟨_, rfl⟩ dX8_forgetFrom_122 ?_
          refine V.getR (pc := 123) hK fl_RX8_46 rfl (hL.1 52 _ ls_52) (hL.2 52 11 62 rfl) dX8_forgetFrom_123 ?_
          refine V.iload (pc := 126) (i := 4) hK rfl dX8_forgetFrom_126 ?_
          obtain ⟨hb, h⟩ := v_ckS h
          refine V.iald (pc := 128) hK (hL.1 62 _ ls_62) (v_ibS hb) dX8_forgetFrom_128 ?_
          refine V.aload_n (pc := 129) (i := 0) hK rfl ⟨_, rfl⟩ dX8_forgetFrom_129 ?_
          refine V.getR (pc := 130) hK fl_RX8_49 rfl (hL.1 52 _ ls_52) (hL.2 52 12 63 rfl) dX8_forgetFrom_130 ?_
          refine V.iload (pc := 133) (i := 4) hK rfl dX8_forgetFrom_133 ?_
          obtain ⟨hb, h⟩ := v_ckS h
          refine V.zald (pc := 135) hK (hL.1 63 _ ls_63) (v_ibS hb) dX8_forgetFrom_135 ?_
          obtain ⟨z1, hz1, h⟩ := v_bdS h
          refine V.cV (pc := 136) (ci := 8) hK (c_X8_putSeen E hL N _ _ _ _ hz1) Y_X8_putSeen cv_RX8_71 (by decide) rfl (hL.1 52 _ ls_52) dX8_forgetFrom_136 (by decide) rfl (Nat.le_of_ble_eq_true rfl) ?_
          refine V.pop (pc := 139) hK rfl dX8_forgetFrom_139 ?_
          refine V.pick [0, 1, 3, 4] (l := [(0, _), (1, _), (3, _), (4, _)]) rfl ?_
          exact w_X8_forgetFrom_L140 hL hO N _ ih _ _ _ _ h
set_option maxHeartbeats 4000000 in
set_option maxRecDepth 100000 in
theorem w_X8_forgetFrom_L74 {E : v_E} {X : v_X} {sh : v_S} {P : v_P} {out : Int32 × v_M} (hL : v_Lay sh P) (hO : v_O E X cX8_forgetFrom RX8 5 2 none "forgetFrom" (v_Q1 (none) sh P out.2)) (N : Nat) (x1 : Int32) (M : v_M) (h : f_X8_forgetFrom_L74 N x1 M = some out) : V E X (0, 0) 74 [(0, v_rf E 52), (1, .int x1)] [] sh P M := by
  have hK := hO.1
  unfold f_X8_forgetFrom_L74 at h
  refine V.aload_n (pc := 74) (i := 0) hK rfl ⟨_, rfl⟩ dX8_forgetFrom_74 ?_
  refine V.getI (pc := 75) hK fl_RX8_40 rfl (hL.1 52 _ ls_52) dX8_forgetFrom_75 ?_
  refine V.topi (fun y1 ey1 => ?_)
  have h := v_lt ey1 h
  refine V.istore_n (pc := 78) (i := 3) (lv' := [(0, _), (1, _), (3, _)]) hK (by decide) rfl dX8_forgetFrom_78 ?_
  refine V.aload_n (pc := 79) (i := 0) hK rfl ⟨_, rfl⟩ dX8_forgetFrom_79 ?_
  refine V.iconst (pc := 80) (v := 0) hK (by decide) dX8_forgetFrom_80 ?_
  refine V.putI (pc := 81) hK fl_RX8_40 rfl rfl ⟨rfl, rfl⟩ (hL.1 52 _ ls_52) dX8_forgetFrom_81 ?_
  refine V.nmM (fun M2 eM2 => ?_)
  have h := v_lt eM2 h
  refine V.iconst (pc := 84) (v := 0) hK (by decide) dX8_forgetFrom_84 ?_
  refine V.istore (pc := 85) (i := 4) (lv' := [(0, _), (1, _), (3, _), (4, _)]) hK (by decide) rfl dX8_forgetFrom_85 ?_
  refine V.pick [0, 1, 3, 4] (l := [(0, _), (1, _), (3, _), (4, _)]) rfl ?_
  exact w_X8_forgetFrom_L87 hL hO N N _ _ _ _ h
set_option maxHeartbeats 4000000 in
set_option maxRecDepth 100000 in
theorem w_X8_forgetFrom_L68 {E : v_E} {X : v_X} {sh : v_S} {P : v_P} {out : Int32 × v_M} (hL : v_Lay sh P) (hO : v_O E X cX8_forgetFrom RX8 5 2 none "forgetFrom" (v_Q1 (none) sh P out.2)) (N : Nat) (k20 : Int32 → Int32 → Int32 → v_M → Option (Int32 × v_M)) (hk20 : ∀ (x1 : Int32) (x2 : Int32) (x3 : Int32) (M : v_M), k20 x1 x2 x3 M = some out → V E X (0, 0) 20 [(0, v_rf E 52), (1, .int x1), (2, .int x2), (3, .int x3)] [] sh P M) (x1 : Int32) (x2 : Int32) (x3 : Int32) (M : v_M) (h : f_X8_forgetFrom_L68 N k20 x1 x2 x3 M = some out) : V E X (0, 0) 68 [(0, v_rf E 52), (1, .int x1), (2, .int x2), (3, .int x3)] [] sh P M := by
  have hK := hO.1
  unfold f_X8_forgetFrom_L68 at h
  refine V.iinc (pc := 68) (i := 3) (v := 1) (lv' := [(0, _), (1, _), (2, _), (3, _)]) hK rfl (by decide) (by decide) rfl dX8_forgetFrom_68 ?_
  refine V.goto (pc := 71) (tgt := 20) hK dX8_forgetFrom_71 (by decide) ?_
  refine V.pick [0, 1, 2, 3] (l := [(0, _), (1, _), (2, _), (3, _)]) rfl ?_
  exact hk20 _ _ _ _ h
set_option maxHeartbeats 4000000 in
set_option maxRecDepth 100000 in
theorem w_X8_forgetFrom_L20 {E : v_E} {X : v_X} {sh : v_S} {P : v_P} {out : Int32 × v_M} (hL : v_Lay sh P) (hO : v_O E X cX8_forgetFrom RX8 5 2 none "forgetFrom" (v_Q1 (none) sh P out.2)) (N : Nat) (n : Nat) : ∀ (x1 : Int32) (x2 : Int32) (x3 : Int32) (M : v_M), f_X8_forgetFrom_L20 N n x1 x2 x3 M = some out → V E X (0, 0) 20 [(0, v_rf E 52), (1, .int x1), (2, .int x2), (3, .int x3)] [] sh P M := by
  have hK := hO.1
  induction n with
  | zero => intro x1 x2 x3 M h; rw [f_X8_forgetFrom_L20] at h; cases h
  | succ n ih =>
    intro x1 x2 x3 M h
    rw [f_X8_forgetFrom_L20] at h
    refine V.iload_n (pc := 20) (i := 3) hK rfl dX8_forgetFrom_20 ?_
    refine V.iload_n (pc := 21) (i := 2) hK rfl dX8_forgetFrom_21 ?_
    refine V.icmp_ge (pc := 22) (tgt := 74) hK dX8_forgetFrom_22 (by decide) (fun c => ?_) (fun c => ?_)
    · rw [if_pos c] at h
      refine V.pick [0, 1] (l := [(0, _), (1, _)]) rfl ?_
      exact w_X8_forgetFrom_L74 hL hO N _ _ h
    · rw [if_neg c] at h
      refine V.iload_n (pc := 25) (i := 3) hK rfl dX8_forgetFrom_25 ?_
      refine V.sipush (pc := 26) (v := 200) hK (by decide) dX8_forgetFrom_26 ?_
      refine V.icmp_ge (pc := 29) (tgt := 74) hK dX8_forgetFrom_29 (by decide) (fun c => ?_) (fun c => ?_)
      · rw [if_pos c] at h
        refine V.pick [0, 1] (l := [(0, _), (1, _)]) rfl ?_
        exact w_X8_forgetFrom_L74 hL hO N _ _ h
      · rw [if_neg c] at h
        refine V.aload_n (pc := 32) (i := 0) hK rfl ⟨_, rfl⟩ dX8_forgetFrom_32 ?_
        refine V.getR (pc := 33) hK fl_RX8_15 rfl (hL.1 52 _ ls_52) (hL.2 52 1 53 rfl) dX8_forgetFrom_33 ?_
        refine V.iload_n (pc := 36) (i := 3) hK rfl dX8_forgetFrom_36 ?_
        obtain ⟨hb, h⟩ := v_ckS h
        refine V.iald (pc := 37) hK (hL.1 53 _ ls_53) (v_ibS hb) dX8_forgetFrom_37 ?_
        refine V.iload_n (pc := 38) (i := 1) hK rfl dX8_forgetFrom_38 ?_
        refine V.bipush (pc := 39) (v := 10) hK (by decide) dX8_forgetFrom_39 ?_
        refine V.imul (pc := 41) hK dX8_forgetFrom_41 ?_
        refine V.icmp_ge (pc := 42) (tgt := 68) hK dX8_forgetFrom_42 (by decide) (fun c => ?_) (fun c => ?_)
        · rw [if_pos c] at h
          refine V.pick [0, 1, 2, 3] (l := [(0, _), (1, _), (2, _), (3, _)]) rfl ?_
          exact w_X8_forgetFrom_L68 hL hO N _ ih _ _ _ _ h
        · rw [if_neg c] at h
          refine V.aload_n (pc := 45) (i := 0) hK rfl ⟨_, rfl⟩ dX8_forgetFrom_45 ?_
          refine V.aload_n (pc := 46) (i := 0) hK rfl ⟨_, rfl⟩ dX8_forgetFrom_46 ?_
          refine V.getR (pc := 47) hK fl_RX8_15 rfl (hL.1 52 _ ls_52) (hL.2 52 1 53 rfl) dX8_forgetFrom_47 ?_
          refine V.iload_n (pc := 50) (i := 3) hK rfl dX8_forgetFrom_50 ?_
          obtain ⟨hb, h⟩ := v_ckS h
          refine V.iald (pc := 51) hK (hL.1 53 _ ls_53) (v_ibS hb) dX8_forgetFrom_51 ?_
          refine V.aload_n (pc := 52) (i := 0) hK rfl ⟨_, rfl⟩ dX8_forgetFrom_52 ?_
          refine V.getR (pc := 53) hK fl_RX8_19 rfl (hL.1 52 _ ls_52) (hL.2 52 2 54 rfl) dX8_forgetFrom_53 ?_
          refine V.iload_n (pc := 56) (i := 3) hK rfl dX8_forgetFrom_56 ?_
          obtain ⟨hb, h⟩ := v_ckS h
          refine V.iald (pc := 57) hK (hL.1 54 _ ls_54) (v_ibS hb) dX8_forgetFrom_57 ?_
          refine V.aload_n (pc := 58) (i := 0) hK rfl ⟨_, rfl⟩ dX8_forgetFrom_58 ?_
          refine V.getR (pc := 59) hK fl_RX8_22 rfl (hL.1 52 _ ls_52) (hL.2 52 3 55 rfl) dX8_forgetFrom_59 ?_
          refine V.iload_n (pc := 62) (i := 3) hK rfl dX8_forgetFrom_62 ?_
          obtain ⟨hb, h⟩ := v_ckS h
          refine V.iald (pc := 63) hK (hL.1 55 _ ls_55) (v_ibS hb) dX8_forgetFrom_63 ?_
          obtain ⟨z1, hz1, h⟩ := v_bdS h
          refine V.cV (pc := 64) (ci := 8) hK (c_X8_put E hL N _ _ _ _ hz1) Y_X8_put cv_RX8_67 (by decide) rfl (hL.1 52 _ ls_52) dX8_forgetFrom_64 (by decide) rfl (Nat.le_of_ble_eq_true rfl) ?_
          refine V.pop (pc := 67) hK rfl dX8_forgetFrom_67 ?_
          refine V.pick [0, 1, 2, 3] (l := [(0, _), (1, _), (2, _), (3, _)]) rfl ?_
          exact w_X8_forgetFrom_L68 hL hO N _ ih _ _ _ _ h
set_option maxHeartbeats 4000000 in
set_option maxRecDepth 100000 in
theorem c_X8_forgetFrom (E : v_E) {sh : v_S} {P : v_P} (hL : v_Lay sh P) (N : Nat) (x1 : Int32) (M : v_M) {out : Int32 × v_M} (h : f_X8_forgetFrom N x1 M = some out) : v_Ct E 2 yX8_forgetFrom cX8_forgetFrom 5 none 0 0 [v_rf E 52, .int x1] sh P M (v_Q1 (none) sh P out.2) := by
  refine v_Ct.of (by decide +kernel) (Nat.le_of_ble_eq_true rfl) (fun X hO => ?_)
  have hK : v_K E X cX8_forgetFrom RX8 5 2 := hO.1
  have hO : v_O E X cX8_forgetFrom RX8 5 2 none "forgetFrom" (v_Q1 (none) sh P out.2) := hO
  show V E X (0, 0) 0 [(0, v_rf E 52), (1, .int x1)] [] sh P M
  unfold f_X8_forgetFrom at h
  refine V.aload_n (pc := 0) (i := 0) hK rfl ⟨_, rfl⟩ dX8_forgetFrom_0 ?_
  refine V.getI (pc := 1) hK fl_RX8_9 rfl (hL.1 52 _ ls_52) dX8_forgetFrom_1 ?_
  refine V.topi (fun y1 ey1 => ?_)
  have h := v_lt ey1 h
  refine V.istore_n (pc := 4) (i := 2) (lv' := [(0, _), (1, _), (2, _)]) hK (by decide) rfl dX8_forgetFrom_4 ?_
  refine V.aload_n (pc := 5) (i := 0) hK rfl ⟨_, rfl⟩ dX8_forgetFrom_5 ?_
  refine V.iconst (pc := 6) (v := 0) hK (by decide) dX8_forgetFrom_6 ?_
  refine V.putI (pc := 7) hK fl_RX8_9 rfl rfl ⟨rfl, rfl⟩ (hL.1 52 _ ls_52) dX8_forgetFrom_7 ?_
  refine V.nmM (fun M2 eM2 => ?_)
  have h := v_lt eM2 h
  refine V.aload_n (pc := 10) (i := 0) hK rfl ⟨_, rfl⟩ dX8_forgetFrom_10 ?_
  refine V.getR (pc := 11) hK fl_RX8_34 rfl (hL.1 52 _ ls_52) (hL.2 52 7 59 rfl) dX8_forgetFrom_11 ?_
  refine V.iconst (pc := 14) (v := -1) hK (by decide) dX8_forgetFrom_14 ?_
  obtain ⟨z3, hz3, h⟩ := v_bdS h
  refine V.cSv (pc := 15) hK (c_J7_fill_53178 E hL N _ _ (hL.1 59 _ ls_59) _ _ hz3) Y_J7_fill_53178 cs_RX8_53 dX8_forgetFrom_15 (by decide) rfl (Nat.le_of_ble_eq_true rfl) ?_
  refine V.iconst (pc := 18) (v := 0) hK (by decide) dX8_forgetFrom_18 ?_
  refine V.istore_n (pc := 19) (i := 3) (lv' := [(0, _), (1, _), (2, _), (3, _)]) hK (by decide) rfl dX8_forgetFrom_19 ?_
  refine V.pick [0, 1, 2, 3] (l := [(0, _), (1, _), (2, _), (3, _)]) rfl ?_
  exact w_X8_forgetFrom_L20 hL hO N N _ _ _ _ h
set_option maxHeartbeats 4000000 in
set_option maxRecDepth 100000 in
theorem w_X9_splitNumber_L50 {E : v_E} {X : v_X} {sh : v_S} {P : v_P} {out : Int32 × v_M} (hL : v_Lay sh P) (hO : v_O E X cX9_splitNumber RX9 3 1 (some .int) "splitNumber" (v_Q1 (some (.int out.1)) sh P out.2)) (N : Nat) (k4 : Int32 → Int32 → v_M → Option (Int32 × v_M)) (hk4 : ∀ (x1 : Int32) (x2 : Int32) (M : v_M), k4 x1 x2 M = some out → V E X (0, 0) 4 [(0, v_rf E 36), (1, .int x1), (2, .int x2)] [] sh P M) (x2 : Int32) (t0 : Int32) (M : v_M) (h : f_X9_splitNumber_L50 N k4 x2 t0 M = some out) : V E X (0, 0) 50 [(0, v_rf E 36), (2, .int x2)] [.int t0] sh P M := by
  have hK := hO.1
  unfold f_X9_splitNumber_L50 at h
  refine V.istore_n (pc := 50) (i := 1) (lv' := [(0, _), (1, _), (2, _)]) hK (by decide) rfl dX9_splitNumber_50 ?_
  refine V.aload_n (pc := 51) (i := 0) hK rfl ⟨_, rfl⟩ dX9_splitNumber_51 ?_
  refine V.dup (pc := 52) hK rfl dX9_splitNumber_52 ?_
  refine V.getI (pc := 53) hK fl_RX9_18 rfl (hL.1 36 _ ls_36) dX9_splitNumber_53 ?_
  refine V.iconst (pc := 56) (v := 1) hK (by decide) dX9_splitNumber_56 ?_
  refine V.iadd (pc := 57) hK dX9_splitNumber_57 ?_
  refine V.putI (pc := 58) hK fl_RX9_18 rfl rfl ⟨rfl, rfl⟩ (hL.1 36 _ ls_36) dX9_splitNumber_58 ?_
  refine V.nmM (fun M1 eM1 => ?_)
  have h := v_lt eM1 h
  refine V.iinc (pc := 61) (i := 2) (v := 1) (lv' := [(0, _), (1, _), (2, _)]) hK rfl (by decide) (by decide) rfl dX9_splitNumber_61 ?_
  refine V.goto (pc := 64) (tgt := 4) hK dX9_splitNumber_64 (by decide) ?_
  refine V.pick [0, 1, 2] (l := [(0, _), (1, _), (2, _)]) rfl ?_
  exact hk4 _ _ _ h
set_option maxHeartbeats 4000000 in
set_option maxRecDepth 100000 in
theorem w_X9_splitNumber_L4 {E : v_E} {X : v_X} {sh : v_S} {P : v_P} {out : Int32 × v_M} (hL : v_Lay sh P) (hO : v_O E X cX9_splitNumber RX9 3 1 (some .int) "splitNumber" (v_Q1 (some (.int out.1)) sh P out.2)) (N : Nat) (n : Nat) : ∀ (x1 : Int32) (x2 : Int32) (M : v_M), f_X9_splitNumber_L4 N n x1 x2 M = some out → V E X (0, 0) 4 [(0, v_rf E 36), (1, .int x1), (2, .int x2)] [] sh P M := by
  have hK := hO.1
  induction n with
  | zero => intro x1 x2 M h; rw [f_X9_splitNumber_L4] at h; cases h
  | succ n ih =>
    intro x1 x2 M h
    rw [f_X9_splitNumber_L4] at h
    refine V.iload_n (pc := 4) (i := 2) hK rfl dX9_splitNumber_4 ?_
    refine V.sipush (pc := 5) (v := 400) hK (by decide) dX9_splitNumber_5 ?_
    refine V.icmp_ge (pc := 8) (tgt := 67) hK dX9_splitNumber_8 (by decide) (fun c => ?_) (fun c => ?_)
    · rw [if_pos c] at h
      refine V.iload_n (pc := 67) (i := 1) hK rfl dX9_splitNumber_67 ?_
      exact V.iret (pc := 68) hO dX9_splitNumber_68 (v_finI h)
    · rw [if_neg c] at h
      refine V.aload_n (pc := 11) (i := 0) hK rfl ⟨_, rfl⟩ dX9_splitNumber_11 ?_
      refine V.aload_n (pc := 12) (i := 0) hK rfl ⟨_, rfl⟩ dX9_splitNumber_12 ?_
      refine V.getI (pc := 13) hK fl_RX9_18 rfl (hL.1 36 _ ls_36) dX9_splitNumber_13 ?_
      obtain ⟨z1, hz1, h⟩ := v_bdS h
      refine V.cV (pc := 16) (ci := 9) hK (c_X9_byteAt E hL N _ _ hz1) Y_X9_byteAt cv_RX9_41 (by decide) rfl (hL.1 36 _ ls_36) dX9_splitNumber_16 (by decide) rfl (Nat.le_of_ble_eq_true rfl) ?_
      obtain ⟨z2, hz2, h⟩ := v_bdS h
      refine V.cS (pc := 19) hK (c_X9_isDigit E hL N _ _ hz2) Y_X9_isDigit cs_RX9_44 dX9_splitNumber_19 (by decide) rfl (Nat.le_of_ble_eq_true rfl) ?_
      refine V.if_eq (pc := 22) (tgt := 67) hK dX9_splitNumber_22 (by decide) (fun c => ?_) (fun c => ?_)
      · rw [if_pos c] at h
        refine V.iload_n (pc := 67) (i := 1) hK rfl dX9_splitNumber_67 ?_
        exact V.iret (pc := 68) hO dX9_splitNumber_68 (v_finI h)
      · rw [if_neg c] at h
        refine V.iload_n (pc := 25) (i := 2) hK rfl dX9_splitNumber_25 ?_
        refine V.iconst (pc := 26) (v := 5) hK (by decide) dX9_splitNumber_26 ?_
        refine V.icmp_ge (pc := 27) (tgt := 49) hK dX9_splitNumber_27 (by decide) (fun c => ?_) (fun c => ?_)
        · rw [if_pos c] at h
          refine V.iconst (pc := 49) (v := -1) hK (by decide) dX9_splitNumber_49 ?_
          refine V.pick [0, 2] (l := [(0, _), (2, _)]) rfl ?_
          exact w_X9_splitNumber_L50 hL hO N _ ih _ _ _ h
        · rw [if_neg c] at h
          refine V.iload_n (pc := 30) (i := 1) hK rfl dX9_splitNumber_30 ?_
          refine V.bipush (pc := 31) (v := 10) hK (by decide) dX9_splitNumber_31 ?_
          refine V.imul (pc := 33) hK dX9_splitNumber_33 ?_
          refine V.aload_n (pc := 34) (i := 0) hK rfl ⟨_, rfl⟩ dX9_splitNumber_34 ?_
          refine V.aload_n (pc := 35) (i := 0) hK rfl ⟨_, rfl⟩ dX9_splitNumber_35 ?_
          refine V.getI (pc := 36) hK fl_RX9_18 rfl (hL.1 36 _ ls_36) dX9_splitNumber_36 ?_
          obtain ⟨z3, hz3, h⟩ := v_bdS h
          refine V.cV (pc := 39) (ci := 9) hK (c_X9_byteAt E hL N _ _ hz3) Y_X9_byteAt cv_RX9_41 (by decide) rfl (hL.1 36 _ ls_36) dX9_splitNumber_39 (by decide) rfl (Nat.le_of_ble_eq_true rfl) ?_
          refine V.iadd (pc := 42) hK dX9_splitNumber_42 ?_
          refine V.bipush (pc := 43) (v := 48) hK (by decide) dX9_splitNumber_43 ?_
          refine V.isub (pc := 45) hK dX9_splitNumber_45 ?_
          refine V.goto (pc := 46) (tgt := 50) hK dX9_splitNumber_46 (by decide) ?_
          refine V.pick [0, 2] (l := [(0, _), (2, _)]) rfl ?_
          exact w_X9_splitNumber_L50 hL hO N _ ih _ _ _ h
set_option maxHeartbeats 4000000 in
set_option maxRecDepth 100000 in
theorem c_X9_splitNumber (E : v_E) {sh : v_S} {P : v_P} (hL : v_Lay sh P) (N : Nat) (M : v_M) {out : Int32 × v_M} (h : f_X9_splitNumber N M = some out) : v_Ct E 1 yX9_splitNumber cX9_splitNumber 3 (some .int) 0 0 [v_rf E 36] sh P M (v_Q1 (some (.int out.1)) sh P out.2) := by
  refine v_Ct.of (by decide +kernel) (Nat.le_of_ble_eq_true rfl) (fun X hO => ?_)
  have hK : v_K E X cX9_splitNumber RX9 3 1 := hO.1
  have hO : v_O E X cX9_splitNumber RX9 3 1 (some .int) "splitNumber" (v_Q1 (some (.int out.1)) sh P out.2) := hO
  show V E X (0, 0) 0 [(0, v_rf E 36)] [] sh P M
  unfold f_X9_splitNumber at h
  refine V.iconst (pc := 0) (v := 0) hK (by decide) dX9_splitNumber_0 ?_
  refine V.istore_n (pc := 1) (i := 1) (lv' := [(0, _), (1, _)]) hK (by decide) rfl dX9_splitNumber_1 ?_
  refine V.iconst (pc := 2) (v := 0) hK (by decide) dX9_splitNumber_2 ?_
  refine V.istore_n (pc := 3) (i := 2) (lv' := [(0, _), (1, _), (2, _)]) hK (by decide) rfl dX9_splitNumber_3 ?_
  refine V.pick [0, 1, 2] (l := [(0, _), (1, _), (2, _)]) rfl ?_
  exact w_X9_splitNumber_L4 hL hO N N _ _ _ h
set_option maxHeartbeats 4000000 in
set_option maxRecDepth 100000 in
theorem w_X9_splitWord_L109 {E : v_E} {X : v_X} {sh : v_S} {P : v_P} {out : Int32 × v_M} (hL : v_Lay sh P) (hO : v_O E X cX9_splitWord RX9 5 5 (some .int) "splitWord" (v_Q1 (some (.int out.1)) sh P out.2)) (N : Nat) (k51 : Int32 → Int32 → Int32 → Int32 → v_M → Option (Int32 × v_M)) (hk51 : ∀ (x1 : Int32) (x2 : Int32) (x3 : Int32) (x4 : Int32) (M : v_M), k51 x1 x2 x3 x4 M = some out → V E X (0, 0) 51 [(0, v_rf E 36), (1, .int x1), (2, .int x2), (3, .int x3), (4, .int x4)] [] sh P M) (x1 : Int32) (x2 : Int32) (x3 : Int32) (x4 : Int32) (M : v_M) (h : f_X9_splitWord_L109 N k51 x1 x2 x3 x4 M = some out) : V E X (0, 0) 109 [(0, v_rf E 36), (1, .int x1), (2, .int x2), (3, .int x3), (4, .int x4)] [] sh P M := by
  have hK := hO.1
  unfold f_X9_splitWord_L109 at h
  refine V.iinc (pc := 109) (i := 4) (v := 1) (lv' := [(0, _), (1, _), (2, _), (3, _), (4, _)]) hK rfl (by decide) (by decide) rfl dX9_splitWord_109 ?_
  refine V.goto (pc := 112) (tgt := 51) hK dX9_splitWord_112 (by decide) ?_
  refine V.pick [0, 1, 2, 3, 4] (l := [(0, _), (1, _), (2, _), (3, _), (4, _)]) rfl ?_
  exact hk51 _ _ _ _ _ h
set_option maxHeartbeats 4000000 in
set_option maxRecDepth 100000 in
theorem w_X9_splitWord_L101 {E : v_E} {X : v_X} {sh : v_S} {P : v_P} {out : Int32 × v_M} (hL : v_Lay sh P) (hO : v_O E X cX9_splitWord RX9 5 5 (some .int) "splitWord" (v_Q1 (some (.int out.1)) sh P out.2)) (N : Nat) (k51 : Int32 → Int32 → Int32 → Int32 → v_M → Option (Int32 × v_M)) (hk51 : ∀ (x1 : Int32) (x2 : Int32) (x3 : Int32) (x4 : Int32) (M : v_M), k51 x1 x2 x3 x4 M = some out → V E X (0, 0) 51 [(0, v_rf E 36), (1, .int x1), (2, .int x2), (3, .int x3), (4, .int x4)] [] sh P M) (x1 : Int32) (x2 : Int32) (x4 : Int32) (M : v_M) (h : f_X9_splitWord_L101 N k51 x1 x2 x4 M = some out) : V E X (0, 0) 101 [(0, v_rf E 36), (1, .int x1), (2, .int x2), (4, .int x4)] [] sh P M := by
  have hK := hO.1
  unfold f_X9_splitWord_L101 at h
  refine V.iinc (pc := 101) (i := 2) (v := 1) (lv' := [(0, _), (1, _), (2, _), (4, _)]) hK rfl (by decide) (by decide) rfl dX9_splitWord_101 ?_
  refine V.iload (pc := 104) (i := 4) hK rfl dX9_splitWord_104 ?_
  refine V.iconst (pc := 106) (v := 1) hK (by decide) dX9_splitWord_106 ?_
  refine V.iadd (pc := 107) hK dX9_splitWord_107 ?_
  refine V.topi (fun y1 ey1 => ?_)
  have h := v_lt ey1 h
  refine V.istore_n (pc := 108) (i := 3) (lv' := [(0, _), (1, _), (2, _), (3, _), (4, _)]) hK (by decide) rfl dX9_splitWord_108 ?_
  refine V.pick [0, 1, 2, 3, 4] (l := [(0, _), (1, _), (2, _), (3, _), (4, _)]) rfl ?_
  exact w_X9_splitWord_L109 hL hO N _ hk51 _ _ _ _ _ h
set_option maxHeartbeats 4000000 in
set_option maxRecDepth 100000 in
theorem w_X9_splitWord_L51 {E : v_E} {X : v_X} {sh : v_S} {P : v_P} {out : Int32 × v_M} (hL : v_Lay sh P) (hO : v_O E X cX9_splitWord RX9 5 5 (some .int) "splitWord" (v_Q1 (some (.int out.1)) sh P out.2)) (N : Nat) (n : Nat) : ∀ (x1 : Int32) (x2 : Int32) (x3 : Int32) (x4 : Int32) (M : v_M), f_X9_splitWord_L51 N n x1 x2 x3 x4 M = some out → V E X (0, 0) 51 [(0, v_rf E 36), (1, .int x1), (2, .int x2), (3, .int x3), (4, .int x4)] [] sh P M := by
  have hK := hO.1
  induction n with
  | zero => intro x1 x2 x3 x4 M h; rw [f_X9_splitWord_L51] at h; cases h
  | succ n ih =>
    intro x1 x2 x3 x4 M h
    rw [f_X9_splitWord_L51] at h
    refine V.iload (pc := 51) (i := 4) hK rfl dX9_splitWord_51 ?_
    refine V.ldcS (pc := 53) (i := 0) hK (show v_sx[0]? = some (RX9, _, _) from rfl) dX9_splitWord_53 ?_
    obtain ⟨z1, hz1, h⟩ := v_bdS h
    refine V.cStr (pc := 55) hK (c_J0_length_8abf5 E hL N _ _ hz1) Y_J0_length_8abf5 cv_RX9_60 rfl (lt_J0_length_8abf5 hz1) dX9_splitWord_55 (by decide) rfl (Nat.le_of_ble_eq_true rfl) ?_
    refine V.icmp_ge (pc := 58) (tgt := 115) hK dX9_splitWord_58 (by decide) (fun c => ?_) (fun c => ?_)
    · rw [if_pos c] at h
      refine V.sipush (pc := 115) (v := 259) hK (by decide) dX9_splitWord_115 ?_
      exact V.iret (pc := 118) hO dX9_splitWord_118 (v_finI h)
    · rw [if_neg c] at h
      refine V.ldcS (pc := 61) (i := 0) hK (show v_sx[0]? = some (RX9, _, _) from rfl) dX9_splitWord_61 ?_
      refine V.iload (pc := 63) (i := 4) hK rfl dX9_splitWord_63 ?_
      obtain ⟨z2, hz2, h⟩ := v_bdS h
      refine V.cStr (pc := 65) hK (c_J0_charAt_5068e E hL N _ _ _ hz2) Y_J0_charAt_5068e cv_RX9_64 rfl (lt_J0_charAt_5068e hz2) dX9_splitWord_65 (by decide) rfl (Nat.le_of_ble_eq_true rfl) ?_
      refine V.bipush (pc := 68) (v := 32) hK (by decide) dX9_splitWord_68 ?_
      refine V.icmp_ne (pc := 70) (tgt := 109) hK dX9_splitWord_70 (by decide) (fun c => ?_) (fun c => ?_)
      · rw [if_neg c] at h
        refine V.pick [0, 1, 2, 3, 4] (l := [(0, _), (1, _), (2, _), (3, _), (4, _)]) rfl ?_
        exact w_X9_splitWord_L109 hL hO N _ ih _ _ _ _ _ h
      · rw [if_pos c] at h
        refine V.iload (pc := 73) (i := 4) hK rfl dX9_splitWord_73 ?_
        refine V.iload_n (pc := 75) (i := 3) hK rfl dX9_splitWord_75 ?_
        refine V.isub (pc := 76) hK dX9_splitWord_76 ?_
        refine V.aload_n (pc := 77) (i := 0) hK rfl ⟨_, rfl⟩ dX9_splitWord_77 ?_
        refine V.getI (pc := 78) hK fl_RX9_18 rfl (hL.1 36 _ ls_36) dX9_splitWord_78 ?_
        refine V.iload_n (pc := 81) (i := 1) hK rfl dX9_splitWord_81 ?_
        refine V.isub (pc := 82) hK dX9_splitWord_82 ?_
        refine V.icmp_ne (pc := 83) (tgt := 101) hK dX9_splitWord_83 (by decide) (fun c => ?_) (fun c => ?_)
        · rw [if_neg c] at h
          refine V.pick [0, 1, 2, 4] (l := [(0, _), (1, _), (2, _), (4, _)]) rfl ?_
          exact w_X9_splitWord_L101 hL hO N _ ih _ _ _ _ h
        · rw [if_pos c] at h
          refine V.aload_n (pc := 86) (i := 0) hK rfl ⟨_, rfl⟩ dX9_splitWord_86 ?_
          refine V.iload_n (pc := 87) (i := 3) hK rfl dX9_splitWord_87 ?_
          refine V.iload_n (pc := 88) (i := 1) hK rfl dX9_splitWord_88 ?_
          obtain ⟨z3, hz3, h⟩ := v_bdS h
          refine V.cV (pc := 89) (ci := 9) hK (c_X9_isSame E hL N _ _ _ hz3) Y_X9_isSame cv_RX9_68 (by decide) rfl (hL.1 36 _ ls_36) dX9_splitWord_89 (by decide) rfl (Nat.le_of_ble_eq_true rfl) ?_
          refine V.if_eq (pc := 92) (tgt := 101) hK dX9_splitWord_92 (by decide) (fun c => ?_) (fun c => ?_)
          · rw [if_pos c] at h
            refine V.pick [0, 1, 2, 4] (l := [(0, _), (1, _), (2, _), (4, _)]) rfl ?_
            exact w_X9_splitWord_L101 hL hO N _ ih _ _ _ _ h
          · rw [if_neg c] at h
            refine V.sipush (pc := 95) (v := 260) hK (by decide) dX9_splitWord_95 ?_
            refine V.iload_n (pc := 98) (i := 2) hK rfl dX9_splitWord_98 ?_
            refine V.iadd (pc := 99) hK dX9_splitWord_99 ?_
            exact V.iret (pc := 100) hO dX9_splitWord_100 (v_finI h)
set_option maxHeartbeats 4000000 in
set_option maxRecDepth 100000 in
theorem w_X9_splitWord_L44 {E : v_E} {X : v_X} {sh : v_S} {P : v_P} {out : Int32 × v_M} (hL : v_Lay sh P) (hO : v_O E X cX9_splitWord RX9 5 5 (some .int) "splitWord" (v_Q1 (some (.int out.1)) sh P out.2)) (N : Nat) (x1 : Int32) (M : v_M) (h : f_X9_splitWord_L44 N x1 M = some out) : V E X (0, 0) 44 [(0, v_rf E 36), (1, .int x1)] [] sh P M := by
  have hK := hO.1
  unfold f_X9_splitWord_L44 at h
  refine V.iconst (pc := 44) (v := 0) hK (by decide) dX9_splitWord_44 ?_
  refine V.istore_n (pc := 45) (i := 2) (lv' := [(0, _), (1, _), (2, _)]) hK (by decide) rfl dX9_splitWord_45 ?_
  refine V.iconst (pc := 46) (v := 0) hK (by decide) dX9_splitWord_46 ?_
  refine V.istore_n (pc := 47) (i := 3) (lv' := [(0, _), (1, _), (2, _), (3, _)]) hK (by decide) rfl dX9_splitWord_47 ?_
  refine V.iconst (pc := 48) (v := 0) hK (by decide) dX9_splitWord_48 ?_
  refine V.istore (pc := 49) (i := 4) (lv' := [(0, _), (1, _), (2, _), (3, _), (4, _)]) hK (by decide) rfl dX9_splitWord_49 ?_
  refine V.pick [0, 1, 2, 3, 4] (l := [(0, _), (1, _), (2, _), (3, _), (4, _)]) rfl ?_
  exact w_X9_splitWord_L51 hL hO N N _ _ _ _ _ h
set_option maxHeartbeats 4000000 in
set_option maxRecDepth 100000 in
theorem w_X9_splitWord_L7 {E : v_E} {X : v_X} {sh : v_S} {P : v_P} {out : Int32 × v_M} (hL : v_Lay sh P) (hO : v_O E X cX9_splitWord RX9 5 5 (some .int) "splitWord" (v_Q1 (some (.int out.1)) sh P out.2)) (N : Nat) (n : Nat) : ∀ (x1 : Int32) (x2 : Int32) (M : v_M), f_X9_splitWord_L7 N n x1 x2 M = some out → V E X (0, 0) 7 [(0, v_rf E 36), (1, .int x1), (2, .int x2)] [] sh P M := by
  have hK := hO.1
  induction n with
  | zero => intro x1 x2 M h; rw [f_X9_splitWord_L7] at h; cases h
  | succ n ih =>
    intro x1 x2 M h
    rw [f_X9_splitWord_L7] at h
    refine V.iload_n (pc := 7) (i := 2) hK rfl dX9_splitWord_7 ?_
    refine V.sipush (pc := 8) (v := 400) hK (by decide) dX9_splitWord_8 ?_
    refine V.icmp_ge (pc := 11) (tgt := 44) hK dX9_splitWord_11 (by decide) (fun c => ?_) (fun c => ?_)
    · rw [if_pos c] at h
      refine V.pick [0, 1] (l := [(0, _), (1, _)]) rfl ?_
      exact w_X9_splitWord_L44 hL hO N _ _ h
    · rw [if_neg c] at h
      refine V.aload_n (pc := 14) (i := 0) hK rfl ⟨_, rfl⟩ dX9_splitWord_14 ?_
      refine V.aload_n (pc := 15) (i := 0) hK rfl ⟨_, rfl⟩ dX9_splitWord_15 ?_
      refine V.getI (pc := 16) hK fl_RX9_18 rfl (hL.1 36 _ ls_36) dX9_splitWord_16 ?_
      obtain ⟨z1, hz1, h⟩ := v_bdS h
      refine V.cV (pc := 19) (ci := 9) hK (c_X9_byteAt E hL N _ _ hz1) Y_X9_byteAt cv_RX9_41 (by decide) rfl (hL.1 36 _ ls_36) dX9_splitWord_19 (by decide) rfl (Nat.le_of_ble_eq_true rfl) ?_
      obtain ⟨z2, hz2, h⟩ := v_bdS h
      refine V.cS (pc := 22) hK (c_X9_isLetter E hL N _ _ hz2) Y_X9_isLetter cs_RX9_52 dX9_splitWord_22 (by decide) rfl (Nat.le_of_ble_eq_true rfl) ?_
      refine V.if_eq (pc := 25) (tgt := 44) hK dX9_splitWord_25 (by decide) (fun c => ?_) (fun c => ?_)
      · rw [if_pos c] at h
        refine V.pick [0, 1] (l := [(0, _), (1, _)]) rfl ?_
        exact w_X9_splitWord_L44 hL hO N _ _ h
      · rw [if_neg c] at h
        refine V.aload_n (pc := 28) (i := 0) hK rfl ⟨_, rfl⟩ dX9_splitWord_28 ?_
        refine V.dup (pc := 29) hK rfl dX9_splitWord_29 ?_
        refine V.getI (pc := 30) hK fl_RX9_18 rfl (hL.1 36 _ ls_36) dX9_splitWord_30 ?_
        refine V.iconst (pc := 33) (v := 1) hK (by decide) dX9_splitWord_33 ?_
        refine V.iadd (pc := 34) hK dX9_splitWord_34 ?_
        refine V.putI (pc := 35) hK fl_RX9_18 rfl rfl ⟨rfl, rfl⟩ (hL.1 36 _ ls_36) dX9_splitWord_35 ?_
        refine V.nmM (fun M3 eM3 => ?_)
        have h := v_lt eM3 h
        refine V.iinc (pc := 38) (i := 2) (v := 1) (lv' := [(0, _), (1, _), (2, _)]) hK rfl (by decide) (by decide) rfl dX9_splitWord_38 ?_
        refine V.goto (pc := 41) (tgt := 7) hK dX9_splitWord_41 (by decide) ?_
        refine V.pick [0, 1, 2] (l := [(0, _), (1, _), (2, _)]) rfl ?_
        exact ih _ _ _ h
set_option maxHeartbeats 4000000 in
set_option maxRecDepth 100000 in
theorem c_X9_splitWord (E : v_E) {sh : v_S} {P : v_P} (hL : v_Lay sh P) (N : Nat) (M : v_M) {out : Int32 × v_M} (h : f_X9_splitWord N M = some out) : v_Ct E 5 yX9_splitWord cX9_splitWord 5 (some .int) 0 0 [v_rf E 36] sh P M (v_Q1 (some (.int out.1)) sh P out.2) := by
  refine v_Ct.of (by decide +kernel) (Nat.le_of_ble_eq_true rfl) (fun X hO => ?_)
  have hK : v_K E X cX9_splitWord RX9 5 5 := hO.1
  have hO : v_O E X cX9_splitWord RX9 5 5 (some .int) "splitWord" (v_Q1 (some (.int out.1)) sh P out.2) := hO
  show V E X (0, 0) 0 [(0, v_rf E 36)] [] sh P M
  unfold f_X9_splitWord at h
  refine V.aload_n (pc := 0) (i := 0) hK rfl ⟨_, rfl⟩ dX9_splitWord_0 ?_
  refine V.getI (pc := 1) hK fl_RX9_18 rfl (hL.1 36 _ ls_36) dX9_splitWord_1 ?_
  refine V.topi (fun y1 ey1 => ?_)
  have h := v_lt ey1 h
  refine V.istore_n (pc := 4) (i := 1) (lv' := [(0, _), (1, _)]) hK (by decide) rfl dX9_splitWord_4 ?_
  refine V.iconst (pc := 5) (v := 0) hK (by decide) dX9_splitWord_5 ?_
  refine V.istore_n (pc := 6) (i := 2) (lv' := [(0, _), (1, _), (2, _)]) hK (by decide) rfl dX9_splitWord_6 ?_
  refine V.pick [0, 1, 2] (l := [(0, _), (1, _), (2, _)]) rfl ?_
  exact w_X9_splitWord_L7 hL hO N N _ _ _ h
set_option maxHeartbeats 4000000 in
set_option maxRecDepth 100000 in
theorem w_X10_learn_L109 {E : v_E} {X : v_X} {sh : v_S} {P : v_P} {out : Int32 × v_M} (hL : v_Lay sh P) (hO : v_O E X cX10_learn RX10 5 1 none "learn" (v_Q1 (none) sh P out.2)) (N : Nat) (k20 : Int32 → v_M → Option (Int32 × v_M)) (hk20 : ∀ (x2 : Int32) (M : v_M), k20 x2 M = some out → V E X (0, 0) 20 [(0, v_rf E 64), (1, v_rf E 52), (2, .int x2)] [] sh P M) (x2 : Int32) (M : v_M) (h : f_X10_learn_L109 N k20 x2 M = some out) : V E X (0, 0) 109 [(0, v_rf E 64), (1, v_rf E 52), (2, .int x2)] [] sh P M := by
  have hK := hO.1
  unfold f_X10_learn_L109 at h
  refine V.iinc (pc := 109) (i := 2) (v := 1) (lv' := [(0, _), (1, _), (2, _)]) hK rfl (by decide) (by decide) rfl dX10_learn_109 ?_
  refine V.goto (pc := 112) (tgt := 20) hK dX10_learn_112 (by decide) ?_
  refine V.pick [0, 1, 2] (l := [(0, _), (1, _), (2, _)]) rfl ?_
  exact hk20 _ _ h
set_option maxHeartbeats 4000000 in
set_option maxRecDepth 100000 in
theorem w_X10_learn_L20 {E : v_E} {X : v_X} {sh : v_S} {P : v_P} {out : Int32 × v_M} (hL : v_Lay sh P) (hO : v_O E X cX10_learn RX10 5 1 none "learn" (v_Q1 (none) sh P out.2)) (N : Nat) (n : Nat) : ∀ (x2 : Int32) (M : v_M), f_X10_learn_L20 N n x2 M = some out → V E X (0, 0) 20 [(0, v_rf E 64), (1, v_rf E 52), (2, .int x2)] [] sh P M := by
  have hK := hO.1
  induction n with
  | zero => intro x2 M h; rw [f_X10_learn_L20] at h; cases h
  | succ n ih =>
    intro x2 M h
    rw [f_X10_learn_L20] at h
    refine V.iload_n (pc := 20) (i := 2) hK rfl dX10_learn_20 ?_
    refine V.aload_n (pc := 21) (i := 1) hK rfl ⟨_, rfl⟩ dX10_learn_21 ?_
    refine V.getI (pc := 22) hK fl_RX10_42 rfl (hL.1 52 _ ls_52) dX10_learn_22 ?_
    refine V.icmp_ge (pc := 25) (tgt := 115) hK dX10_learn_25 (by decide) (fun c => ?_) (fun c => ?_)
    · rw [if_pos c] at h
      exact V.vret (pc := 115) hO dX10_learn_115 (v_finV h)
    · rw [if_neg c] at h
      refine V.iload_n (pc := 28) (i := 2) hK rfl dX10_learn_28 ?_
      refine V.bipush (pc := 29) (v := 100) hK (by decide) dX10_learn_29 ?_
      refine V.icmp_ge (pc := 31) (tgt := 115) hK dX10_learn_31 (by decide) (fun c => ?_) (fun c => ?_)
      · rw [if_pos c] at h
        exact V.vret (pc := 115) hO dX10_learn_115 (v_finV h)
      · rw [if_neg c] at h
        refine V.aload_n (pc := 34) (i := 1) hK rfl ⟨_, rfl⟩ dX10_learn_34 ?_
        refine V.getR (pc := 35) hK fl_RX10_45 rfl (hL.1 52 _ ls_52) (hL.2 52 10 61 rfl) dX10_learn_35 ?_
        refine V.iload_n (pc := 38) (i := 2) hK rfl dX10_learn_38 ?_
        obtain ⟨hb, h⟩ := v_ckS h
        refine V.iald (pc := 39) hK (hL.1 61 _ ls_61) (v_ibS hb) dX10_learn_39 ?_
        refine V.topi (fun y1 ey1 => ?_)
        have h := v_lt ey1 h
        refine V.istore_n (pc := 40) (i := 3) (lv' := [(0, _), (1, _), (2, _), (3, _)]) hK (by decide) rfl dX10_learn_40 ?_
        refine V.aload_n (pc := 41) (i := 1) hK rfl ⟨_, rfl⟩ dX10_learn_41 ?_
        refine V.getR (pc := 42) hK fl_RX10_48 rfl (hL.1 52 _ ls_52) (hL.2 52 11 62 rfl) dX10_learn_42 ?_
        refine V.iload_n (pc := 45) (i := 2) hK rfl dX10_learn_45 ?_
        obtain ⟨hb, h⟩ := v_ckS h
        refine V.iald (pc := 46) hK (hL.1 62 _ ls_62) (v_ibS hb) dX10_learn_46 ?_
        refine V.topi (fun y2 ey2 => ?_)
        have h := v_lt ey2 h
        refine V.istore (pc := 47) (i := 4) (lv' := [(0, _), (1, _), (2, _), (3, _), (4, _)]) hK (by decide) rfl dX10_learn_47 ?_
        refine V.iload_n (pc := 49) (i := 3) hK rfl dX10_learn_49 ?_
        refine V.iconst (pc := 50) (v := 0) hK (by decide) dX10_learn_50 ?_
        refine V.sipush (pc := 51) (v := 199) hK (by decide) dX10_learn_51 ?_
        obtain ⟨z3, hz3, h⟩ := v_bdS h
        refine V.cSN (pc := 54) hK (c_X11_within E hL N _ _ _ _ hz3) Y_X11_within cn_RX10_51 dX10_learn_54 (by decide) rfl (Nat.le_of_ble_eq_true rfl) ?_
        refine V.if_ne (pc := 57) (tgt := 63) hK dX10_learn_57 (by decide) (fun c => ?_) (fun c => ?_)
        · rw [if_neg c] at h
          refine V.aload_n (pc := 63) (i := 1) hK rfl ⟨_, rfl⟩ dX10_learn_63 ?_
          refine V.getR (pc := 64) hK fl_RX10_55 rfl (hL.1 52 _ ls_52) (hL.2 52 12 63 rfl) dX10_learn_64 ?_
          refine V.iload_n (pc := 67) (i := 2) hK rfl dX10_learn_67 ?_
          obtain ⟨hb, h⟩ := v_ckS h
          refine V.zald (pc := 68) hK (hL.1 63 _ ls_63) (v_ibS hb) dX10_learn_68 ?_
          refine V.if_eq (pc := 69) (tgt := 92) hK dX10_learn_69 (by decide) (fun c => ?_) (fun c => ?_)
          · rw [if_pos c] at h
            refine V.aload_n (pc := 92) (i := 0) hK rfl ⟨_, rfl⟩ dX10_learn_92 ?_
            refine V.getR (pc := 93) hK fl_RX10_17 rfl (hL.1 64 _ ls_64) (hL.2 64 1 65 rfl) dX10_learn_93 ?_
            refine V.iload_n (pc := 96) (i := 3) hK rfl dX10_learn_96 ?_
            refine V.aload_n (pc := 97) (i := 0) hK rfl ⟨_, rfl⟩ dX10_learn_97 ?_
            refine V.getR (pc := 98) hK fl_RX10_17 rfl (hL.1 64 _ ls_64) (hL.2 64 1 65 rfl) dX10_learn_98 ?_
            refine V.iload_n (pc := 101) (i := 3) hK rfl dX10_learn_101 ?_
            obtain ⟨hb, h⟩ := v_ckS h
            refine V.iald (pc := 102) hK (hL.1 65 _ ls_65) (v_ibS hb) dX10_learn_102 ?_
            refine V.iload (pc := 103) (i := 4) hK rfl dX10_learn_103 ?_
            refine V.mmax (pc := 105) hK tw_984 tw_mmaxs tw_mi tw_mmaxc dX10_learn_105 (by decide) (Nat.le_of_ble_eq_true rfl) ?_
            obtain ⟨hb, h⟩ := v_ckS h
            refine V.iast (pc := 108) hK (hL.1 65 _ ls_65) (v_ibS hb) dX10_learn_108 ?_
            refine V.nmM (fun M4 eM4 => ?_)
            have h := v_lt eM4 h
            refine V.pick [0, 1, 2] (l := [(0, _), (1, _), (2, _)]) rfl ?_
            exact w_X10_learn_L109 hL hO N _ ih _ _ h
          · rw [if_neg c] at h
            refine V.aload_n (pc := 72) (i := 0) hK rfl ⟨_, rfl⟩ dX10_learn_72 ?_
            refine V.getR (pc := 73) hK fl_RX10_21 rfl (hL.1 64 _ ls_64) (hL.2 64 2 66 rfl) dX10_learn_73 ?_
            refine V.iload_n (pc := 76) (i := 3) hK rfl dX10_learn_76 ?_
            refine V.aload_n (pc := 77) (i := 0) hK rfl ⟨_, rfl⟩ dX10_learn_77 ?_
            refine V.getR (pc := 78) hK fl_RX10_21 rfl (hL.1 64 _ ls_64) (hL.2 64 2 66 rfl) dX10_learn_78 ?_
            refine V.iload_n (pc := 81) (i := 3) hK rfl dX10_learn_81 ?_
            obtain ⟨hb, h⟩ := v_ckS h
            refine V.iald (pc := 82) hK (hL.1 66 _ ls_66) (v_ibS hb) dX10_learn_82 ?_
            refine V.iload (pc := 83) (i := 4) hK rfl dX10_learn_83 ?_
            refine V.mmin (pc := 85) hK tw_983 tw_mmins tw_mi tw_mminc dX10_learn_85 (by decide) (Nat.le_of_ble_eq_true rfl) ?_
            obtain ⟨hb, h⟩ := v_ckS h
            refine V.iast (pc := 88) hK (hL.1 66 _ ls_66) (v_ibS hb) dX10_learn_88 ?_
            refine V.nmM (fun M5 eM5 => ?_)
            have h := v_lt eM5 h
            refine V.goto (pc := 89) (tgt := 109) hK dX10_learn_89 (by decide) ?_
            refine V.pick [0, 1, 2] (l := [(0, _), (1, _), (2, _)]) rfl ?_
            exact w_X10_learn_L109 hL hO N _ ih _ _ h
        · rw [if_pos c] at h
          refine V.goto (pc := 60) (tgt := 109) hK dX10_learn_60 (by decide) ?_
          refine V.pick [0, 1, 2] (l := [(0, _), (1, _), (2, _)]) rfl ?_
          exact w_X10_learn_L109 hL hO N _ ih _ _ h
set_option maxHeartbeats 4000000 in
set_option maxRecDepth 100000 in
theorem c_X10_learn (E : v_E) {sh : v_S} {P : v_P} (hL : v_Lay sh P) (N : Nat) (M : v_M) {out : Int32 × v_M} (h : f_X10_learn N M = some out) : v_Ct E 1 yX10_learn cX10_learn 5 none 0 0 [v_rf E 64, v_rf E 52] sh P M (v_Q1 (none) sh P out.2) := by
  refine v_Ct.of (by decide +kernel) (Nat.le_of_ble_eq_true rfl) (fun X hO => ?_)
  have hK : v_K E X cX10_learn RX10 5 1 := hO.1
  have hO : v_O E X cX10_learn RX10 5 1 none "learn" (v_Q1 (none) sh P out.2) := hO
  show V E X (0, 0) 0 [(0, v_rf E 64), (1, v_rf E 52)] [] sh P M
  unfold f_X10_learn at h
  refine V.aload_n (pc := 0) (i := 0) hK rfl ⟨_, rfl⟩ dX10_learn_0 ?_
  refine V.getR (pc := 1) hK fl_RX10_17 rfl (hL.1 64 _ ls_64) (hL.2 64 1 65 rfl) dX10_learn_1 ?_
  refine V.iconst (pc := 4) (v := -1) hK (by decide) dX10_learn_4 ?_
  obtain ⟨z1, hz1, h⟩ := v_bdS h
  refine V.cSv (pc := 5) hK (c_J7_fill_53178 E hL N _ _ (hL.1 65 _ ls_65) _ _ hz1) Y_J7_fill_53178 cs_RX10_36 dX10_learn_5 (by decide) rfl (Nat.le_of_ble_eq_true rfl) ?_
  refine V.aload_n (pc := 8) (i := 0) hK rfl ⟨_, rfl⟩ dX10_learn_8 ?_
  refine V.getR (pc := 9) hK fl_RX10_21 rfl (hL.1 64 _ ls_64) (hL.2 64 2 66 rfl) dX10_learn_9 ?_
  refine V.sipush (pc := 12) (v := 10000) hK (by decide) dX10_learn_12 ?_
  obtain ⟨z2, hz2, h⟩ := v_bdS h
  refine V.cSv (pc := 15) hK (c_J7_fill_53178 E hL N _ _ (hL.1 66 _ ls_66) _ _ hz2) Y_J7_fill_53178 cs_RX10_36 dX10_learn_15 (by decide) rfl (Nat.le_of_ble_eq_true rfl) ?_
  refine V.iconst (pc := 18) (v := 0) hK (by decide) dX10_learn_18 ?_
  refine V.istore_n (pc := 19) (i := 2) (lv' := [(0, _), (1, _), (2, _)]) hK (by decide) rfl dX10_learn_19 ?_
  refine V.pick [0, 1, 2] (l := [(0, _), (1, _), (2, _)]) rfl ?_
  exact w_X10_learn_L20 hL hO N N _ _ h
set_option maxHeartbeats 4000000 in
set_option maxRecDepth 100000 in
theorem c_X10_mayBeTrue (E : v_E) {sh : v_S} {P : v_P} (hL : v_Lay sh P) (N : Nat) (x2 : Int32) (M : v_M) {out : Int32 × v_M} (h : f_X10_mayBeTrue N x2 M = some out) : v_Ct E 1 yX10_mayBeTrue cX10_mayBeTrue 3 (some .boolean) 0 0 [v_rf E 64, v_rf E 52, .int x2] sh P M (v_Q1 (some (.int out.1)) sh P out.2) := by
  refine v_Ct.of (by decide +kernel) (Nat.le_of_ble_eq_true rfl) (fun X hO => ?_)
  have hK : v_K E X cX10_mayBeTrue RX10 3 1 := hO.1
  have hO : v_O E X cX10_mayBeTrue RX10 3 1 (some .boolean) "mayBeTrue" (v_Q1 (some (.int out.1)) sh P out.2) := hO
  show V E X (0, 0) 0 [(0, v_rf E 64), (1, v_rf E 52), (2, .int x2)] [] sh P M
  unfold f_X10_mayBeTrue at h
  refine V.iload_n (pc := 0) (i := 2) hK rfl dX10_mayBeTrue_0 ?_
  refine V.iconst (pc := 1) (v := 0) hK (by decide) dX10_mayBeTrue_1 ?_
  refine V.sipush (pc := 2) (v := 199) hK (by decide) dX10_mayBeTrue_2 ?_
  obtain ⟨z1, hz1, h⟩ := v_bdS h
  refine V.cSN (pc := 5) hK (c_X11_within E hL N _ _ _ _ hz1) Y_X11_within cn_RX10_51 dX10_mayBeTrue_5 (by decide) rfl (Nat.le_of_ble_eq_true rfl) ?_
  refine V.if_eq (pc := 8) (tgt := 35) hK dX10_mayBeTrue_8 (by decide) (fun c => ?_) (fun c => ?_)
  · rw [if_pos c] at h
    refine V.iconst (pc := 35) (v := 0) hK (by decide) dX10_mayBeTrue_35 ?_
    obtain ⟨hb, h⟩ := v_ckS h
    exact V.zret (pc := 36) hO (v_z01 hb) dX10_mayBeTrue_36 (v_finI h)
  · rw [if_neg c] at h
    refine V.aload_n (pc := 11) (i := 1) hK rfl ⟨_, rfl⟩ dX10_mayBeTrue_11 ?_
    refine V.getR (pc := 12) hK fl_RX10_68 rfl (hL.1 52 _ ls_52) (hL.2 52 3 55 rfl) dX10_mayBeTrue_12 ?_
    refine V.iload_n (pc := 15) (i := 2) hK rfl dX10_mayBeTrue_15 ?_
    obtain ⟨hb, h⟩ := v_ckS h
    refine V.iald (pc := 16) hK (hL.1 55 _ ls_55) (v_ibS hb) dX10_mayBeTrue_16 ?_
    refine V.aload_n (pc := 17) (i := 0) hK rfl ⟨_, rfl⟩ dX10_mayBeTrue_17 ?_
    refine V.getR (pc := 18) hK fl_RX10_17 rfl (hL.1 64 _ ls_64) (hL.2 64 1 65 rfl) dX10_mayBeTrue_18 ?_
    refine V.aload_n (pc := 21) (i := 1) hK rfl ⟨_, rfl⟩ dX10_mayBeTrue_21 ?_
    refine V.getR (pc := 22) hK fl_RX10_71 rfl (hL.1 52 _ ls_52) (hL.2 52 1 53 rfl) dX10_mayBeTrue_22 ?_
    refine V.iload_n (pc := 25) (i := 2) hK rfl dX10_mayBeTrue_25 ?_
    obtain ⟨hb, h⟩ := v_ckS h
    refine V.iald (pc := 26) hK (hL.1 53 _ ls_53) (v_ibS hb) dX10_mayBeTrue_26 ?_
    obtain ⟨hb, h⟩ := v_ckS h
    refine V.iald (pc := 27) hK (hL.1 65 _ ls_65) (v_ibS hb) dX10_mayBeTrue_27 ?_
    refine V.icmp_le (pc := 28) (tgt := 35) hK dX10_mayBeTrue_28 (by decide) (fun c => ?_) (fun c => ?_)
    · rw [if_pos c] at h
      refine V.iconst (pc := 35) (v := 0) hK (by decide) dX10_mayBeTrue_35 ?_
      obtain ⟨hb, h⟩ := v_ckS h
      exact V.zret (pc := 36) hO (v_z01 hb) dX10_mayBeTrue_36 (v_finI h)
    · rw [if_neg c] at h
      refine V.iconst (pc := 31) (v := 1) hK (by decide) dX10_mayBeTrue_31 ?_
      refine V.goto (pc := 32) (tgt := 36) hK dX10_mayBeTrue_32 (by decide) ?_
      obtain ⟨hb, h⟩ := v_ckS h
      exact V.zret (pc := 36) hO (v_z01 hb) dX10_mayBeTrue_36 (v_finI h)
set_option maxHeartbeats 4000000 in
set_option maxRecDepth 100000 in
theorem c_X10_serves (E : v_E) {sh : v_S} {P : v_P} (hL : v_Lay sh P) (N : Nat) (x2 : Int32) (M : v_M) {out : Int32 × v_M} (h : f_X10_serves N x2 M = some out) : v_Ct E 2 yX10_serves cX10_serves 4 (some .boolean) 0 0 [v_rf E 64, v_rf E 52, .int x2] sh P M (v_Q1 (some (.int out.1)) sh P out.2) := by
  refine v_Ct.of (by decide +kernel) (Nat.le_of_ble_eq_true rfl) (fun X hO => ?_)
  have hK : v_K E X cX10_serves RX10 4 2 := hO.1
  have hO : v_O E X cX10_serves RX10 4 2 (some .boolean) "serves" (v_Q1 (some (.int out.1)) sh P out.2) := hO
  show V E X (0, 0) 0 [(0, v_rf E 64), (1, v_rf E 52), (2, .int x2)] [] sh P M
  unfold f_X10_serves at h
  refine V.aload_n (pc := 0) (i := 0) hK rfl ⟨_, rfl⟩ dX10_serves_0 ?_
  refine V.aload_n (pc := 1) (i := 1) hK rfl ⟨_, rfl⟩ dX10_serves_1 ?_
  refine V.iload_n (pc := 2) (i := 2) hK rfl dX10_serves_2 ?_
  obtain ⟨z1, hz1, h⟩ := v_bdS h
  refine V.cV (pc := 3) (ci := 10) hK (c_X10_mayBeTrue E hL N _ _ hz1) Y_X10_mayBeTrue cv_RX10_74 (by decide) rfl (hL.1 64 _ ls_64) dX10_serves_3 (by decide) rfl (Nat.le_of_ble_eq_true rfl) ?_
  refine V.if_ne (pc := 6) (tgt := 11) hK dX10_serves_6 (by decide) (fun c => ?_) (fun c => ?_)
  · rw [if_neg c] at h
    refine V.aload_n (pc := 11) (i := 0) hK rfl ⟨_, rfl⟩ dX10_serves_11 ?_
    refine V.getR (pc := 12) hK fl_RX10_21 rfl (hL.1 64 _ ls_64) (hL.2 64 2 66 rfl) dX10_serves_12 ?_
    refine V.aload_n (pc := 15) (i := 1) hK rfl ⟨_, rfl⟩ dX10_serves_15 ?_
    refine V.getR (pc := 16) hK fl_RX10_71 rfl (hL.1 52 _ ls_52) (hL.2 52 1 53 rfl) dX10_serves_16 ?_
    refine V.iload_n (pc := 19) (i := 2) hK rfl dX10_serves_19 ?_
    obtain ⟨hb, h⟩ := v_ckS h
    refine V.iald (pc := 20) hK (hL.1 53 _ ls_53) (v_ibS hb) dX10_serves_20 ?_
    obtain ⟨hb, h⟩ := v_ckS h
    refine V.iald (pc := 21) hK (hL.1 66 _ ls_66) (v_ibS hb) dX10_serves_21 ?_
    refine V.topi (fun y2 ey2 => ?_)
    have h := v_lt ey2 h
    refine V.istore_n (pc := 22) (i := 3) (lv' := [(0, _), (1, _), (2, _), (3, _)]) hK (by decide) rfl dX10_serves_22 ?_
    refine V.iload_n (pc := 23) (i := 3) hK rfl dX10_serves_23 ?_
    refine V.sipush (pc := 24) (v := 10000) hK (by decide) dX10_serves_24 ?_
    refine V.icmp_eq (pc := 27) (tgt := 44) hK dX10_serves_27 (by decide) (fun c => ?_) (fun c => ?_)
    · rw [if_pos c] at h
      refine V.iconst (pc := 44) (v := 0) hK (by decide) dX10_serves_44 ?_
      obtain ⟨hb, h⟩ := v_ckS h
      exact V.zret (pc := 45) hO (v_z01 hb) dX10_serves_45 (v_finI h)
    · rw [if_neg c] at h
      refine V.aload_n (pc := 30) (i := 1) hK rfl ⟨_, rfl⟩ dX10_serves_30 ?_
      refine V.getR (pc := 31) hK fl_RX10_68 rfl (hL.1 52 _ ls_52) (hL.2 52 3 55 rfl) dX10_serves_31 ?_
      refine V.iload_n (pc := 34) (i := 2) hK rfl dX10_serves_34 ?_
      obtain ⟨hb, h⟩ := v_ckS h
      refine V.iald (pc := 35) hK (hL.1 55 _ ls_55) (v_ibS hb) dX10_serves_35 ?_
      refine V.iload_n (pc := 36) (i := 3) hK rfl dX10_serves_36 ?_
      refine V.icmp_gt (pc := 37) (tgt := 44) hK dX10_serves_37 (by decide) (fun c => ?_) (fun c => ?_)
      · rw [if_pos c] at h
        refine V.iconst (pc := 44) (v := 0) hK (by decide) dX10_serves_44 ?_
        obtain ⟨hb, h⟩ := v_ckS h
        exact V.zret (pc := 45) hO (v_z01 hb) dX10_serves_45 (v_finI h)
      · rw [if_neg c] at h
        refine V.iconst (pc := 40) (v := 1) hK (by decide) dX10_serves_40 ?_
        refine V.goto (pc := 41) (tgt := 45) hK dX10_serves_41 (by decide) ?_
        obtain ⟨hb, h⟩ := v_ckS h
        exact V.zret (pc := 45) hO (v_z01 hb) dX10_serves_45 (v_finI h)
  · rw [if_pos c] at h
    refine V.iconst (pc := 9) (v := 0) hK (by decide) dX10_serves_9 ?_
    obtain ⟨hb, h⟩ := v_ckS h
    exact V.zret (pc := 10) hO (v_z01 hb) dX10_serves_10 (v_finI h)
set_option maxHeartbeats 4000000 in
set_option maxRecDepth 100000 in
theorem w_X10_leastFalse_L65 {E : v_E} {X : v_X} {sh : v_S} {P : v_P} {out : Int32 × v_M} (hL : v_Lay sh P) (hO : v_O E X cX10_leastFalse RX10 5 2 (some .int) "leastFalse" (v_Q1 (some (.int out.1)) sh P out.2)) (N : Nat) (k12 : Int32 → Int32 → v_M → Option (Int32 × v_M)) (hk12 : ∀ (x2 : Int32) (x3 : Int32) (M : v_M), k12 x2 x3 M = some out → V E X (0, 0) 12 [(0, v_rf E 64), (1, v_rf E 52), (2, .int x2), (3, .int x3)] [] sh P M) (x2 : Int32) (x3 : Int32) (M : v_M) (h : f_X10_leastFalse_L65 N k12 x2 x3 M = some out) : V E X (0, 0) 65 [(0, v_rf E 64), (1, v_rf E 52), (2, .int x2), (3, .int x3)] [] sh P M := by
  have hK := hO.1
  unfold f_X10_leastFalse_L65 at h
  refine V.iinc (pc := 65) (i := 3) (v := 1) (lv' := [(0, _), (1, _), (2, _), (3, _)]) hK rfl (by decide) (by decide) rfl dX10_leastFalse_65 ?_
  refine V.goto (pc := 68) (tgt := 12) hK dX10_leastFalse_68 (by decide) ?_
  refine V.pick [0, 1, 2, 3] (l := [(0, _), (1, _), (2, _), (3, _)]) rfl ?_
  exact hk12 _ _ _ h
set_option maxHeartbeats 4000000 in
set_option maxRecDepth 100000 in
theorem w_X10_leastFalse_L62 {E : v_E} {X : v_X} {sh : v_S} {P : v_P} {out : Int32 × v_M} (hL : v_Lay sh P) (hO : v_O E X cX10_leastFalse RX10 5 2 (some .int) "leastFalse" (v_Q1 (some (.int out.1)) sh P out.2)) (N : Nat) (k12 : Int32 → Int32 → v_M → Option (Int32 × v_M)) (hk12 : ∀ (x2 : Int32) (x3 : Int32) (M : v_M), k12 x2 x3 M = some out → V E X (0, 0) 12 [(0, v_rf E 64), (1, v_rf E 52), (2, .int x2), (3, .int x3)] [] sh P M) (x2 : Int32) (x3 : Int32) (M : v_M) (h : f_X10_leastFalse_L62 N k12 x2 x3 M = some out) : V E X (0, 0) 62 [(0, v_rf E 64), (1, v_rf E 52), (2, .int x2), (3, .int x3)] [] sh P M := by
  have hK := hO.1
  unfold f_X10_leastFalse_L62 at h
  refine V.iinc (pc := 62) (i := 2) (v := 1) (lv' := [(0, _), (1, _), (2, _), (3, _)]) hK rfl (by decide) (by decide) rfl dX10_leastFalse_62 ?_
  refine V.pick [0, 1, 2, 3] (l := [(0, _), (1, _), (2, _), (3, _)]) rfl ?_
  exact w_X10_leastFalse_L65 hL hO N _ hk12 _ _ _ h
set_option maxHeartbeats 4000000 in
set_option maxRecDepth 100000 in
theorem w_X10_leastFalse_L12 {E : v_E} {X : v_X} {sh : v_S} {P : v_P} {out : Int32 × v_M} (hL : v_Lay sh P) (hO : v_O E X cX10_leastFalse RX10 5 2 (some .int) "leastFalse" (v_Q1 (some (.int out.1)) sh P out.2)) (N : Nat) (n : Nat) : ∀ (x2 : Int32) (x3 : Int32) (M : v_M), f_X10_leastFalse_L12 N n x2 x3 M = some out → V E X (0, 0) 12 [(0, v_rf E 64), (1, v_rf E 52), (2, .int x2), (3, .int x3)] [] sh P M := by
  have hK := hO.1
  induction n with
  | zero => intro x2 x3 M h; rw [f_X10_leastFalse_L12] at h; cases h
  | succ n ih =>
    intro x2 x3 M h
    rw [f_X10_leastFalse_L12] at h
    refine V.iload_n (pc := 12) (i := 3) hK rfl dX10_leastFalse_12 ?_
    refine V.aload_n (pc := 13) (i := 1) hK rfl ⟨_, rfl⟩ dX10_leastFalse_13 ?_
    refine V.getI (pc := 14) hK fl_RX10_78 rfl (hL.1 52 _ ls_52) dX10_leastFalse_14 ?_
    refine V.icmp_ge (pc := 17) (tgt := 71) hK dX10_leastFalse_17 (by decide) (fun c => ?_) (fun c => ?_)
    · rw [if_pos c] at h
      refine V.iload_n (pc := 71) (i := 2) hK rfl dX10_leastFalse_71 ?_
      exact V.iret (pc := 72) hO dX10_leastFalse_72 (v_finI h)
    · rw [if_neg c] at h
      refine V.aload_n (pc := 20) (i := 1) hK rfl ⟨_, rfl⟩ dX10_leastFalse_20 ?_
      refine V.getR (pc := 21) hK fl_RX10_81 rfl (hL.1 52 _ ls_52) (hL.2 52 4 56 rfl) dX10_leastFalse_21 ?_
      refine V.iload_n (pc := 24) (i := 3) hK rfl dX10_leastFalse_24 ?_
      obtain ⟨hb, h⟩ := v_ckS h
      refine V.iald (pc := 25) hK (hL.1 56 _ ls_56) (v_ibS hb) dX10_leastFalse_25 ?_
      refine V.topi (fun y1 ey1 => ?_)
      have h := v_lt ey1 h
      refine V.istore (pc := 26) (i := 4) (lv' := [(0, _), (1, _), (2, _), (3, _), (4, _)]) hK (by decide) rfl dX10_leastFalse_26 ?_
      refine V.aload_n (pc := 28) (i := 0) hK rfl ⟨_, rfl⟩ dX10_leastFalse_28 ?_
      refine V.aload_n (pc := 29) (i := 1) hK rfl ⟨_, rfl⟩ dX10_leastFalse_29 ?_
      refine V.iload_n (pc := 30) (i := 3) hK rfl dX10_leastFalse_30 ?_
      obtain ⟨z2, hz2, h⟩ := v_bdS h
      refine V.cV (pc := 31) (ci := 10) hK (c_X10_mayBeTrue E hL N _ _ hz2) Y_X10_mayBeTrue cv_RX10_74 (by decide) rfl (hL.1 64 _ ls_64) dX10_leastFalse_31 (by decide) rfl (Nat.le_of_ble_eq_true rfl) ?_
      refine V.if_eq (pc := 34) (tgt := 62) hK dX10_leastFalse_34 (by decide) (fun c => ?_) (fun c => ?_)
      · rw [if_pos c] at h
        refine V.pick [0, 1, 2, 3] (l := [(0, _), (1, _), (2, _), (3, _)]) rfl ?_
        exact w_X10_leastFalse_L62 hL hO N _ ih _ _ _ h
      · rw [if_neg c] at h
        refine V.aload_n (pc := 37) (i := 0) hK rfl ⟨_, rfl⟩ dX10_leastFalse_37 ?_
        refine V.getR (pc := 38) hK fl_RX10_30 rfl (hL.1 64 _ ls_64) (hL.2 64 5 69 rfl) dX10_leastFalse_38 ?_
        refine V.iload (pc := 41) (i := 4) hK rfl dX10_leastFalse_41 ?_
        obtain ⟨hb, h⟩ := v_ckS h
        refine V.iald (pc := 43) hK (hL.1 69 _ ls_69) (v_ibS hb) dX10_leastFalse_43 ?_
        refine V.iconst (pc := 44) (v := 2) hK (by decide) dX10_leastFalse_44 ?_
        refine V.icmp_ge (pc := 45) (tgt := 62) hK dX10_leastFalse_45 (by decide) (fun c => ?_) (fun c => ?_)
        · rw [if_pos c] at h
          refine V.pick [0, 1, 2, 3] (l := [(0, _), (1, _), (2, _), (3, _)]) rfl ?_
          exact w_X10_leastFalse_L62 hL hO N _ ih _ _ _ h
        · rw [if_neg c] at h
          refine V.aload_n (pc := 48) (i := 0) hK rfl ⟨_, rfl⟩ dX10_leastFalse_48 ?_
          refine V.getR (pc := 49) hK fl_RX10_30 rfl (hL.1 64 _ ls_64) (hL.2 64 5 69 rfl) dX10_leastFalse_49 ?_
          refine V.iload (pc := 52) (i := 4) hK rfl dX10_leastFalse_52 ?_
          refine V.dup2 (pc := 54) hK rfl rfl dX10_leastFalse_54 ?_
          obtain ⟨hb, h⟩ := v_ckS h
          refine V.iald (pc := 55) hK (hL.1 69 _ ls_69) (v_ibS hb) dX10_leastFalse_55 ?_
          refine V.iconst (pc := 56) (v := 1) hK (by decide) dX10_leastFalse_56 ?_
          refine V.iadd (pc := 57) hK dX10_leastFalse_57 ?_
          obtain ⟨hb, h⟩ := v_ckS h
          refine V.iast (pc := 58) hK (hL.1 69 _ ls_69) (v_ibS hb) dX10_leastFalse_58 ?_
          refine V.nmM (fun M3 eM3 => ?_)
          have h := v_lt eM3 h
          refine V.goto (pc := 59) (tgt := 65) hK dX10_leastFalse_59 (by decide) ?_
          refine V.pick [0, 1, 2, 3] (l := [(0, _), (1, _), (2, _), (3, _)]) rfl ?_
          exact w_X10_leastFalse_L65 hL hO N _ ih _ _ _ h
set_option maxHeartbeats 4000000 in
set_option maxRecDepth 100000 in
theorem c_X10_leastFalse (E : v_E) {sh : v_S} {P : v_P} (hL : v_Lay sh P) (N : Nat) (M : v_M) {out : Int32 × v_M} (h : f_X10_leastFalse N M = some out) : v_Ct E 2 yX10_leastFalse cX10_leastFalse 5 (some .int) 0 0 [v_rf E 64, v_rf E 52] sh P M (v_Q1 (some (.int out.1)) sh P out.2) := by
  refine v_Ct.of (by decide +kernel) (Nat.le_of_ble_eq_true rfl) (fun X hO => ?_)
  have hK : v_K E X cX10_leastFalse RX10 5 2 := hO.1
  have hO : v_O E X cX10_leastFalse RX10 5 2 (some .int) "leastFalse" (v_Q1 (some (.int out.1)) sh P out.2) := hO
  show V E X (0, 0) 0 [(0, v_rf E 64), (1, v_rf E 52)] [] sh P M
  unfold f_X10_leastFalse at h
  refine V.aload_n (pc := 0) (i := 0) hK rfl ⟨_, rfl⟩ dX10_leastFalse_0 ?_
  refine V.getR (pc := 1) hK fl_RX10_30 rfl (hL.1 64 _ ls_64) (hL.2 64 5 69 rfl) dX10_leastFalse_1 ?_
  refine V.iconst (pc := 4) (v := 0) hK (by decide) dX10_leastFalse_4 ?_
  obtain ⟨z1, hz1, h⟩ := v_bdS h
  refine V.cSv (pc := 5) hK (c_J7_fill_53178 E hL N _ _ (hL.1 69 _ ls_69) _ _ hz1) Y_J7_fill_53178 cs_RX10_36 dX10_leastFalse_5 (by decide) rfl (Nat.le_of_ble_eq_true rfl) ?_
  refine V.iconst (pc := 8) (v := 0) hK (by decide) dX10_leastFalse_8 ?_
  refine V.istore_n (pc := 9) (i := 2) (lv' := [(0, _), (1, _), (2, _)]) hK (by decide) rfl dX10_leastFalse_9 ?_
  refine V.iconst (pc := 10) (v := 0) hK (by decide) dX10_leastFalse_10 ?_
  refine V.istore_n (pc := 11) (i := 3) (lv' := [(0, _), (1, _), (2, _), (3, _)]) hK (by decide) rfl dX10_leastFalse_11 ?_
  refine V.pick [0, 1, 2, 3] (l := [(0, _), (1, _), (2, _), (3, _)]) rfl ?_
  exact w_X10_leastFalse_L12 hL hO N N _ _ _ h
set_option maxHeartbeats 4000000 in
set_option maxRecDepth 100000 in
theorem w_X10_choose_L158 {E : v_E} {X : v_X} {sh : v_S} {P : v_P} {out : Int32 × v_M} (hL : v_Lay sh P) (hO : v_O E X cX10_choose RX10 8 3 (some .boolean) "choose" (v_Q1 (some (.int out.1)) sh P out.2)) (N : Nat) (k20 : Int32 → Int32 → v_M → Option (Int32 × v_M)) (hk20 : ∀ (x3 : Int32) (x4 : Int32) (M : v_M), k20 x3 x4 M = some out → V E X (0, 0) 20 [(0, v_rf E 64), (1, v_rf E 52), (3, .int x3), (4, .int x4)] [] sh P M) (x3 : Int32) (x4 : Int32) (M : v_M) (h : f_X10_choose_L158 N k20 x3 x4 M = some out) : V E X (0, 0) 158 [(0, v_rf E 64), (1, v_rf E 52), (3, .int x3), (4, .int x4)] [] sh P M := by
  have hK := hO.1
  unfold f_X10_choose_L158 at h
  refine V.iinc (pc := 158) (i := 4) (v := 1) (lv' := [(0, _), (1, _), (3, _), (4, _)]) hK rfl (by decide) (by decide) rfl dX10_choose_158 ?_
  refine V.goto (pc := 161) (tgt := 20) hK dX10_choose_161 (by decide) ?_
  refine V.pick [0, 1, 3, 4] (l := [(0, _), (1, _), (3, _), (4, _)]) rfl ?_
  exact hk20 _ _ _ h
set_option maxHeartbeats 4000000 in
set_option maxRecDepth 100000 in
theorem w_X10_choose_L143 {E : v_E} {X : v_X} {sh : v_S} {P : v_P} {out : Int32 × v_M} (hL : v_Lay sh P) (hO : v_O E X cX10_choose RX10 8 3 (some .boolean) "choose" (v_Q1 (some (.int out.1)) sh P out.2)) (N : Nat) (k20 : Int32 → Int32 → v_M → Option (Int32 × v_M)) (hk20 : ∀ (x3 : Int32) (x4 : Int32) (M : v_M), k20 x3 x4 M = some out → V E X (0, 0) 20 [(0, v_rf E 64), (1, v_rf E 52), (3, .int x3), (4, .int x4)] [] sh P M) (k53 : Int32 → Int32 → Int32 → Int32 → v_M → Option (Int32 × v_M)) (hk53 : ∀ (x3 : Int32) (x4 : Int32) (x5 : Int32) (x6 : Int32) (M : v_M), k53 x3 x4 x5 x6 M = some out → V E X (0, 0) 53 [(0, v_rf E 64), (1, v_rf E 52), (3, .int x3), (4, .int x4), (5, .int x5), (6, .int x6)] [] sh P M) (x3 : Int32) (x4 : Int32) (x5 : Int32) (x6 : Int32) (M : v_M) (h : f_X10_choose_L143 N k20 k53 x3 x4 x5 x6 M = some out) : V E X (0, 0) 143 [(0, v_rf E 64), (1, v_rf E 52), (3, .int x3), (4, .int x4), (5, .int x5), (6, .int x6)] [] sh P M := by
  have hK := hO.1
  unfold f_X10_choose_L143 at h
  refine V.aload_n (pc := 143) (i := 1) hK rfl ⟨_, rfl⟩ dX10_choose_143 ?_
  refine V.getR (pc := 144) hK fl_RX10_101 rfl (hL.1 52 _ ls_52) (hL.2 52 5 57 rfl) dX10_choose_144 ?_
  refine V.iload (pc := 147) (i := 5) hK rfl dX10_choose_147 ?_
  obtain ⟨hb, h⟩ := v_ckS h
  refine V.iald (pc := 149) hK (hL.1 57 _ ls_57) (v_ibS hb) dX10_choose_149 ?_
  refine V.topi (fun y1 ey1 => ?_)
  have h := v_lt ey1 h
  refine V.istore (pc := 150) (i := 5) (lv' := [(0, _), (1, _), (3, _), (4, _), (5, _), (6, _)]) hK (by decide) rfl dX10_choose_150 ?_
  refine V.iinc (pc := 152) (i := 6) (v := 1) (lv' := [(0, _), (1, _), (3, _), (4, _), (5, _), (6, _)]) hK rfl (by decide) (by decide) rfl dX10_choose_152 ?_
  refine V.goto (pc := 155) (tgt := 53) hK dX10_choose_155 (by decide) ?_
  refine V.pick [0, 1, 3, 4, 5, 6] (l := [(0, _), (1, _), (3, _), (4, _), (5, _), (6, _)]) rfl ?_
  exact hk53 _ _ _ _ _ h
set_option maxHeartbeats 4000000 in
set_option maxRecDepth 100000 in
theorem w_X10_choose_L53 {E : v_E} {X : v_X} {sh : v_S} {P : v_P} {out : Int32 × v_M} (hL : v_Lay sh P) (hO : v_O E X cX10_choose RX10 8 3 (some .boolean) "choose" (v_Q1 (some (.int out.1)) sh P out.2)) (N : Nat) (k20 : Int32 → Int32 → v_M → Option (Int32 × v_M)) (hk20 : ∀ (x3 : Int32) (x4 : Int32) (M : v_M), k20 x3 x4 M = some out → V E X (0, 0) 20 [(0, v_rf E 64), (1, v_rf E 52), (3, .int x3), (4, .int x4)] [] sh P M) (n : Nat) : ∀ (x3 : Int32) (x4 : Int32) (x5 : Int32) (x6 : Int32) (M : v_M), f_X10_choose_L53 N k20 n x3 x4 x5 x6 M = some out → V E X (0, 0) 53 [(0, v_rf E 64), (1, v_rf E 52), (3, .int x3), (4, .int x4), (5, .int x5), (6, .int x6)] [] sh P M := by
  have hK := hO.1
  induction n with
  | zero => intro x3 x4 x5 x6 M h; rw [f_X10_choose_L53] at h; cases h
  | succ n ih =>
    intro x3 x4 x5 x6 M h
    rw [f_X10_choose_L53] at h
    refine V.iload (pc := 53) (i := 6) hK rfl dX10_choose_53 ?_
    refine V.sipush (pc := 55) (v := 200) hK (by decide) dX10_choose_55 ?_
    refine V.icmp_ge (pc := 58) (tgt := 158) hK dX10_choose_58 (by decide) (fun c => ?_) (fun c => ?_)
    · rw [if_pos c] at h
      refine V.pick [0, 1, 3, 4] (l := [(0, _), (1, _), (3, _), (4, _)]) rfl ?_
      exact w_X10_choose_L158 hL hO N _ hk20 _ _ _ h
    · rw [if_neg c] at h
      refine V.iload (pc := 61) (i := 5) hK rfl dX10_choose_61 ?_
      refine V.if_lt (pc := 63) (tgt := 158) hK dX10_choose_63 (by decide) (fun c => ?_) (fun c => ?_)
      · rw [if_pos c] at h
        refine V.pick [0, 1, 3, 4] (l := [(0, _), (1, _), (3, _), (4, _)]) rfl ?_
        exact w_X10_choose_L158 hL hO N _ hk20 _ _ _ h
      · rw [if_neg c] at h
        refine V.aload_n (pc := 66) (i := 1) hK rfl ⟨_, rfl⟩ dX10_choose_66 ?_
        refine V.getR (pc := 67) hK fl_RX10_81 rfl (hL.1 52 _ ls_52) (hL.2 52 4 56 rfl) dX10_choose_67 ?_
        refine V.iload (pc := 70) (i := 5) hK rfl dX10_choose_70 ?_
        obtain ⟨hb, h⟩ := v_ckS h
        refine V.iald (pc := 72) hK (hL.1 56 _ ls_56) (v_ibS hb) dX10_choose_72 ?_
        refine V.topi (fun y1 ey1 => ?_)
        have h := v_lt ey1 h
        refine V.istore (pc := 73) (i := 7) (lv' := [(0, _), (1, _), (3, _), (4, _), (5, _), (6, _), (7, _)]) hK (by decide) rfl dX10_choose_73 ?_
        refine V.iload (pc := 75) (i := 5) hK rfl dX10_choose_75 ?_
        refine V.aload_n (pc := 77) (i := 0) hK rfl ⟨_, rfl⟩ dX10_choose_77 ?_
        refine V.getI (pc := 78) hK fl_RX10_9 rfl (hL.1 64 _ ls_64) dX10_choose_78 ?_
        refine V.icmp_eq (pc := 81) (tgt := 143) hK dX10_choose_81 (by decide) (fun c => ?_) (fun c => ?_)
        · rw [if_pos c] at h
          refine V.pick [0, 1, 3, 4, 5, 6] (l := [(0, _), (1, _), (3, _), (4, _), (5, _), (6, _)]) rfl ?_
          exact w_X10_choose_L143 hL hO N _ hk20 _ ih _ _ _ _ _ h
        · rw [if_neg c] at h
          refine V.aload_n (pc := 84) (i := 0) hK rfl ⟨_, rfl⟩ dX10_choose_84 ?_
          refine V.getR (pc := 85) hK fl_RX10_33 rfl (hL.1 64 _ ls_64) (hL.2 64 6 70 rfl) dX10_choose_85 ?_
          refine V.iload (pc := 88) (i := 7) hK rfl dX10_choose_88 ?_
          obtain ⟨hb, h⟩ := v_ckS h
          refine V.iald (pc := 90) hK (hL.1 70 _ ls_70) (v_ibS hb) dX10_choose_90 ?_
          refine V.iconst (pc := 91) (v := -1) hK (by decide) dX10_choose_91 ?_
          refine V.icmp_ne (pc := 92) (tgt := 143) hK dX10_choose_92 (by decide) (fun c => ?_) (fun c => ?_)
          · rw [if_neg c] at h
            refine V.pick [0, 1, 3, 4, 5, 6] (l := [(0, _), (1, _), (3, _), (4, _), (5, _), (6, _)]) rfl ?_
            exact w_X10_choose_L143 hL hO N _ hk20 _ ih _ _ _ _ _ h
          · rw [if_pos c] at h
            refine V.aload_n (pc := 95) (i := 0) hK rfl ⟨_, rfl⟩ dX10_choose_95 ?_
            refine V.aload_n (pc := 96) (i := 1) hK rfl ⟨_, rfl⟩ dX10_choose_96 ?_
            refine V.iload (pc := 97) (i := 5) hK rfl dX10_choose_97 ?_
            obtain ⟨z2, hz2, h⟩ := v_bdS h
            refine V.cV (pc := 99) (ci := 10) hK (c_X10_serves E hL N _ _ hz2) Y_X10_serves cv_RX10_84 (by decide) rfl (hL.1 64 _ ls_64) dX10_choose_99 (by decide) rfl (Nat.le_of_ble_eq_true rfl) ?_
            refine V.if_eq (pc := 102) (tgt := 143) hK dX10_choose_102 (by decide) (fun c => ?_) (fun c => ?_)
            · rw [if_pos c] at h
              refine V.pick [0, 1, 3, 4, 5, 6] (l := [(0, _), (1, _), (3, _), (4, _), (5, _), (6, _)]) rfl ?_
              exact w_X10_choose_L143 hL hO N _ hk20 _ ih _ _ _ _ _ h
            · rw [if_neg c] at h
              refine V.aload_n (pc := 105) (i := 0) hK rfl ⟨_, rfl⟩ dX10_choose_105 ?_
              refine V.getR (pc := 106) hK fl_RX10_33 rfl (hL.1 64 _ ls_64) (hL.2 64 6 70 rfl) dX10_choose_106 ?_
              refine V.iload (pc := 109) (i := 7) hK rfl dX10_choose_109 ?_
              refine V.iload (pc := 111) (i := 5) hK rfl dX10_choose_111 ?_
              obtain ⟨hb, h⟩ := v_ckS h
              refine V.iast (pc := 113) hK (hL.1 70 _ ls_70) (v_ibS hb) dX10_choose_113 ?_
              refine V.nmM (fun M3 eM3 => ?_)
              have h := v_lt eM3 h
              refine V.aload_n (pc := 114) (i := 0) hK rfl ⟨_, rfl⟩ dX10_choose_114 ?_
              refine V.getR (pc := 115) hK fl_RX10_30 rfl (hL.1 64 _ ls_64) (hL.2 64 5 69 rfl) dX10_choose_115 ?_
              refine V.iload (pc := 118) (i := 7) hK rfl dX10_choose_118 ?_
              obtain ⟨hb, h⟩ := v_ckS h
              refine V.iald (pc := 120) hK (hL.1 69 _ ls_69) (v_ibS hb) dX10_choose_120 ?_
              refine V.iconst (pc := 121) (v := 2) hK (by decide) dX10_choose_121 ?_
              refine V.icmp_ge (pc := 122) (tgt := 134) hK dX10_choose_122 (by decide) (fun c => ?_) (fun c => ?_)
              · rw [if_pos c] at h
                refine V.aload_n (pc := 134) (i := 0) hK rfl ⟨_, rfl⟩ dX10_choose_134 ?_
                refine V.aload_n (pc := 135) (i := 1) hK rfl ⟨_, rfl⟩ dX10_choose_135 ?_
                refine V.iload (pc := 136) (i := 7) hK rfl dX10_choose_136 ?_
                refine V.iload_n (pc := 138) (i := 3) hK rfl dX10_choose_138 ?_
                obtain ⟨z4, hz4, h⟩ := v_bdS h
                refine V.cV (pc := 139) (ci := 10) hK (c_X10_queueHolders E hL N _ _ _ hz4) Y_X10_queueHolders cv_RX10_97 (by decide) rfl (hL.1 64 _ ls_64) dX10_choose_139 (by decide) rfl (Nat.le_of_ble_eq_true rfl) ?_
                refine V.topi (fun y5 ey5 => ?_)
                have h := v_lt ey5 h
                refine V.istore_n (pc := 142) (i := 3) (lv' := [(0, _), (1, _), (3, _), (4, _), (5, _), (6, _), (7, _)]) hK (by decide) rfl dX10_choose_142 ?_
                refine V.pick [0, 1, 3, 4, 5, 6] (l := [(0, _), (1, _), (3, _), (4, _), (5, _), (6, _)]) rfl ?_
                exact w_X10_choose_L143 hL hO N _ hk20 _ ih _ _ _ _ _ h
              · rw [if_neg c] at h
                refine V.aload_n (pc := 125) (i := 0) hK rfl ⟨_, rfl⟩ dX10_choose_125 ?_
                refine V.aload_n (pc := 126) (i := 1) hK rfl ⟨_, rfl⟩ dX10_choose_126 ?_
                refine V.iload (pc := 127) (i := 7) hK rfl dX10_choose_127 ?_
                obtain ⟨z6, hz6, h⟩ := v_bdS h
                refine V.cVv (pc := 129) (ci := 10) hK (c_X10_moveChoices E hL N _ _ hz6) Y_X10_moveChoices cv_RX10_93 (by decide) rfl (hL.1 64 _ ls_64) dX10_choose_129 (by decide) rfl (Nat.le_of_ble_eq_true rfl) ?_
                refine V.iconst (pc := 132) (v := 1) hK (by decide) dX10_choose_132 ?_
                obtain ⟨hb, h⟩ := v_ckS h
                exact V.zret (pc := 133) hO (v_z01 hb) dX10_choose_133 (v_finI h)
set_option maxHeartbeats 4000000 in
set_option maxRecDepth 100000 in
theorem w_X10_choose_L20 {E : v_E} {X : v_X} {sh : v_S} {P : v_P} {out : Int32 × v_M} (hL : v_Lay sh P) (hO : v_O E X cX10_choose RX10 8 3 (some .boolean) "choose" (v_Q1 (some (.int out.1)) sh P out.2)) (N : Nat) (n : Nat) : ∀ (x3 : Int32) (x4 : Int32) (M : v_M), f_X10_choose_L20 N n x3 x4 M = some out → V E X (0, 0) 20 [(0, v_rf E 64), (1, v_rf E 52), (3, .int x3), (4, .int x4)] [] sh P M := by
  have hK := hO.1
  induction n with
  | zero => intro x3 x4 M h; rw [f_X10_choose_L20] at h; cases h
  | succ n ih =>
    intro x3 x4 M h
    rw [f_X10_choose_L20] at h
    refine V.iload (pc := 20) (i := 4) hK rfl dX10_choose_20 ?_
    refine V.iload_n (pc := 22) (i := 3) hK rfl dX10_choose_22 ?_
    refine V.icmp_ge (pc := 23) (tgt := 164) hK dX10_choose_23 (by decide) (fun c => ?_) (fun c => ?_)
    · rw [if_pos c] at h
      refine V.iconst (pc := 164) (v := 0) hK (by decide) dX10_choose_164 ?_
      obtain ⟨hb, h⟩ := v_ckS h
      exact V.zret (pc := 165) hO (v_z01 hb) dX10_choose_165 (v_finI h)
    · rw [if_neg c] at h
      refine V.iload (pc := 26) (i := 4) hK rfl dX10_choose_26 ?_
      refine V.aload_n (pc := 28) (i := 0) hK rfl ⟨_, rfl⟩ dX10_choose_28 ?_
      refine V.getR (pc := 29) hK fl_RX10_27 rfl (hL.1 64 _ ls_64) (hL.2 64 4 68 rfl) dX10_choose_29 ?_
      refine V.alen (pc := 32) (v := 200) hK (hL.1 68 _ ls_68) (by decide) (by decide) dX10_choose_32 ?_
      refine V.icmp_ge (pc := 33) (tgt := 164) hK dX10_choose_33 (by decide) (fun c => ?_) (fun c => ?_)
      · rw [if_pos c] at h
        refine V.iconst (pc := 164) (v := 0) hK (by decide) dX10_choose_164 ?_
        obtain ⟨hb, h⟩ := v_ckS h
        exact V.zret (pc := 165) hO (v_z01 hb) dX10_choose_165 (v_finI h)
      · rw [if_neg c] at h
        refine V.aload_n (pc := 36) (i := 1) hK rfl ⟨_, rfl⟩ dX10_choose_36 ?_
        refine V.getR (pc := 37) hK fl_RX10_90 rfl (hL.1 52 _ ls_52) (hL.2 52 7 59 rfl) dX10_choose_37 ?_
        refine V.aload_n (pc := 40) (i := 0) hK rfl ⟨_, rfl⟩ dX10_choose_40 ?_
        refine V.getR (pc := 41) hK fl_RX10_27 rfl (hL.1 64 _ ls_64) (hL.2 64 4 68 rfl) dX10_choose_41 ?_
        refine V.iload (pc := 44) (i := 4) hK rfl dX10_choose_44 ?_
        obtain ⟨hb, h⟩ := v_ckS h
        refine V.iald (pc := 46) hK (hL.1 68 _ ls_68) (v_ibS hb) dX10_choose_46 ?_
        obtain ⟨hb, h⟩ := v_ckS h
        refine V.iald (pc := 47) hK (hL.1 59 _ ls_59) (v_ibS hb) dX10_choose_47 ?_
        refine V.topi (fun y1 ey1 => ?_)
        have h := v_lt ey1 h
        refine V.istore (pc := 48) (i := 5) (lv' := [(0, _), (1, _), (3, _), (4, _), (5, _)]) hK (by decide) rfl dX10_choose_48 ?_
        refine V.iconst (pc := 50) (v := 0) hK (by decide) dX10_choose_50 ?_
        refine V.istore (pc := 51) (i := 6) (lv' := [(0, _), (1, _), (3, _), (4, _), (5, _), (6, _)]) hK (by decide) rfl dX10_choose_51 ?_
        refine V.pick [0, 1, 3, 4, 5, 6] (l := [(0, _), (1, _), (3, _), (4, _), (5, _), (6, _)]) rfl ?_
        exact w_X10_choose_L53 hL hO N _ ih N _ _ _ _ _ h
set_option maxHeartbeats 4000000 in
set_option maxRecDepth 100000 in
theorem c_X10_choose (E : v_E) {sh : v_S} {P : v_P} (hL : v_Lay sh P) (N : Nat) (x2 : Int32) (M : v_M) {out : Int32 × v_M} (h : f_X10_choose N x2 M = some out) : v_Ct E 3 yX10_choose cX10_choose 8 (some .boolean) 0 0 [v_rf E 64, v_rf E 52, .int x2] sh P M (v_Q1 (some (.int out.1)) sh P out.2) := by
  refine v_Ct.of (by decide +kernel) (Nat.le_of_ble_eq_true rfl) (fun X hO => ?_)
  have hK : v_K E X cX10_choose RX10 8 3 := hO.1
  have hO : v_O E X cX10_choose RX10 8 3 (some .boolean) "choose" (v_Q1 (some (.int out.1)) sh P out.2) := hO
  show V E X (0, 0) 0 [(0, v_rf E 64), (1, v_rf E 52), (2, .int x2)] [] sh P M
  unfold f_X10_choose at h
  refine V.aload_n (pc := 0) (i := 0) hK rfl ⟨_, rfl⟩ dX10_choose_0 ?_
  refine V.getR (pc := 1) hK fl_RX10_33 rfl (hL.1 64 _ ls_64) (hL.2 64 6 70 rfl) dX10_choose_1 ?_
  refine V.iconst (pc := 4) (v := -1) hK (by decide) dX10_choose_4 ?_
  obtain ⟨z1, hz1, h⟩ := v_bdS h
  refine V.cSv (pc := 5) hK (c_J7_fill_53178 E hL N _ _ (hL.1 70 _ ls_70) _ _ hz1) Y_J7_fill_53178 cs_RX10_36 dX10_choose_5 (by decide) rfl (Nat.le_of_ble_eq_true rfl) ?_
  refine V.aload_n (pc := 8) (i := 0) hK rfl ⟨_, rfl⟩ dX10_choose_8 ?_
  refine V.getR (pc := 9) hK fl_RX10_27 rfl (hL.1 64 _ ls_64) (hL.2 64 4 68 rfl) dX10_choose_9 ?_
  refine V.iconst (pc := 12) (v := 0) hK (by decide) dX10_choose_12 ?_
  refine V.iload_n (pc := 13) (i := 2) hK rfl dX10_choose_13 ?_
  obtain ⟨hb, h⟩ := v_ckS h
  refine V.iast (pc := 14) hK (hL.1 68 _ ls_68) (v_ibS hb) dX10_choose_14 ?_
  refine V.nmM (fun M2 eM2 => ?_)
  have h := v_lt eM2 h
  refine V.iconst (pc := 15) (v := 1) hK (by decide) dX10_choose_15 ?_
  refine V.istore_n (pc := 16) (i := 3) (lv' := [(0, _), (1, _), (2, _), (3, _)]) hK (by decide) rfl dX10_choose_16 ?_
  refine V.iconst (pc := 17) (v := 0) hK (by decide) dX10_choose_17 ?_
  refine V.istore (pc := 18) (i := 4) (lv' := [(0, _), (1, _), (2, _), (3, _), (4, _)]) hK (by decide) rfl dX10_choose_18 ?_
  refine V.pick [0, 1, 3, 4] (l := [(0, _), (1, _), (3, _), (4, _)]) rfl ?_
  exact w_X10_choose_L20 hL hO N N _ _ _ h
set_option maxHeartbeats 4000000 in
set_option maxRecDepth 100000 in
theorem c_X11_clock (E : v_E) {sh : v_S} {P : v_P} (hL : v_Lay sh P) (N : Nat) (x1 : Int32) (M : v_M) {out : Int32 × v_M} (h : f_X11_clock N x1 M = some out) : v_Ct E 1 yX11_clock cX11_clock 2 (some .boolean) 0 0 [v_rf E 0, .int x1] sh P M (v_Q1 (some (.int out.1)) sh P out.2) := by
  refine v_Ct.of (by decide +kernel) (Nat.le_of_ble_eq_true rfl) (fun X hO => ?_)
  have hK : v_K E X cX11_clock RX11 2 1 := hO.1
  have hO : v_O E X cX11_clock RX11 2 1 (some .boolean) "clock" (v_Q1 (some (.int out.1)) sh P out.2) := hO
  show V E X (0, 0) 0 [(0, v_rf E 0), (1, .int x1)] [] sh P M
  unfold f_X11_clock at h
  refine V.iload_n (pc := 0) (i := 1) hK rfl dX11_clock_0 ?_
  refine V.aload_n (pc := 1) (i := 0) hK rfl ⟨_, rfl⟩ dX11_clock_1 ?_
  refine V.getI (pc := 2) hK fl_RX11_7 rfl (hL.1 0 _ ls_0) dX11_clock_2 ?_
  refine V.sipush (pc := 5) (v := 9999) hK (by decide) dX11_clock_5 ?_
  obtain ⟨z1, hz1, h⟩ := v_bdS h
  refine V.cS (pc := 8) hK (c_X11_within E hL N _ _ _ _ hz1) Y_X11_within cs_RX11_93 dX11_clock_8 (by decide) rfl (Nat.le_of_ble_eq_true rfl) ?_
  refine V.if_ne (pc := 11) (tgt := 16) hK dX11_clock_11 (by decide) (fun c => ?_) (fun c => ?_)
  · rw [if_neg c] at h
    refine V.aload_n (pc := 16) (i := 0) hK rfl ⟨_, rfl⟩ dX11_clock_16 ?_
    refine V.iload_n (pc := 17) (i := 1) hK rfl dX11_clock_17 ?_
    refine V.putI (pc := 18) hK fl_RX11_7 rfl rfl ⟨rfl, rfl⟩ (hL.1 0 _ ls_0) dX11_clock_18 ?_
    refine V.nmM (fun M2 eM2 => ?_)
    have h := v_lt eM2 h
    refine V.iconst (pc := 21) (v := 1) hK (by decide) dX11_clock_21 ?_
    obtain ⟨hb, h⟩ := v_ckS h
    exact V.zret (pc := 22) hO (v_z01 hb) dX11_clock_22 (v_finI h)
  · rw [if_pos c] at h
    refine V.iconst (pc := 14) (v := 0) hK (by decide) dX11_clock_14 ?_
    obtain ⟨hb, h⟩ := v_ckS h
    exact V.zret (pc := 15) hO (v_z01 hb) dX11_clock_15 (v_finI h)
set_option maxHeartbeats 4000000 in
set_option maxRecDepth 100000 in
theorem w_X11_part_L86 {E : v_E} {X : v_X} {sh : v_S} {P : v_P} {out : Int32 × v_M} (hL : v_Lay sh P) (hO : v_O E X cX11_part RX11 10 2 (some .int) "part" (v_Q1 (some (.int out.1)) sh P out.2)) (N : Nat) (x1 : Int32) (x2 : Int32) (x3 : Int32) (x4 : Int32) (x5 : Int32) (x6 : Int32) (x7 : Int32) (x8 : Int32) (t0 : Int32) (M : v_M) (h : f_X11_part_L86 N x1 x2 x3 x4 x5 x6 x7 x8 t0 M = some out) : V E X (0, 0) 86 [(0, v_rf E 0), (1, .int x1), (2, .int x2), (3, .int x3), (4, .int x4), (5, .int x5), (6, .int x6), (7, .int x7), (8, .int x8)] [.int t0] sh P M := by
  have hK := hO.1
  unfold f_X11_part_L86 at h
  refine V.istore (pc := 86) (i := 9) (lv' := [(0, _), (1, _), (2, _), (3, _), (4, _), (5, _), (6, _), (7, _), (8, _), (9, _)]) hK (by decide) rfl dX11_part_86 ?_
  refine V.iload (pc := 88) (i := 8) hK rfl dX11_part_88 ?_
  refine V.if_eq (pc := 90) (tgt := 110) hK dX11_part_90 (by decide) (fun c => ?_) (fun c => ?_)
  · rw [if_pos c] at h
    refine V.iconst (pc := 110) (v := -1) hK (by decide) dX11_part_110 ?_
    exact V.iret (pc := 111) hO dX11_part_111 (v_finI h)
  · rw [if_neg c] at h
    refine V.iload (pc := 93) (i := 9) hK rfl dX11_part_93 ?_
    refine V.if_eq (pc := 95) (tgt := 110) hK dX11_part_95 (by decide) (fun c => ?_) (fun c => ?_)
    · rw [if_pos c] at h
      refine V.iconst (pc := 110) (v := -1) hK (by decide) dX11_part_110 ?_
      exact V.iret (pc := 111) hO dX11_part_111 (v_finI h)
    · rw [if_neg c] at h
      refine V.aload_n (pc := 98) (i := 0) hK rfl ⟨_, rfl⟩ dX11_part_98 ?_
      refine V.getR (pc := 99) hK fl_RX11_19 rfl (hL.1 0 _ ls_0) (hL.2 0 2 1 rfl) dX11_part_99 ?_
      refine V.iload_n (pc := 102) (i := 1) hK rfl dX11_part_102 ?_
      refine V.iload_n (pc := 103) (i := 2) hK rfl dX11_part_103 ?_
      obtain ⟨z1, hz1, h⟩ := v_bdS h
      refine V.cV (pc := 104) (ci := 3) hK (c_X3_takesKind E hL N _ _ _ hz1) Y_X3_takesKind cv_RX11_97 (by decide) rfl (hL.1 1 _ ls_1) dX11_part_104 (by decide) rfl (Nat.le_of_ble_eq_true rfl) ?_
      refine V.if_ne (pc := 107) (tgt := 112) hK dX11_part_107 (by decide) (fun c => ?_) (fun c => ?_)
      · rw [if_neg c] at h
        refine V.aload_n (pc := 112) (i := 0) hK rfl ⟨_, rfl⟩ dX11_part_112 ?_
        refine V.getR (pc := 113) hK fl_RX11_19 rfl (hL.1 0 _ ls_0) (hL.2 0 2 1 rfl) dX11_part_113 ?_
        refine V.iload_n (pc := 116) (i := 1) hK rfl dX11_part_116 ?_
        refine V.iload_n (pc := 117) (i := 2) hK rfl dX11_part_117 ?_
        refine V.iload_n (pc := 118) (i := 3) hK rfl dX11_part_118 ?_
        refine V.iload (pc := 119) (i := 4) hK rfl dX11_part_119 ?_
        refine V.iload (pc := 121) (i := 5) hK rfl dX11_part_121 ?_
        refine V.iload (pc := 123) (i := 6) hK rfl dX11_part_123 ?_
        refine V.iload (pc := 125) (i := 7) hK rfl dX11_part_125 ?_
        obtain ⟨z2, hz2, h⟩ := v_bdS h
        refine V.cV (pc := 127) (ci := 3) hK (c_X3_add E hL N _ _ _ _ _ _ _ _ hz2) Y_X3_add cv_RX11_101 (by decide) rfl (hL.1 1 _ ls_1) dX11_part_127 (by decide) rfl (Nat.le_of_ble_eq_true rfl) ?_
        exact V.iret (pc := 130) hO dX11_part_130 (v_finI h)
      · rw [if_pos c] at h
        refine V.iconst (pc := 110) (v := -1) hK (by decide) dX11_part_110 ?_
        exact V.iret (pc := 111) hO dX11_part_111 (v_finI h)
set_option maxHeartbeats 4000000 in
set_option maxRecDepth 100000 in
theorem w_X11_part_L85 {E : v_E} {X : v_X} {sh : v_S} {P : v_P} {out : Int32 × v_M} (hL : v_Lay sh P) (hO : v_O E X cX11_part RX11 10 2 (some .int) "part" (v_Q1 (some (.int out.1)) sh P out.2)) (N : Nat) (x1 : Int32) (x2 : Int32) (x3 : Int32) (x4 : Int32) (x5 : Int32) (x6 : Int32) (x7 : Int32) (x8 : Int32) (M : v_M) (h : f_X11_part_L85 N x1 x2 x3 x4 x5 x6 x7 x8 M = some out) : V E X (0, 0) 85 [(0, v_rf E 0), (1, .int x1), (2, .int x2), (3, .int x3), (4, .int x4), (5, .int x5), (6, .int x6), (7, .int x7), (8, .int x8)] [] sh P M := by
  have hK := hO.1
  unfold f_X11_part_L85 at h
  refine V.iconst (pc := 85) (v := 0) hK (by decide) dX11_part_85 ?_
  refine V.pick [0, 1, 2, 3, 4, 5, 6, 7, 8] (l := [(0, _), (1, _), (2, _), (3, _), (4, _), (5, _), (6, _), (7, _), (8, _)]) rfl ?_
  exact w_X11_part_L86 hL hO N _ _ _ _ _ _ _ _ _ _ h
set_option maxHeartbeats 4000000 in
set_option maxRecDepth 100000 in
theorem w_X11_part_L43 {E : v_E} {X : v_X} {sh : v_S} {P : v_P} {out : Int32 × v_M} (hL : v_Lay sh P) (hO : v_O E X cX11_part RX11 10 2 (some .int) "part" (v_Q1 (some (.int out.1)) sh P out.2)) (N : Nat) (x1 : Int32) (x2 : Int32) (x3 : Int32) (x4 : Int32) (x5 : Int32) (x6 : Int32) (x7 : Int32) (t0 : Int32) (M : v_M) (h : f_X11_part_L43 N x1 x2 x3 x4 x5 x6 x7 t0 M = some out) : V E X (0, 0) 43 [(0, v_rf E 0), (1, .int x1), (2, .int x2), (3, .int x3), (4, .int x4), (5, .int x5), (6, .int x6), (7, .int x7)] [.int t0] sh P M := by
  have hK := hO.1
  unfold f_X11_part_L43 at h
  refine V.istore (pc := 43) (i := 8) (lv' := [(0, _), (1, _), (2, _), (3, _), (4, _), (5, _), (6, _), (7, _), (8, _)]) hK (by decide) rfl dX11_part_43 ?_
  refine V.iload (pc := 45) (i := 5) hK rfl dX11_part_45 ?_
  refine V.iconst (pc := 47) (v := 0) hK (by decide) dX11_part_47 ?_
  refine V.sipush (pc := 48) (v := 999) hK (by decide) dX11_part_48 ?_
  obtain ⟨z1, hz1, h⟩ := v_bdS h
  refine V.cS (pc := 51) hK (c_X11_within E hL N _ _ _ _ hz1) Y_X11_within cs_RX11_93 dX11_part_51 (by decide) rfl (Nat.le_of_ble_eq_true rfl) ?_
  refine V.if_eq (pc := 54) (tgt := 85) hK dX11_part_54 (by decide) (fun c => ?_) (fun c => ?_)
  · rw [if_pos c] at h
    refine V.pick [0, 1, 2, 3, 4, 5, 6, 7, 8] (l := [(0, _), (1, _), (2, _), (3, _), (4, _), (5, _), (6, _), (7, _), (8, _)]) rfl ?_
    exact w_X11_part_L85 hL hO N _ _ _ _ _ _ _ _ _ h
  · rw [if_neg c] at h
    refine V.iload (pc := 57) (i := 6) hK rfl dX11_part_57 ?_
    refine V.iconst (pc := 59) (v := 0) hK (by decide) dX11_part_59 ?_
    refine V.sipush (pc := 60) (v := 999) hK (by decide) dX11_part_60 ?_
    obtain ⟨z2, hz2, h⟩ := v_bdS h
    refine V.cS (pc := 63) hK (c_X11_within E hL N _ _ _ _ hz2) Y_X11_within cs_RX11_93 dX11_part_63 (by decide) rfl (Nat.le_of_ble_eq_true rfl) ?_
    refine V.if_eq (pc := 66) (tgt := 85) hK dX11_part_66 (by decide) (fun c => ?_) (fun c => ?_)
    · rw [if_pos c] at h
      refine V.pick [0, 1, 2, 3, 4, 5, 6, 7, 8] (l := [(0, _), (1, _), (2, _), (3, _), (4, _), (5, _), (6, _), (7, _), (8, _)]) rfl ?_
      exact w_X11_part_L85 hL hO N _ _ _ _ _ _ _ _ _ h
    · rw [if_neg c] at h
      refine V.iload (pc := 69) (i := 7) hK rfl dX11_part_69 ?_
      refine V.iconst (pc := 71) (v := 0) hK (by decide) dX11_part_71 ?_
      refine V.sipush (pc := 72) (v := 999) hK (by decide) dX11_part_72 ?_
      obtain ⟨z3, hz3, h⟩ := v_bdS h
      refine V.cS (pc := 75) hK (c_X11_within E hL N _ _ _ _ hz3) Y_X11_within cs_RX11_93 dX11_part_75 (by decide) rfl (Nat.le_of_ble_eq_true rfl) ?_
      refine V.if_eq (pc := 78) (tgt := 85) hK dX11_part_78 (by decide) (fun c => ?_) (fun c => ?_)
      · rw [if_pos c] at h
        refine V.pick [0, 1, 2, 3, 4, 5, 6, 7, 8] (l := [(0, _), (1, _), (2, _), (3, _), (4, _), (5, _), (6, _), (7, _), (8, _)]) rfl ?_
        exact w_X11_part_L85 hL hO N _ _ _ _ _ _ _ _ _ h
      · rw [if_neg c] at h
        refine V.iconst (pc := 81) (v := 1) hK (by decide) dX11_part_81 ?_
        refine V.goto (pc := 82) (tgt := 86) hK dX11_part_82 (by decide) ?_
        refine V.pick [0, 1, 2, 3, 4, 5, 6, 7, 8] (l := [(0, _), (1, _), (2, _), (3, _), (4, _), (5, _), (6, _), (7, _), (8, _)]) rfl ?_
        exact w_X11_part_L86 hL hO N _ _ _ _ _ _ _ _ _ _ h
set_option maxHeartbeats 4000000 in
set_option maxRecDepth 100000 in
theorem w_X11_part_L42 {E : v_E} {X : v_X} {sh : v_S} {P : v_P} {out : Int32 × v_M} (hL : v_Lay sh P) (hO : v_O E X cX11_part RX11 10 2 (some .int) "part" (v_Q1 (some (.int out.1)) sh P out.2)) (N : Nat) (x1 : Int32) (x2 : Int32) (x3 : Int32) (x4 : Int32) (x5 : Int32) (x6 : Int32) (x7 : Int32) (M : v_M) (h : f_X11_part_L42 N x1 x2 x3 x4 x5 x6 x7 M = some out) : V E X (0, 0) 42 [(0, v_rf E 0), (1, .int x1), (2, .int x2), (3, .int x3), (4, .int x4), (5, .int x5), (6, .int x6), (7, .int x7)] [] sh P M := by
  have hK := hO.1
  unfold f_X11_part_L42 at h
  refine V.iconst (pc := 42) (v := 0) hK (by decide) dX11_part_42 ?_
  refine V.pick [0, 1, 2, 3, 4, 5, 6, 7] (l := [(0, _), (1, _), (2, _), (3, _), (4, _), (5, _), (6, _), (7, _)]) rfl ?_
  exact w_X11_part_L43 hL hO N _ _ _ _ _ _ _ _ _ h
set_option maxHeartbeats 4000000 in
set_option maxRecDepth 100000 in
theorem c_X11_part (E : v_E) {sh : v_S} {P : v_P} (hL : v_Lay sh P) (N : Nat) (x1 : Int32) (x2 : Int32) (x3 : Int32) (x4 : Int32) (x5 : Int32) (x6 : Int32) (x7 : Int32) (M : v_M) {out : Int32 × v_M} (h : f_X11_part N x1 x2 x3 x4 x5 x6 x7 M = some out) : v_Ct E 2 yX11_part cX11_part 10 (some .int) 0 0 [v_rf E 0, .int x1, .int x2, .int x3, .int x4, .int x5, .int x6, .int x7] sh P M (v_Q1 (some (.int out.1)) sh P out.2) := by
  refine v_Ct.of (by decide +kernel) (Nat.le_of_ble_eq_true rfl) (fun X hO => ?_)
  have hK : v_K E X cX11_part RX11 10 2 := hO.1
  have hO : v_O E X cX11_part RX11 10 2 (some .int) "part" (v_Q1 (some (.int out.1)) sh P out.2) := hO
  show V E X (0, 0) 0 [(0, v_rf E 0), (1, .int x1), (2, .int x2), (3, .int x3), (4, .int x4), (5, .int x5), (6, .int x6), (7, .int x7)] [] sh P M
  unfold f_X11_part at h
  refine V.iload_n (pc := 0) (i := 3) hK rfl dX11_part_0 ?_
  refine V.iconst (pc := 1) (v := 0) hK (by decide) dX11_part_1 ?_
  refine V.bipush (pc := 2) (v := 99) hK (by decide) dX11_part_2 ?_
  obtain ⟨z1, hz1, h⟩ := v_bdS h
  refine V.cS (pc := 4) hK (c_X11_within E hL N _ _ _ _ hz1) Y_X11_within cs_RX11_93 dX11_part_4 (by decide) rfl (Nat.le_of_ble_eq_true rfl) ?_
  refine V.if_eq (pc := 7) (tgt := 42) hK dX11_part_7 (by decide) (fun c => ?_) (fun c => ?_)
  · rw [if_pos c] at h
    refine V.pick [0, 1, 2, 3, 4, 5, 6, 7] (l := [(0, _), (1, _), (2, _), (3, _), (4, _), (5, _), (6, _), (7, _)]) rfl ?_
    exact w_X11_part_L42 hL hO N _ _ _ _ _ _ _ _ h
  · rw [if_neg c] at h
    refine V.iload (pc := 10) (i := 4) hK rfl dX11_part_10 ?_
    refine V.bipush (pc := 12) (v := 10) hK (by decide) dX11_part_12 ?_
    obtain ⟨hb, h⟩ := v_ckS h
    refine V.idiv (pc := 14) hK (v_nzS hb) dX11_part_14 ?_
    refine V.iconst (pc := 15) (v := 1) hK (by decide) dX11_part_15 ?_
    refine V.bipush (pc := 16) (v := 9) hK (by decide) dX11_part_16 ?_
    obtain ⟨z2, hz2, h⟩ := v_bdS h
    refine V.cS (pc := 18) hK (c_X11_within E hL N _ _ _ _ hz2) Y_X11_within cs_RX11_93 dX11_part_18 (by decide) rfl (Nat.le_of_ble_eq_true rfl) ?_
    refine V.if_eq (pc := 21) (tgt := 42) hK dX11_part_21 (by decide) (fun c => ?_) (fun c => ?_)
    · rw [if_pos c] at h
      refine V.pick [0, 1, 2, 3, 4, 5, 6, 7] (l := [(0, _), (1, _), (2, _), (3, _), (4, _), (5, _), (6, _), (7, _)]) rfl ?_
      exact w_X11_part_L42 hL hO N _ _ _ _ _ _ _ _ h
    · rw [if_neg c] at h
      refine V.iload (pc := 24) (i := 4) hK rfl dX11_part_24 ?_
      refine V.bipush (pc := 26) (v := 10) hK (by decide) dX11_part_26 ?_
      obtain ⟨hb, h⟩ := v_ckS h
      refine V.irem (pc := 28) hK (v_nzS hb) dX11_part_28 ?_
      refine V.iconst (pc := 29) (v := 1) hK (by decide) dX11_part_29 ?_
      refine V.bipush (pc := 30) (v := 9) hK (by decide) dX11_part_30 ?_
      obtain ⟨z3, hz3, h⟩ := v_bdS h
      refine V.cS (pc := 32) hK (c_X11_within E hL N _ _ _ _ hz3) Y_X11_within cs_RX11_93 dX11_part_32 (by decide) rfl (Nat.le_of_ble_eq_true rfl) ?_
      refine V.if_eq (pc := 35) (tgt := 42) hK dX11_part_35 (by decide) (fun c => ?_) (fun c => ?_)
      · rw [if_pos c] at h
        refine V.pick [0, 1, 2, 3, 4, 5, 6, 7] (l := [(0, _), (1, _), (2, _), (3, _), (4, _), (5, _), (6, _), (7, _)]) rfl ?_
        exact w_X11_part_L42 hL hO N _ _ _ _ _ _ _ _ h
      · rw [if_neg c] at h
        refine V.iconst (pc := 38) (v := 1) hK (by decide) dX11_part_38 ?_
        refine V.goto (pc := 39) (tgt := 43) hK dX11_part_39 (by decide) ?_
        refine V.pick [0, 1, 2, 3, 4, 5, 6, 7] (l := [(0, _), (1, _), (2, _), (3, _), (4, _), (5, _), (6, _), (7, _)]) rfl ?_
        exact w_X11_part_L43 hL hO N _ _ _ _ _ _ _ _ _ h
set_option maxHeartbeats 4000000 in
set_option maxRecDepth 100000 in
theorem w_X11_turn_L46 {E : v_E} {X : v_X} {sh : v_S} {P : v_P} {out : Int32 × v_M} (hL : v_Lay sh P) (hO : v_O E X cX11_turn RX11 5 3 (some .int) "turn" (v_Q1 (some (.int out.1)) sh P out.2)) (N : Nat) (x1 : Int32) (x2 : Int32) (x3 : Int32) (x4 : Int32) (M : v_M) (h : f_X11_turn_L46 N x1 x2 x3 x4 M = some out) : V E X (0, 0) 46 [(0, v_rf E 0), (1, .int x1), (2, .int x2), (3, .int x3), (4, .int x4)] [] sh P M := by
  have hK := hO.1
  unfold f_X11_turn_L46 at h
  refine V.iload_n (pc := 46) (i := 3) hK rfl dX11_turn_46 ?_
  refine V.iconst (pc := 47) (v := 1) hK (by decide) dX11_turn_47 ?_
  refine V.icmp_ne (pc := 48) (tgt := 81) hK dX11_turn_48 (by decide) (fun c => ?_) (fun c => ?_)
  · rw [if_neg c] at h
    refine V.sipush (pc := 81) (v := -1000) hK (by decide) dX11_turn_81 ?_
    exact V.iret (pc := 84) hO dX11_turn_84 (v_finI h)
  · rw [if_pos c] at h
    refine V.iload (pc := 51) (i := 4) hK rfl dX11_turn_51 ?_
    refine V.bipush (pc := 53) (v := -99) hK (by decide) dX11_turn_53 ?_
    refine V.bipush (pc := 55) (v := 99) hK (by decide) dX11_turn_55 ?_
    obtain ⟨z1, hz1, h⟩ := v_bdS h
    refine V.cS (pc := 57) hK (c_X11_within E hL N _ _ _ _ hz1) Y_X11_within cs_RX11_93 dX11_turn_57 (by decide) rfl (Nat.le_of_ble_eq_true rfl) ?_
    refine V.if_eq (pc := 60) (tgt := 81) hK dX11_turn_60 (by decide) (fun c => ?_) (fun c => ?_)
    · rw [if_pos c] at h
      refine V.sipush (pc := 81) (v := -1000) hK (by decide) dX11_turn_81 ?_
      exact V.iret (pc := 84) hO dX11_turn_84 (v_finI h)
    · rw [if_neg c] at h
      refine V.aload_n (pc := 63) (i := 0) hK rfl ⟨_, rfl⟩ dX11_turn_63 ?_
      refine V.getR (pc := 64) hK fl_RX11_26 rfl (hL.1 0 _ ls_0) (hL.2 0 3 11 rfl) dX11_turn_64 ?_
      refine V.getR (pc := 67) hK fl_RX11_122 rfl (hL.1 11 _ ls_11) (hL.2 11 2 13 rfl) dX11_turn_67 ?_
      refine V.iload_n (pc := 70) (i := 1) hK rfl dX11_turn_70 ?_
      refine V.iload_n (pc := 71) (i := 2) hK rfl dX11_turn_71 ?_
      obtain ⟨z2, hz2, h⟩ := v_bdS h
      refine V.cS (pc := 72) hK (c_X4_spot E hL N _ _ _ hz2) Y_X4_spot cs_RX11_114 dX11_turn_72 (by decide) rfl (Nat.le_of_ble_eq_true rfl) ?_
      refine V.iload (pc := 75) (i := 4) hK rfl dX11_turn_75 ?_
      obtain ⟨z3, hz3, h⟩ := v_bdS h
      refine V.cS (pc := 77) hK (c_X11_swap E hL N _ _ (hL.1 13 _ ls_13) _ _ _ hz3) Y_X11_swap cs_RX11_118 dX11_turn_77 (by decide) rfl (Nat.le_of_ble_eq_true rfl) ?_
      exact V.iret (pc := 80) hO dX11_turn_80 (v_finI h)
set_option maxHeartbeats 4000000 in
set_option maxRecDepth 100000 in
theorem c_X11_turn (E : v_E) {sh : v_S} {P : v_P} (hL : v_Lay sh P) (N : Nat) (x1 : Int32) (x2 : Int32) (x3 : Int32) (x4 : Int32) (M : v_M) {out : Int32 × v_M} (h : f_X11_turn N x1 x2 x3 x4 M = some out) : v_Ct E 3 yX11_turn cX11_turn 5 (some .int) 0 0 [v_rf E 0, .int x1, .int x2, .int x3, .int x4] sh P M (v_Q1 (some (.int out.1)) sh P out.2) := by
  refine v_Ct.of (by decide +kernel) (Nat.le_of_ble_eq_true rfl) (fun X hO => ?_)
  have hK : v_K E X cX11_turn RX11 5 3 := hO.1
  have hO : v_O E X cX11_turn RX11 5 3 (some .int) "turn" (v_Q1 (some (.int out.1)) sh P out.2) := hO
  show V E X (0, 0) 0 [(0, v_rf E 0), (1, .int x1), (2, .int x2), (3, .int x3), (4, .int x4)] [] sh P M
  unfold f_X11_turn at h
  refine V.aload_n (pc := 0) (i := 0) hK rfl ⟨_, rfl⟩ dX11_turn_0 ?_
  refine V.iload_n (pc := 1) (i := 1) hK rfl dX11_turn_1 ?_
  refine V.iload_n (pc := 2) (i := 2) hK rfl dX11_turn_2 ?_
  obtain ⟨z1, hz1, h⟩ := v_bdS h
  refine V.cV (pc := 3) (ci := 11) hK (c_X11_hasPartOf E hL N _ _ _ hz1) Y_X11_hasPartOf cv_RX11_108 (by decide) rfl (hL.1 0 _ ls_0) dX11_turn_3 (by decide) rfl (Nat.le_of_ble_eq_true rfl) ?_
  refine V.if_ne (pc := 6) (tgt := 13) hK dX11_turn_6 (by decide) (fun c => ?_) (fun c => ?_)
  · rw [if_neg c] at h
    refine V.iload_n (pc := 13) (i := 3) hK rfl dX11_turn_13 ?_
    refine V.if_ne (pc := 14) (tgt := 46) hK dX11_turn_14 (by decide) (fun c => ?_) (fun c => ?_)
    · rw [if_neg c] at h
      refine V.pick [0, 1, 2, 3, 4] (l := [(0, _), (1, _), (2, _), (3, _), (4, _)]) rfl ?_
      exact w_X11_turn_L46 hL hO N _ _ _ _ _ h
    · rw [if_pos c] at h
      refine V.iload (pc := 17) (i := 4) hK rfl dX11_turn_17 ?_
      refine V.iconst (pc := 19) (v := 0) hK (by decide) dX11_turn_19 ?_
      refine V.bipush (pc := 20) (v := 99) hK (by decide) dX11_turn_20 ?_
      obtain ⟨z2, hz2, h⟩ := v_bdS h
      refine V.cS (pc := 22) hK (c_X11_within E hL N _ _ _ _ hz2) Y_X11_within cs_RX11_93 dX11_turn_22 (by decide) rfl (Nat.le_of_ble_eq_true rfl) ?_
      refine V.if_eq (pc := 25) (tgt := 46) hK dX11_turn_25 (by decide) (fun c => ?_) (fun c => ?_)
      · rw [if_pos c] at h
        refine V.pick [0, 1, 2, 3, 4] (l := [(0, _), (1, _), (2, _), (3, _), (4, _)]) rfl ?_
        exact w_X11_turn_L46 hL hO N _ _ _ _ _ h
      · rw [if_neg c] at h
        refine V.aload_n (pc := 28) (i := 0) hK rfl ⟨_, rfl⟩ dX11_turn_28 ?_
        refine V.getR (pc := 29) hK fl_RX11_26 rfl (hL.1 0 _ ls_0) (hL.2 0 3 11 rfl) dX11_turn_29 ?_
        refine V.getR (pc := 32) hK fl_RX11_111 rfl (hL.1 11 _ ls_11) (hL.2 11 1 12 rfl) dX11_turn_32 ?_
        refine V.iload_n (pc := 35) (i := 1) hK rfl dX11_turn_35 ?_
        refine V.iload_n (pc := 36) (i := 2) hK rfl dX11_turn_36 ?_
        obtain ⟨z3, hz3, h⟩ := v_bdS h
        refine V.cS (pc := 37) hK (c_X4_spot E hL N _ _ _ hz3) Y_X4_spot cs_RX11_114 dX11_turn_37 (by decide) rfl (Nat.le_of_ble_eq_true rfl) ?_
        refine V.iload (pc := 40) (i := 4) hK rfl dX11_turn_40 ?_
        obtain ⟨z4, hz4, h⟩ := v_bdS h
        refine V.cS (pc := 42) hK (c_X11_swap E hL N _ _ (hL.1 12 _ ls_12) _ _ _ hz4) Y_X11_swap cs_RX11_118 dX11_turn_42 (by decide) rfl (Nat.le_of_ble_eq_true rfl) ?_
        exact V.iret (pc := 45) hO dX11_turn_45 (v_finI h)
  · rw [if_pos c] at h
    refine V.sipush (pc := 9) (v := -1000) hK (by decide) dX11_turn_9 ?_
    exact V.iret (pc := 12) hO dX11_turn_12 (v_finI h)
set_option maxHeartbeats 4000000 in
set_option maxRecDepth 100000 in
theorem c_X11_anew (E : v_E) {sh : v_S} {P : v_P} (hL : v_Lay sh P) (N : Nat) (x1 : Int32) (x2 : Int32) (M : v_M) {out : Int32 × v_M} (h : f_X11_anew N x1 x2 M = some out) : v_Ct E 3 yX11_anew cX11_anew 3 (some .int) 0 0 [v_rf E 0, .int x1, .int x2] sh P M (v_Q1 (some (.int out.1)) sh P out.2) := by
  refine v_Ct.of (by decide +kernel) (Nat.le_of_ble_eq_true rfl) (fun X hO => ?_)
  have hK : v_K E X cX11_anew RX11 3 3 := hO.1
  have hO : v_O E X cX11_anew RX11 3 3 (some .int) "anew" (v_Q1 (some (.int out.1)) sh P out.2) := hO
  show V E X (0, 0) 0 [(0, v_rf E 0), (1, .int x1), (2, .int x2)] [] sh P M
  unfold f_X11_anew at h
  refine V.aload_n (pc := 0) (i := 0) hK rfl ⟨_, rfl⟩ dX11_anew_0 ?_
  refine V.iload_n (pc := 1) (i := 1) hK rfl dX11_anew_1 ?_
  refine V.iload_n (pc := 2) (i := 2) hK rfl dX11_anew_2 ?_
  obtain ⟨z1, hz1, h⟩ := v_bdS h
  refine V.cV (pc := 3) (ci := 11) hK (c_X11_hasPartOf E hL N _ _ _ hz1) Y_X11_hasPartOf cv_RX11_108 (by decide) rfl (hL.1 0 _ ls_0) dX11_anew_3 (by decide) rfl (Nat.le_of_ble_eq_true rfl) ?_
  refine V.if_eq (pc := 6) (tgt := 22) hK dX11_anew_6 (by decide) (fun c => ?_) (fun c => ?_)
  · rw [if_pos c] at h
    refine V.iconst (pc := 22) (v := -1) hK (by decide) dX11_anew_22 ?_
    exact V.iret (pc := 23) hO dX11_anew_23 (v_finI h)
  · rw [if_neg c] at h
    refine V.aload_n (pc := 9) (i := 0) hK rfl ⟨_, rfl⟩ dX11_anew_9 ?_
    refine V.getR (pc := 10) hK fl_RX11_19 rfl (hL.1 0 _ ls_0) (hL.2 0 2 1 rfl) dX11_anew_10 ?_
    refine V.getR (pc := 13) hK fl_RX11_125 rfl (hL.1 1 _ ls_1) (hL.2 1 1 2 rfl) dX11_anew_13 ?_
    refine V.iload_n (pc := 16) (i := 2) hK rfl dX11_anew_16 ?_
    obtain ⟨hb, h⟩ := v_ckS h
    refine V.iald (pc := 17) hK (hL.1 2 _ ls_2) (v_ibS hb) dX11_anew_17 ?_
    refine V.iconst (pc := 18) (v := 1) hK (by decide) dX11_anew_18 ?_
    refine V.icmp_eq (pc := 19) (tgt := 24) hK dX11_anew_19 (by decide) (fun c => ?_) (fun c => ?_)
    · rw [if_pos c] at h
      refine V.aload_n (pc := 24) (i := 0) hK rfl ⟨_, rfl⟩ dX11_anew_24 ?_
      refine V.getR (pc := 25) hK fl_RX11_26 rfl (hL.1 0 _ ls_0) (hL.2 0 3 11 rfl) dX11_anew_25 ?_
      refine V.getR (pc := 28) hK fl_RX11_128 rfl (hL.1 11 _ ls_11) (hL.2 11 3 14 rfl) dX11_anew_28 ?_
      refine V.iload_n (pc := 31) (i := 1) hK rfl dX11_anew_31 ?_
      refine V.iload_n (pc := 32) (i := 2) hK rfl dX11_anew_32 ?_
      obtain ⟨z2, hz2, h⟩ := v_bdS h
      refine V.cS (pc := 33) hK (c_X4_spot E hL N _ _ _ hz2) Y_X4_spot cs_RX11_114 dX11_anew_33 (by decide) rfl (Nat.le_of_ble_eq_true rfl) ?_
      refine V.iconst (pc := 36) (v := 0) hK (by decide) dX11_anew_36 ?_
      obtain ⟨z3, hz3, h⟩ := v_bdS h
      refine V.cS (pc := 37) hK (c_X11_swap E hL N _ _ (hL.1 14 _ ls_14) _ _ _ hz3) Y_X11_swap cs_RX11_118 dX11_anew_37 (by decide) rfl (Nat.le_of_ble_eq_true rfl) ?_
      exact V.iret (pc := 40) hO dX11_anew_40 (v_finI h)
    · rw [if_neg c] at h
      refine V.iconst (pc := 22) (v := -1) hK (by decide) dX11_anew_22 ?_
      exact V.iret (pc := 23) hO dX11_anew_23 (v_finI h)
set_option maxHeartbeats 4000000 in
set_option maxRecDepth 100000 in
theorem c_X11_release (E : v_E) {sh : v_S} {P : v_P} (hL : v_Lay sh P) (N : Nat) (x1 : Int32) (M : v_M) {out : Int32 × v_M} (h : f_X11_release N x1 M = some out) : v_Ct E 3 yX11_release cX11_release 2 (some .boolean) 0 0 [v_rf E 0, .int x1] sh P M (v_Q1 (some (.int out.1)) sh P out.2) := by
  refine v_Ct.of (by decide +kernel) (Nat.le_of_ble_eq_true rfl) (fun X hO => ?_)
  have hK : v_K E X cX11_release RX11 2 3 := hO.1
  have hO : v_O E X cX11_release RX11 2 3 (some .boolean) "release" (v_Q1 (some (.int out.1)) sh P out.2) := hO
  show V E X (0, 0) 0 [(0, v_rf E 0), (1, .int x1)] [] sh P M
  unfold f_X11_release at h
  refine V.aload_n (pc := 0) (i := 0) hK rfl ⟨_, rfl⟩ dX11_release_0 ?_
  refine V.iload_n (pc := 1) (i := 1) hK rfl dX11_release_1 ?_
  obtain ⟨z1, hz1, h⟩ := v_bdS h
  refine V.cV (pc := 2) (ci := 11) hK (c_X11_hasMachine E hL N _ _ hz1) Y_X11_hasMachine cv_RX11_150 (by decide) rfl (hL.1 0 _ ls_0) dX11_release_2 (by decide) rfl (Nat.le_of_ble_eq_true rfl) ?_
  refine V.if_ne (pc := 5) (tgt := 10) hK dX11_release_5 (by decide) (fun c => ?_) (fun c => ?_)
  · rw [if_neg c] at h
    refine V.aload_n (pc := 10) (i := 0) hK rfl ⟨_, rfl⟩ dX11_release_10 ?_
    refine V.getR (pc := 11) hK fl_RX11_26 rfl (hL.1 0 _ ls_0) (hL.2 0 3 11 rfl) dX11_release_11 ?_
    refine V.iload_n (pc := 14) (i := 1) hK rfl dX11_release_14 ?_
    obtain ⟨z2, hz2, h⟩ := v_bdS h
    refine V.cVv (pc := 15) (ci := 4) hK (c_X4_letGo E hL N _ (v_FlL hL 11 rfl) _ _ hz2) Y_X4_letGo cv_RX11_154 (by decide) rfl (hL.1 11 _ ls_11) dX11_release_15 (by decide) rfl (Nat.le_of_ble_eq_true rfl) ?_
    refine V.iconst (pc := 18) (v := 1) hK (by decide) dX11_release_18 ?_
    obtain ⟨hb, h⟩ := v_ckS h
    exact V.zret (pc := 19) hO (v_z01 hb) dX11_release_19 (v_finI h)
  · rw [if_pos c] at h
    refine V.iconst (pc := 8) (v := 0) hK (by decide) dX11_release_8 ?_
    obtain ⟨hb, h⟩ := v_ckS h
    exact V.zret (pc := 9) hO (v_z01 hb) dX11_release_9 (v_finI h)
set_option maxHeartbeats 4000000 in
set_option maxRecDepth 100000 in
theorem c_X11_state (E : v_E) {sh : v_S} {P : v_P} (hL : v_Lay sh P) (N : Nat) (x1 : Int32) (x2 : Int32) (x3 : Int32) (M : v_M) {out : Int32 × v_M} (h : f_X11_state N x1 x2 x3 M = some out) : v_Ct E 3 yX11_state cX11_state 5 (some .int) 0 0 [v_rf E 0, .int x1, .int x2, .int x3] sh P M (v_Q1 (some (.int out.1)) sh P out.2) := by
  refine v_Ct.of (by decide +kernel) (Nat.le_of_ble_eq_true rfl) (fun X hO => ?_)
  have hK : v_K E X cX11_state RX11 5 3 := hO.1
  have hO : v_O E X cX11_state RX11 5 3 (some .int) "state" (v_Q1 (some (.int out.1)) sh P out.2) := hO
  show V E X (0, 0) 0 [(0, v_rf E 0), (1, .int x1), (2, .int x2), (3, .int x3)] [] sh P M
  unfold f_X11_state at h
  refine V.aload_n (pc := 0) (i := 0) hK rfl ⟨_, rfl⟩ dX11_state_0 ?_
  refine V.iload_n (pc := 1) (i := 1) hK rfl dX11_state_1 ?_
  refine V.iload_n (pc := 2) (i := 2) hK rfl dX11_state_2 ?_
  obtain ⟨z1, hz1, h⟩ := v_bdS h
  refine V.cV (pc := 3) (ci := 11) hK (c_X11_hasPartOf E hL N _ _ _ hz1) Y_X11_hasPartOf cv_RX11_108 (by decide) rfl (hL.1 0 _ ls_0) dX11_state_3 (by decide) rfl (Nat.le_of_ble_eq_true rfl) ?_
  refine V.if_ne (pc := 6) (tgt := 13) hK dX11_state_6 (by decide) (fun c => ?_) (fun c => ?_)
  · rw [if_neg c] at h
    refine V.iload_n (pc := 13) (i := 1) hK rfl dX11_state_13 ?_
    refine V.iload_n (pc := 14) (i := 2) hK rfl dX11_state_14 ?_
    obtain ⟨z2, hz2, h⟩ := v_bdS h
    refine V.cS (pc := 15) hK (c_X4_spot E hL N _ _ _ hz2) Y_X4_spot cs_RX11_114 dX11_state_15 (by decide) rfl (Nat.le_of_ble_eq_true rfl) ?_
    refine V.topi (fun y3 ey3 => ?_)
    have h := v_lt ey3 h
    refine V.istore (pc := 18) (i := 4) (lv' := [(0, _), (1, _), (2, _), (3, _), (4, _)]) hK (by decide) rfl dX11_state_18 ?_
    refine V.iload_n (pc := 20) (i := 3) hK rfl dX11_state_20 ?_
    by_cases c0 : x3 = (0 : Int32)
    · rw [if_pos c0] at h
      refine V.tableIn (pc := 21) (off := 35) (tgt := 56) hK dX11_state_21 (by rw [c0]; decide) (by rw [c0]; decide) (by rw [c0]; decide) (by decide) ?_
      refine V.aload_n (pc := 56) (i := 0) hK rfl ⟨_, rfl⟩ dX11_state_56 ?_
      refine V.getR (pc := 57) hK fl_RX11_26 rfl (hL.1 0 _ ls_0) (hL.2 0 3 11 rfl) dX11_state_57 ?_
      refine V.getR (pc := 60) hK fl_RX11_158 rfl (hL.1 11 _ ls_11) (hL.2 11 4 15 rfl) dX11_state_60 ?_
      refine V.iload (pc := 63) (i := 4) hK rfl dX11_state_63 ?_
      obtain ⟨hb, h⟩ := v_ckS h
      refine V.iald (pc := 65) hK (hL.1 15 _ ls_15) (v_ibS hb) dX11_state_65 ?_
      exact V.iret (pc := 66) hO dX11_state_66 (v_finI h)
    · rw [if_neg c0] at h
      by_cases c1 : x3 = (1 : Int32)
      · rw [if_pos c1] at h
        refine V.tableIn (pc := 21) (off := 46) (tgt := 67) hK dX11_state_21 (by rw [c1]; decide) (by rw [c1]; decide) (by rw [c1]; decide) (by decide) ?_
        refine V.aload_n (pc := 67) (i := 0) hK rfl ⟨_, rfl⟩ dX11_state_67 ?_
        refine V.getR (pc := 68) hK fl_RX11_26 rfl (hL.1 0 _ ls_0) (hL.2 0 3 11 rfl) dX11_state_68 ?_
        refine V.getR (pc := 71) hK fl_RX11_111 rfl (hL.1 11 _ ls_11) (hL.2 11 1 12 rfl) dX11_state_71 ?_
        refine V.iload (pc := 74) (i := 4) hK rfl dX11_state_74 ?_
        obtain ⟨hb, h⟩ := v_ckS h
        refine V.iald (pc := 76) hK (hL.1 12 _ ls_12) (v_ibS hb) dX11_state_76 ?_
        exact V.iret (pc := 77) hO dX11_state_77 (v_finI h)
      · rw [if_neg c1] at h
        by_cases c2 : x3 = (2 : Int32)
        · rw [if_pos c2] at h
          refine V.tableIn (pc := 21) (off := 57) (tgt := 78) hK dX11_state_21 (by rw [c2]; decide) (by rw [c2]; decide) (by rw [c2]; decide) (by decide) ?_
          refine V.aload_n (pc := 78) (i := 0) hK rfl ⟨_, rfl⟩ dX11_state_78 ?_
          refine V.getR (pc := 79) hK fl_RX11_26 rfl (hL.1 0 _ ls_0) (hL.2 0 3 11 rfl) dX11_state_79 ?_
          refine V.getR (pc := 82) hK fl_RX11_122 rfl (hL.1 11 _ ls_11) (hL.2 11 2 13 rfl) dX11_state_82 ?_
          refine V.iload (pc := 85) (i := 4) hK rfl dX11_state_85 ?_
          obtain ⟨hb, h⟩ := v_ckS h
          refine V.iald (pc := 87) hK (hL.1 13 _ ls_13) (v_ibS hb) dX11_state_87 ?_
          exact V.iret (pc := 88) hO dX11_state_88 (v_finI h)
        · rw [if_neg c2] at h
          by_cases c3 : x3 = (3 : Int32)
          · rw [if_pos c3] at h
            refine V.tableIn (pc := 21) (off := 68) (tgt := 89) hK dX11_state_21 (by rw [c3]; decide) (by rw [c3]; decide) (by rw [c3]; decide) (by decide) ?_
            refine V.aload_n (pc := 89) (i := 0) hK rfl ⟨_, rfl⟩ dX11_state_89 ?_
            refine V.getR (pc := 90) hK fl_RX11_26 rfl (hL.1 0 _ ls_0) (hL.2 0 3 11 rfl) dX11_state_90 ?_
            refine V.getR (pc := 93) hK fl_RX11_128 rfl (hL.1 11 _ ls_11) (hL.2 11 3 14 rfl) dX11_state_93 ?_
            refine V.iload (pc := 96) (i := 4) hK rfl dX11_state_96 ?_
            obtain ⟨hb, h⟩ := v_ckS h
            refine V.iald (pc := 98) hK (hL.1 14 _ ls_14) (v_ibS hb) dX11_state_98 ?_
            exact V.iret (pc := 99) hO dX11_state_99 (v_finI h)
          · rw [if_neg c3] at h
            by_cases c4 : x3 = (4 : Int32)
            · rw [if_pos c4] at h
              refine V.tableIn (pc := 21) (off := 79) (tgt := 100) hK dX11_state_21 (by rw [c4]; decide) (by rw [c4]; decide) (by rw [c4]; decide) (by decide) ?_
              refine V.aload_n (pc := 100) (i := 0) hK rfl ⟨_, rfl⟩ dX11_state_100 ?_
              refine V.getR (pc := 101) hK fl_RX11_33 rfl (hL.1 0 _ ls_0) (hL.2 0 4 18 rfl) dX11_state_101 ?_
              refine V.aload_n (pc := 104) (i := 0) hK rfl ⟨_, rfl⟩ dX11_state_104 ?_
              refine V.getR (pc := 105) hK fl_RX11_19 rfl (hL.1 0 _ ls_0) (hL.2 0 2 1 rfl) dX11_state_105 ?_
              refine V.aload_n (pc := 108) (i := 0) hK rfl ⟨_, rfl⟩ dX11_state_108 ?_
              refine V.getR (pc := 109) hK fl_RX11_26 rfl (hL.1 0 _ ls_0) (hL.2 0 3 11 rfl) dX11_state_109 ?_
              refine V.iload_n (pc := 112) (i := 1) hK rfl dX11_state_112 ?_
              obtain ⟨z4, hz4, h⟩ := v_bdS h
              refine V.cVv (pc := 113) (ci := 2) hK (c_X2_load E hL N _ (v_FlL hL 11 rfl) _ _ hz4) Y_X2_load cv_RX11_131 (by decide) rfl (hL.1 18 _ ls_18) dX11_state_113 (by decide) rfl (Nat.le_of_ble_eq_true rfl) ?_
              refine V.aload_n (pc := 116) (i := 0) hK rfl ⟨_, rfl⟩ dX11_state_116 ?_
              refine V.getR (pc := 117) hK fl_RX11_33 rfl (hL.1 0 _ ls_0) (hL.2 0 4 18 rfl) dX11_state_117 ?_
              refine V.aload_n (pc := 120) (i := 0) hK rfl ⟨_, rfl⟩ dX11_state_120 ?_
              refine V.getR (pc := 121) hK fl_RX11_19 rfl (hL.1 0 _ ls_0) (hL.2 0 2 1 rfl) dX11_state_121 ?_
              refine V.iload_n (pc := 124) (i := 2) hK rfl dX11_state_124 ?_
              obtain ⟨z5, hz5, h⟩ := v_bdS h
              refine V.cV (pc := 125) (ci := 2) hK (c_X2_isOver E hL N _ _ hz5) Y_X2_isOver cv_RX11_159 (by decide) rfl (hL.1 18 _ ls_18) dX11_state_125 (by decide) rfl (Nat.le_of_ble_eq_true rfl) ?_
              obtain ⟨z6, hz6, h⟩ := v_bdS h
              refine V.cS (pc := 128) hK (c_X11_asNumber E hL N _ _ hz6) Y_X11_asNumber cs_RX11_163 dX11_state_128 (by decide) rfl (Nat.le_of_ble_eq_true rfl) ?_
              exact V.iret (pc := 131) hO dX11_state_131 (v_finI h)
            · rw [if_neg c4] at h
              refine V.tableOut (pc := 21) (tgt := 132) hK dX11_state_21 (v_tout (fun i i1 i2 => ?_)) (by decide) ?_
              · rcases (show i = 0 ∨ i = 1 ∨ i = 2 ∨ i = 3 ∨ i = 4 by omega) with rfl | rfl | rfl | rfl | rfl
                · exact v_tne (by decide) c0
                · exact v_tne (by decide) c1
                · exact v_tne (by decide) c2
                · exact v_tne (by decide) c3
                · exact v_tne (by decide) c4
              · refine V.sipush (pc := 132) (v := -1000) hK (by decide) dX11_state_132 ?_
                exact V.iret (pc := 135) hO dX11_state_135 (v_finI h)
  · rw [if_pos c] at h
    refine V.sipush (pc := 9) (v := -1000) hK (by decide) dX11_state_9 ?_
    exact V.iret (pc := 12) hO dX11_state_12 (v_finI h)
set_option maxHeartbeats 4000000 in
set_option maxRecDepth 100000 in
theorem c_X11_judged (E : v_E) {sh : v_S} {P : v_P} (hL : v_Lay sh P) (N : Nat) (x1 : Int32) (x2 : Int32) (x3 : Int32) (M : v_M) {out : Int32 × v_M} (h : f_X11_judged N x1 x2 x3 M = some out) : v_Ct E 4 yX11_judged cX11_judged 4 (some .int) 0 0 [v_rf E 0, .int x1, .int x2, .int x3] sh P M (v_Q1 (some (.int out.1)) sh P out.2) := by
  refine v_Ct.of (by decide +kernel) (Nat.le_of_ble_eq_true rfl) (fun X hO => ?_)
  have hK : v_K E X cX11_judged RX11 4 4 := hO.1
  have hO : v_O E X cX11_judged RX11 4 4 (some .int) "judged" (v_Q1 (some (.int out.1)) sh P out.2) := hO
  show V E X (0, 0) 0 [(0, v_rf E 0), (1, .int x1), (2, .int x2), (3, .int x3)] [] sh P M
  unfold f_X11_judged at h
  refine V.aload_n (pc := 0) (i := 0) hK rfl ⟨_, rfl⟩ dX11_judged_0 ?_
  refine V.iload_n (pc := 1) (i := 1) hK rfl dX11_judged_1 ?_
  obtain ⟨z1, hz1, h⟩ := v_bdS h
  refine V.cV (pc := 2) (ci := 11) hK (c_X11_hasMachine E hL N _ _ hz1) Y_X11_hasMachine cv_RX11_150 (by decide) rfl (hL.1 0 _ ls_0) dX11_judged_2 (by decide) rfl (Nat.le_of_ble_eq_true rfl) ?_
  refine V.if_eq (pc := 5) (tgt := 18) hK dX11_judged_5 (by decide) (fun c => ?_) (fun c => ?_)
  · rw [if_pos c] at h
    refine V.iconst (pc := 18) (v := -1) hK (by decide) dX11_judged_18 ?_
    exact V.iret (pc := 19) hO dX11_judged_19 (v_finI h)
  · rw [if_neg c] at h
    refine V.iload_n (pc := 8) (i := 3) hK rfl dX11_judged_8 ?_
    refine V.iconst (pc := 9) (v := 0) hK (by decide) dX11_judged_9 ?_
    refine V.bipush (pc := 10) (v := 15) hK (by decide) dX11_judged_10 ?_
    obtain ⟨z2, hz2, h⟩ := v_bdS h
    refine V.cS (pc := 12) hK (c_X11_within E hL N _ _ _ _ hz2) Y_X11_within cs_RX11_93 dX11_judged_12 (by decide) rfl (Nat.le_of_ble_eq_true rfl) ?_
    refine V.if_ne (pc := 15) (tgt := 20) hK dX11_judged_15 (by decide) (fun c => ?_) (fun c => ?_)
    · rw [if_neg c] at h
      refine V.aload_n (pc := 20) (i := 0) hK rfl ⟨_, rfl⟩ dX11_judged_20 ?_
      refine V.getR (pc := 21) hK fl_RX11_33 rfl (hL.1 0 _ ls_0) (hL.2 0 4 18 rfl) dX11_judged_21 ?_
      refine V.aload_n (pc := 24) (i := 0) hK rfl ⟨_, rfl⟩ dX11_judged_24 ?_
      refine V.getR (pc := 25) hK fl_RX11_19 rfl (hL.1 0 _ ls_0) (hL.2 0 2 1 rfl) dX11_judged_25 ?_
      refine V.aload_n (pc := 28) (i := 0) hK rfl ⟨_, rfl⟩ dX11_judged_28 ?_
      refine V.getR (pc := 29) hK fl_RX11_26 rfl (hL.1 0 _ ls_0) (hL.2 0 3 11 rfl) dX11_judged_29 ?_
      refine V.iload_n (pc := 32) (i := 1) hK rfl dX11_judged_32 ?_
      obtain ⟨z3, hz3, h⟩ := v_bdS h
      refine V.cVv (pc := 33) (ci := 2) hK (c_X2_load E hL N _ (v_FlL hL 11 rfl) _ _ hz3) Y_X2_load cv_RX11_131 (by decide) rfl (hL.1 18 _ ls_18) dX11_judged_33 (by decide) rfl (Nat.le_of_ble_eq_true rfl) ?_
      refine V.iload_n (pc := 36) (i := 2) hK rfl dX11_judged_36 ?_
      by_cases c0 : x2 = (0 : Int32)
      · rw [if_pos c0] at h
        refine V.tableIn (pc := 37) (off := 27) (tgt := 64) hK dX11_judged_37 (by rw [c0]; decide) (by rw [c0]; decide) (by rw [c0]; decide) (by decide) ?_
        refine V.aload_n (pc := 64) (i := 0) hK rfl ⟨_, rfl⟩ dX11_judged_64 ?_
        refine V.getR (pc := 65) hK fl_RX11_33 rfl (hL.1 0 _ ls_0) (hL.2 0 4 18 rfl) dX11_judged_65 ?_
        refine V.aload_n (pc := 68) (i := 0) hK rfl ⟨_, rfl⟩ dX11_judged_68 ?_
        refine V.getR (pc := 69) hK fl_RX11_19 rfl (hL.1 0 _ ls_0) (hL.2 0 2 1 rfl) dX11_judged_69 ?_
        obtain ⟨z4, hz4, h⟩ := v_bdS h
        refine V.cV (pc := 72) (ci := 2) hK (c_X2_isShut E hL N _ hz4) Y_X2_isShut cv_RX11_167 (by decide) rfl (hL.1 18 _ ls_18) dX11_judged_72 (by decide) rfl (Nat.le_of_ble_eq_true rfl) ?_
        obtain ⟨z5, hz5, h⟩ := v_bdS h
        refine V.cS (pc := 75) hK (c_X11_asNumber E hL N _ _ hz5) Y_X11_asNumber cs_RX11_163 dX11_judged_75 (by decide) rfl (Nat.le_of_ble_eq_true rfl) ?_
        exact V.iret (pc := 78) hO dX11_judged_78 (v_finI h)
      · rw [if_neg c0] at h
        by_cases c1 : x2 = (1 : Int32)
        · rw [if_pos c1] at h
          refine V.tableIn (pc := 37) (off := 42) (tgt := 79) hK dX11_judged_37 (by rw [c1]; decide) (by rw [c1]; decide) (by rw [c1]; decide) (by decide) ?_
          refine V.aload_n (pc := 79) (i := 0) hK rfl ⟨_, rfl⟩ dX11_judged_79 ?_
          refine V.getR (pc := 80) hK fl_RX11_33 rfl (hL.1 0 _ ls_0) (hL.2 0 4 18 rfl) dX11_judged_80 ?_
          refine V.aload_n (pc := 83) (i := 0) hK rfl ⟨_, rfl⟩ dX11_judged_83 ?_
          refine V.getR (pc := 84) hK fl_RX11_19 rfl (hL.1 0 _ ls_0) (hL.2 0 2 1 rfl) dX11_judged_84 ?_
          refine V.iload_n (pc := 87) (i := 3) hK rfl dX11_judged_87 ?_
          obtain ⟨z6, hz6, h⟩ := v_bdS h
          refine V.cV (pc := 88) (ci := 2) hK (c_X2_looksShut E hL N _ _ hz6) Y_X2_looksShut cv_RX11_171 (by decide) rfl (hL.1 18 _ ls_18) dX11_judged_88 (by decide) rfl (Nat.le_of_ble_eq_true rfl) ?_
          obtain ⟨z7, hz7, h⟩ := v_bdS h
          refine V.cS (pc := 91) hK (c_X11_asNumber E hL N _ _ hz7) Y_X11_asNumber cs_RX11_163 dX11_judged_91 (by decide) rfl (Nat.le_of_ble_eq_true rfl) ?_
          exact V.iret (pc := 94) hO dX11_judged_94 (v_finI h)
        · rw [if_neg c1] at h
          by_cases c2 : x2 = (2 : Int32)
          · rw [if_pos c2] at h
            refine V.tableIn (pc := 37) (off := 58) (tgt := 95) hK dX11_judged_37 (by rw [c2]; decide) (by rw [c2]; decide) (by rw [c2]; decide) (by decide) ?_
            refine V.aload_n (pc := 95) (i := 0) hK rfl ⟨_, rfl⟩ dX11_judged_95 ?_
            refine V.getR (pc := 96) hK fl_RX11_33 rfl (hL.1 0 _ ls_0) (hL.2 0 4 18 rfl) dX11_judged_96 ?_
            refine V.aload_n (pc := 99) (i := 0) hK rfl ⟨_, rfl⟩ dX11_judged_99 ?_
            refine V.getR (pc := 100) hK fl_RX11_19 rfl (hL.1 0 _ ls_0) (hL.2 0 2 1 rfl) dX11_judged_100 ?_
            refine V.iload_n (pc := 103) (i := 3) hK rfl dX11_judged_103 ?_
            obtain ⟨z8, hz8, h⟩ := v_bdS h
            refine V.cV (pc := 104) (ci := 2) hK (c_X2_isUnlike E hL N _ _ hz8) Y_X2_isUnlike cv_RX11_174 (by decide) rfl (hL.1 18 _ ls_18) dX11_judged_104 (by decide) rfl (Nat.le_of_ble_eq_true rfl) ?_
            obtain ⟨z9, hz9, h⟩ := v_bdS h
            refine V.cS (pc := 107) hK (c_X11_asNumber E hL N _ _ hz9) Y_X11_asNumber cs_RX11_163 dX11_judged_107 (by decide) rfl (Nat.le_of_ble_eq_true rfl) ?_
            exact V.iret (pc := 110) hO dX11_judged_110 (v_finI h)
          · rw [if_neg c2] at h
            refine V.tableOut (pc := 37) (tgt := 111) hK dX11_judged_37 (v_tout (fun i i1 i2 => ?_)) (by decide) ?_
            · rcases (show i = 0 ∨ i = 1 ∨ i = 2 by omega) with rfl | rfl | rfl
              · exact v_tne (by decide) c0
              · exact v_tne (by decide) c1
              · exact v_tne (by decide) c2
            · refine V.iconst (pc := 111) (v := -1) hK (by decide) dX11_judged_111 ?_
              exact V.iret (pc := 112) hO dX11_judged_112 (v_finI h)
    · rw [if_pos c] at h
      refine V.iconst (pc := 18) (v := -1) hK (by decide) dX11_judged_18 ?_
      exact V.iret (pc := 19) hO dX11_judged_19 (v_finI h)
