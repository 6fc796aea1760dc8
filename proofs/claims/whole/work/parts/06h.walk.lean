set_option maxHeartbeats 4000000 in
set_option maxRecDepth 100000 in
theorem w_X11_change_L26 {E : v_E} {X : v_X} {sh : v_S} {P : v_P} {out : Int32 × v_M} (hL : v_Lay sh P) (hO : v_O E X cX11_change RX11 7 2 (some .int) "change" (v_Q1 (some (.int out.1)) sh P out.2)) (N : Nat) (x1 : Int32) (x2 : Int32) (x3 : Int32) (x4 : Int32) (x5 : Int32) (t0 : Int32) (M : v_M) (h : f_X11_change_L26 N x1 x2 x3 x4 x5 t0 M = some out) : V E X (0, 0) 26 [(0, v_rf E 0), (1, .int x1), (2, .int x2), (3, .int x3), (4, .int x4), (5, .int x5)] [.int t0] sh P M := by
  have hK := hO.1
  unfold f_X11_change_L26 at h
  refine V.istore (pc := 26) (i := 6) (lv' := [(0, _), (1, _), (2, _), (3, _), (4, _), (5, _), (6, _)]) hK (by decide) rfl dX11_change_26 ?_
  refine V.aload_n (pc := 28) (i := 0) hK rfl ⟨_, rfl⟩ dX11_change_28 ?_
  refine V.iload_n (pc := 29) (i := 1) hK rfl dX11_change_29 ?_
  obtain ⟨z1, hz1, h⟩ := v_bdS h
  refine V.cV (pc := 30) (ci := 11) hK (c_X11_hasPart E hL N _ _ hz1) Y_X11_hasPart cv_RX11_185 (by decide) rfl (hL.1 0 _ ls_0) dX11_change_30 (by decide) rfl (Nat.le_of_ble_eq_true rfl) ?_
  refine V.if_eq (pc := 33) (tgt := 65) hK dX11_change_33 (by decide) (fun c => ?_) (fun c => ?_)
  · rw [if_pos c] at h
    refine V.iconst (pc := 65) (v := -1) hK (by decide) dX11_change_65 ?_
    exact V.iret (pc := 66) hO dX11_change_66 (v_finI h)
  · rw [if_neg c] at h
    refine V.iload (pc := 36) (i := 6) hK rfl dX11_change_36 ?_
    refine V.if_eq (pc := 38) (tgt := 65) hK dX11_change_38 (by decide) (fun c => ?_) (fun c => ?_)
    · rw [if_pos c] at h
      refine V.iconst (pc := 65) (v := -1) hK (by decide) dX11_change_65 ?_
      exact V.iret (pc := 66) hO dX11_change_66 (v_finI h)
    · rw [if_neg c] at h
      refine V.iload (pc := 41) (i := 4) hK rfl dX11_change_41 ?_
      refine V.iconst (pc := 43) (v := 0) hK (by decide) dX11_change_43 ?_
      refine V.sipush (pc := 44) (v := 999) hK (by decide) dX11_change_44 ?_
      obtain ⟨z2, hz2, h⟩ := v_bdS h
      refine V.cS (pc := 47) hK (c_X11_within E hL N _ _ _ _ hz2) Y_X11_within cs_RX11_93 dX11_change_47 (by decide) rfl (Nat.le_of_ble_eq_true rfl) ?_
      refine V.if_eq (pc := 50) (tgt := 65) hK dX11_change_50 (by decide) (fun c => ?_) (fun c => ?_)
      · rw [if_pos c] at h
        refine V.iconst (pc := 65) (v := -1) hK (by decide) dX11_change_65 ?_
        exact V.iret (pc := 66) hO dX11_change_66 (v_finI h)
      · rw [if_neg c] at h
        refine V.iload (pc := 53) (i := 5) hK rfl dX11_change_53 ?_
        refine V.iconst (pc := 55) (v := 0) hK (by decide) dX11_change_55 ?_
        refine V.sipush (pc := 56) (v := 999) hK (by decide) dX11_change_56 ?_
        obtain ⟨z3, hz3, h⟩ := v_bdS h
        refine V.cS (pc := 59) hK (c_X11_within E hL N _ _ _ _ hz3) Y_X11_within cs_RX11_93 dX11_change_59 (by decide) rfl (Nat.le_of_ble_eq_true rfl) ?_
        refine V.if_ne (pc := 62) (tgt := 67) hK dX11_change_62 (by decide) (fun c => ?_) (fun c => ?_)
        · rw [if_neg c] at h
          refine V.aload_n (pc := 67) (i := 0) hK rfl ⟨_, rfl⟩ dX11_change_67 ?_
          refine V.getR (pc := 68) hK fl_RX11_40 rfl (hL.1 0 _ ls_0) (hL.2 0 5 29 rfl) dX11_change_68 ?_
          refine V.iload_n (pc := 71) (i := 1) hK rfl dX11_change_71 ?_
          refine V.iload_n (pc := 72) (i := 2) hK rfl dX11_change_72 ?_
          refine V.iload_n (pc := 73) (i := 3) hK rfl dX11_change_73 ?_
          refine V.iload (pc := 74) (i := 4) hK rfl dX11_change_74 ?_
          refine V.iload (pc := 76) (i := 5) hK rfl dX11_change_76 ?_
          obtain ⟨z4, hz4, h⟩ := v_bdS h
          refine V.cV (pc := 78) (ci := 1) hK (c_X1_add E hL N _ _ _ _ _ _ hz4) Y_X1_add cv_RX11_188 (by decide) rfl (hL.1 29 _ ls_29) dX11_change_78 (by decide) rfl (Nat.le_of_ble_eq_true rfl) ?_
          exact V.iret (pc := 81) hO dX11_change_81 (v_finI h)
        · rw [if_pos c] at h
          refine V.iconst (pc := 65) (v := -1) hK (by decide) dX11_change_65 ?_
          exact V.iret (pc := 66) hO dX11_change_66 (v_finI h)
set_option maxHeartbeats 4000000 in
set_option maxRecDepth 100000 in
theorem w_X11_change_L25 {E : v_E} {X : v_X} {sh : v_S} {P : v_P} {out : Int32 × v_M} (hL : v_Lay sh P) (hO : v_O E X cX11_change RX11 7 2 (some .int) "change" (v_Q1 (some (.int out.1)) sh P out.2)) (N : Nat) (x1 : Int32) (x2 : Int32) (x3 : Int32) (x4 : Int32) (x5 : Int32) (M : v_M) (h : f_X11_change_L25 N x1 x2 x3 x4 x5 M = some out) : V E X (0, 0) 25 [(0, v_rf E 0), (1, .int x1), (2, .int x2), (3, .int x3), (4, .int x4), (5, .int x5)] [] sh P M := by
  have hK := hO.1
  unfold f_X11_change_L25 at h
  refine V.iconst (pc := 25) (v := 0) hK (by decide) dX11_change_25 ?_
  refine V.pick [0, 1, 2, 3, 4, 5] (l := [(0, _), (1, _), (2, _), (3, _), (4, _), (5, _)]) rfl ?_
  exact w_X11_change_L26 hL hO N _ _ _ _ _ _ _ h
set_option maxHeartbeats 4000000 in
set_option maxRecDepth 100000 in
theorem c_X11_change (E : v_E) {sh : v_S} {P : v_P} (hL : v_Lay sh P) (N : Nat) (x1 : Int32) (x2 : Int32) (x3 : Int32) (x4 : Int32) (x5 : Int32) (M : v_M) {out : Int32 × v_M} (h : f_X11_change N x1 x2 x3 x4 x5 M = some out) : v_Ct E 2 yX11_change cX11_change 7 (some .int) 0 0 [v_rf E 0, .int x1, .int x2, .int x3, .int x4, .int x5] sh P M (v_Q1 (some (.int out.1)) sh P out.2) := by
  refine v_Ct.of (by decide +kernel) (Nat.le_of_ble_eq_true rfl) (fun X hO => ?_)
  have hK : v_K E X cX11_change RX11 7 2 := hO.1
  have hO : v_O E X cX11_change RX11 7 2 (some .int) "change" (v_Q1 (some (.int out.1)) sh P out.2) := hO
  show V E X (0, 0) 0 [(0, v_rf E 0), (1, .int x1), (2, .int x2), (3, .int x3), (4, .int x4), (5, .int x5)] [] sh P M
  unfold f_X11_change at h
  refine V.iload_n (pc := 0) (i := 2) hK rfl dX11_change_0 ?_
  refine V.iconst (pc := 1) (v := 0) hK (by decide) dX11_change_1 ?_
  refine V.bipush (pc := 2) (v := 99) hK (by decide) dX11_change_2 ?_
  obtain ⟨z1, hz1, h⟩ := v_bdS h
  refine V.cS (pc := 4) hK (c_X11_within E hL N _ _ _ _ hz1) Y_X11_within cs_RX11_93 dX11_change_4 (by decide) rfl (Nat.le_of_ble_eq_true rfl) ?_
  refine V.if_eq (pc := 7) (tgt := 25) hK dX11_change_7 (by decide) (fun c => ?_) (fun c => ?_)
  · rw [if_pos c] at h
    refine V.pick [0, 1, 2, 3, 4, 5] (l := [(0, _), (1, _), (2, _), (3, _), (4, _), (5, _)]) rfl ?_
    exact w_X11_change_L25 hL hO N _ _ _ _ _ _ h
  · rw [if_neg c] at h
    refine V.iload_n (pc := 10) (i := 3) hK rfl dX11_change_10 ?_
    refine V.bipush (pc := 11) (v := -99) hK (by decide) dX11_change_11 ?_
    refine V.bipush (pc := 13) (v := 99) hK (by decide) dX11_change_13 ?_
    obtain ⟨z2, hz2, h⟩ := v_bdS h
    refine V.cS (pc := 15) hK (c_X11_within E hL N _ _ _ _ hz2) Y_X11_within cs_RX11_93 dX11_change_15 (by decide) rfl (Nat.le_of_ble_eq_true rfl) ?_
    refine V.if_eq (pc := 18) (tgt := 25) hK dX11_change_18 (by decide) (fun c => ?_) (fun c => ?_)
    · rw [if_pos c] at h
      refine V.pick [0, 1, 2, 3, 4, 5] (l := [(0, _), (1, _), (2, _), (3, _), (4, _), (5, _)]) rfl ?_
      exact w_X11_change_L25 hL hO N _ _ _ _ _ _ h
    · rw [if_neg c] at h
      refine V.iconst (pc := 21) (v := 1) hK (by decide) dX11_change_21 ?_
      refine V.goto (pc := 22) (tgt := 26) hK dX11_change_22 (by decide) ?_
      refine V.pick [0, 1, 2, 3, 4, 5] (l := [(0, _), (1, _), (2, _), (3, _), (4, _), (5, _)]) rfl ?_
      exact w_X11_change_L26 hL hO N _ _ _ _ _ _ _ h
set_option maxHeartbeats 4000000 in
set_option maxRecDepth 100000 in
theorem c_X11_canTry (E : v_E) {sh : v_S} {P : v_P} (hL : v_Lay sh P) (N : Nat) (x1 : Int32) (x2 : Int32) (x3 : Int32) (x4 : Int32) (x5 : Int32) (x6 : Int32) (M : v_M) {out : Int32 × v_M} (h : f_X11_canTry N x1 x2 x3 x4 x5 x6 M = some out) : v_Ct E 3 yX11_canTry cX11_canTry 7 (some .boolean) 0 0 [v_rf E 0, .int x1, .int x2, .int x3, .int x4, .int x5, .int x6] sh P M (v_Q1 (some (.int out.1)) sh P out.2) := by
  refine v_Ct.of (by decide +kernel) (Nat.le_of_ble_eq_true rfl) (fun X hO => ?_)
  have hK : v_K E X cX11_canTry RX11 7 3 := hO.1
  have hO : v_O E X cX11_canTry RX11 7 3 (some .boolean) "canTry" (v_Q1 (some (.int out.1)) sh P out.2) := hO
  show V E X (0, 0) 0 [(0, v_rf E 0), (1, .int x1), (2, .int x2), (3, .int x3), (4, .int x4), (5, .int x5), (6, .int x6)] [] sh P M
  unfold f_X11_canTry at h
  refine V.aload_n (pc := 0) (i := 0) hK rfl ⟨_, rfl⟩ dX11_canTry_0 ?_
  refine V.iload_n (pc := 1) (i := 1) hK rfl dX11_canTry_1 ?_
  refine V.iload_n (pc := 2) (i := 2) hK rfl dX11_canTry_2 ?_
  obtain ⟨z1, hz1, h⟩ := v_bdS h
  refine V.cV (pc := 3) (ci := 11) hK (c_X11_hasPartOf E hL N _ _ _ hz1) Y_X11_hasPartOf cv_RX11_108 (by decide) rfl (hL.1 0 _ ls_0) dX11_canTry_3 (by decide) rfl (Nat.le_of_ble_eq_true rfl) ?_
  refine V.if_eq (pc := 6) (tgt := 60) hK dX11_canTry_6 (by decide) (fun c => ?_) (fun c => ?_)
  · rw [if_pos c] at h
    refine V.iconst (pc := 60) (v := 0) hK (by decide) dX11_canTry_60 ?_
    obtain ⟨hb, h⟩ := v_ckS h
    exact V.zret (pc := 61) hO (v_z01 hb) dX11_canTry_61 (v_finI h)
  · rw [if_neg c] at h
    refine V.aload_n (pc := 9) (i := 0) hK rfl ⟨_, rfl⟩ dX11_canTry_9 ?_
    refine V.iload_n (pc := 10) (i := 3) hK rfl dX11_canTry_10 ?_
    obtain ⟨z2, hz2, h⟩ := v_bdS h
    refine V.cV (pc := 11) (ci := 11) hK (c_X11_hasPart E hL N _ _ hz2) Y_X11_hasPart cv_RX11_185 (by decide) rfl (hL.1 0 _ ls_0) dX11_canTry_11 (by decide) rfl (Nat.le_of_ble_eq_true rfl) ?_
    refine V.if_eq (pc := 14) (tgt := 60) hK dX11_canTry_14 (by decide) (fun c => ?_) (fun c => ?_)
    · rw [if_pos c] at h
      refine V.iconst (pc := 60) (v := 0) hK (by decide) dX11_canTry_60 ?_
      obtain ⟨hb, h⟩ := v_ckS h
      exact V.zret (pc := 61) hO (v_z01 hb) dX11_canTry_61 (v_finI h)
    · rw [if_neg c] at h
      refine V.iload_n (pc := 17) (i := 2) hK rfl dX11_canTry_17 ?_
      refine V.iload_n (pc := 18) (i := 3) hK rfl dX11_canTry_18 ?_
      refine V.icmp_eq (pc := 19) (tgt := 60) hK dX11_canTry_19 (by decide) (fun c => ?_) (fun c => ?_)
      · rw [if_pos c] at h
        refine V.iconst (pc := 60) (v := 0) hK (by decide) dX11_canTry_60 ?_
        obtain ⟨hb, h⟩ := v_ckS h
        exact V.zret (pc := 61) hO (v_z01 hb) dX11_canTry_61 (v_finI h)
      · rw [if_neg c] at h
        refine V.iload (pc := 22) (i := 4) hK rfl dX11_canTry_22 ?_
        refine V.iconst (pc := 24) (v := 0) hK (by decide) dX11_canTry_24 ?_
        refine V.bipush (pc := 25) (v := 15) hK (by decide) dX11_canTry_25 ?_
        obtain ⟨z3, hz3, h⟩ := v_bdS h
        refine V.cS (pc := 27) hK (c_X11_within E hL N _ _ _ _ hz3) Y_X11_within cs_RX11_93 dX11_canTry_27 (by decide) rfl (Nat.le_of_ble_eq_true rfl) ?_
        refine V.if_eq (pc := 30) (tgt := 60) hK dX11_canTry_30 (by decide) (fun c => ?_) (fun c => ?_)
        · rw [if_pos c] at h
          refine V.iconst (pc := 60) (v := 0) hK (by decide) dX11_canTry_60 ?_
          obtain ⟨hb, h⟩ := v_ckS h
          exact V.zret (pc := 61) hO (v_z01 hb) dX11_canTry_61 (v_finI h)
        · rw [if_neg c] at h
          refine V.iload (pc := 33) (i := 5) hK rfl dX11_canTry_33 ?_
          refine V.iconst (pc := 35) (v := 0) hK (by decide) dX11_canTry_35 ?_
          refine V.sipush (pc := 36) (v := 999) hK (by decide) dX11_canTry_36 ?_
          obtain ⟨z4, hz4, h⟩ := v_bdS h
          refine V.cS (pc := 39) hK (c_X11_within E hL N _ _ _ _ hz4) Y_X11_within cs_RX11_93 dX11_canTry_39 (by decide) rfl (Nat.le_of_ble_eq_true rfl) ?_
          refine V.if_eq (pc := 42) (tgt := 60) hK dX11_canTry_42 (by decide) (fun c => ?_) (fun c => ?_)
          · rw [if_pos c] at h
            refine V.iconst (pc := 60) (v := 0) hK (by decide) dX11_canTry_60 ?_
            obtain ⟨hb, h⟩ := v_ckS h
            exact V.zret (pc := 61) hO (v_z01 hb) dX11_canTry_61 (v_finI h)
          · rw [if_neg c] at h
            refine V.iload (pc := 45) (i := 6) hK rfl dX11_canTry_45 ?_
            refine V.iconst (pc := 47) (v := 0) hK (by decide) dX11_canTry_47 ?_
            refine V.bipush (pc := 48) (v := 15) hK (by decide) dX11_canTry_48 ?_
            obtain ⟨z5, hz5, h⟩ := v_bdS h
            refine V.cS (pc := 50) hK (c_X11_within E hL N _ _ _ _ hz5) Y_X11_within cs_RX11_93 dX11_canTry_50 (by decide) rfl (Nat.le_of_ble_eq_true rfl) ?_
            refine V.if_eq (pc := 53) (tgt := 60) hK dX11_canTry_53 (by decide) (fun c => ?_) (fun c => ?_)
            · rw [if_pos c] at h
              refine V.iconst (pc := 60) (v := 0) hK (by decide) dX11_canTry_60 ?_
              obtain ⟨hb, h⟩ := v_ckS h
              exact V.zret (pc := 61) hO (v_z01 hb) dX11_canTry_61 (v_finI h)
            · rw [if_neg c] at h
              refine V.iconst (pc := 56) (v := 1) hK (by decide) dX11_canTry_56 ?_
              refine V.goto (pc := 57) (tgt := 61) hK dX11_canTry_57 (by decide) ?_
              obtain ⟨hb, h⟩ := v_ckS h
              exact V.zret (pc := 61) hO (v_z01 hb) dX11_canTry_61 (v_finI h)
set_option maxHeartbeats 4000000 in
set_option maxRecDepth 100000 in
theorem w_X11_floor_L66 {E : v_E} {X : v_X} {sh : v_S} {P : v_P} {out : Int32 × v_M} (hL : v_Lay sh P) (hO : v_O E X cX11_floor RX11 11 1 (some .int) "floor" (v_Q1 (some (.int out.1)) sh P out.2)) (N : Nat) (x1 : Int32) (x2 : Int32) (x3 : Int32) (x4 : Int32) (x5 : Int32) (x6 : Int32) (x7 : Int32) (x8 : Int32) (t0 : Int32) (M : v_M) (h : f_X11_floor_L66 N x1 x2 x3 x4 x5 x6 x7 x8 t0 M = some out) : V E X (0, 0) 66 [(1, .int x1), (2, .int x2), (3, .int x3), (4, .int x4), (5, .int x5), (6, .int x6), (7, .int x7), (8, .int x8)] [.int t0] sh P M := by
  have hK := hO.1
  unfold f_X11_floor_L66 at h
  refine V.istore (pc := 66) (i := 9) (lv' := [(1, _), (2, _), (3, _), (4, _), (5, _), (6, _), (7, _), (8, _), (9, _)]) hK (by decide) rfl dX11_floor_66 ?_
  refine V.iload (pc := 68) (i := 8) hK rfl dX11_floor_68 ?_
  refine V.if_eq (pc := 70) (tgt := 99) hK dX11_floor_70 (by decide) (fun c => ?_) (fun c => ?_)
  · rw [if_pos c] at h
    refine V.iconst (pc := 99) (v := -1) hK (by decide) dX11_floor_99 ?_
    exact V.iret (pc := 100) hO dX11_floor_100 (v_finI h)
  · rw [if_neg c] at h
    refine V.iload (pc := 73) (i := 9) hK rfl dX11_floor_73 ?_
    refine V.if_eq (pc := 75) (tgt := 99) hK dX11_floor_75 (by decide) (fun c => ?_) (fun c => ?_)
    · rw [if_pos c] at h
      refine V.iconst (pc := 99) (v := -1) hK (by decide) dX11_floor_99 ?_
      exact V.iret (pc := 100) hO dX11_floor_100 (v_finI h)
    · rw [if_neg c] at h
      refine V.iload (pc := 78) (i := 6) hK rfl dX11_floor_78 ?_
      refine V.iconst (pc := 80) (v := 0) hK (by decide) dX11_floor_80 ?_
      refine V.bipush (pc := 81) (v := 40) hK (by decide) dX11_floor_81 ?_
      obtain ⟨z1, hz1, h⟩ := v_bdS h
      refine V.cS (pc := 83) hK (c_X11_within E hL N _ _ _ _ hz1) Y_X11_within cs_RX11_93 dX11_floor_83 (by decide) rfl (Nat.le_of_ble_eq_true rfl) ?_
      refine V.if_eq (pc := 86) (tgt := 99) hK dX11_floor_86 (by decide) (fun c => ?_) (fun c => ?_)
      · rw [if_pos c] at h
        refine V.iconst (pc := 99) (v := -1) hK (by decide) dX11_floor_99 ?_
        exact V.iret (pc := 100) hO dX11_floor_100 (v_finI h)
      · rw [if_neg c] at h
        refine V.iload (pc := 89) (i := 7) hK rfl dX11_floor_89 ?_
        refine V.iconst (pc := 91) (v := 0) hK (by decide) dX11_floor_91 ?_
        refine V.iconst (pc := 92) (v := 1) hK (by decide) dX11_floor_92 ?_
        obtain ⟨z2, hz2, h⟩ := v_bdS h
        refine V.cS (pc := 93) hK (c_X11_within E hL N _ _ _ _ hz2) Y_X11_within cs_RX11_93 dX11_floor_93 (by decide) rfl (Nat.le_of_ble_eq_true rfl) ?_
        refine V.if_ne (pc := 96) (tgt := 101) hK dX11_floor_96 (by decide) (fun c => ?_) (fun c => ?_)
        · rw [if_neg c] at h
          refine V.iload_n (pc := 101) (i := 2) hK rfl dX11_floor_101 ?_
          refine V.iload_n (pc := 102) (i := 1) hK rfl dX11_floor_102 ?_
          refine V.imul (pc := 103) hK dX11_floor_103 ?_
          refine V.bipush (pc := 104) (v := 10) hK (by decide) dX11_floor_104 ?_
          refine V.imul (pc := 106) hK dX11_floor_106 ?_
          refine V.iload_n (pc := 107) (i := 3) hK rfl dX11_floor_107 ?_
          refine V.bipush (pc := 108) (v := 50) hK (by decide) dX11_floor_108 ?_
          refine V.iload (pc := 110) (i := 4) hK rfl dX11_floor_110 ?_
          refine V.imul (pc := 112) hK dX11_floor_112 ?_
          refine V.iadd (pc := 113) hK dX11_floor_113 ?_
          refine V.bipush (pc := 114) (v := 20) hK (by decide) dX11_floor_114 ?_
          refine V.iload (pc := 116) (i := 5) hK rfl dX11_floor_116 ?_
          refine V.imul (pc := 118) hK dX11_floor_118 ?_
          refine V.isub (pc := 119) hK dX11_floor_119 ?_
          refine V.isub (pc := 120) hK dX11_floor_120 ?_
          refine V.topi (fun y3 ey3 => ?_)
          have h := v_lt ey3 h
          refine V.istore (pc := 121) (i := 10) (lv' := [(1, _), (2, _), (3, _), (4, _), (5, _), (6, _), (7, _), (8, _), (9, _), (10, _)]) hK (by decide) rfl dX11_floor_121 ?_
          refine V.iload (pc := 123) (i := 10) hK rfl dX11_floor_123 ?_
          refine V.if_gt (pc := 125) (tgt := 130) hK dX11_floor_125 (by decide) (fun c => ?_) (fun c => ?_)
          · rw [if_pos c] at h
            refine V.iload (pc := 130) (i := 7) hK rfl dX11_floor_130 ?_
            refine V.if_ne (pc := 132) (tgt := 139) hK dX11_floor_132 (by decide) (fun c => ?_) (fun c => ?_)
            · rw [if_neg c] at h
              refine V.iload (pc := 139) (i := 6) hK rfl dX11_floor_139 ?_
              refine V.iload (pc := 141) (i := 10) hK rfl dX11_floor_141 ?_
              refine V.bipush (pc := 143) (v := 99) hK (by decide) dX11_floor_143 ?_
              refine V.iadd (pc := 145) hK dX11_floor_145 ?_
              refine V.bipush (pc := 146) (v := 100) hK (by decide) dX11_floor_146 ?_
              obtain ⟨hb, h⟩ := v_ckS h
              refine V.idiv (pc := 148) hK (v_nzS hb) dX11_floor_148 ?_
              refine V.mmin (pc := 149) hK tw_722 tw_mmins tw_mi tw_mminc dX11_floor_149 (by decide) (Nat.le_of_ble_eq_true rfl) ?_
              exact V.iret (pc := 152) hO dX11_floor_152 (v_finI h)
            · rw [if_pos c] at h
              refine V.iconst (pc := 135) (v := 1) hK (by decide) dX11_floor_135 ?_
              refine V.goto (pc := 136) (tgt := 152) hK dX11_floor_136 (by decide) ?_
              exact V.iret (pc := 152) hO dX11_floor_152 (v_finI h)
          · rw [if_neg c] at h
            refine V.iconst (pc := 128) (v := 0) hK (by decide) dX11_floor_128 ?_
            exact V.iret (pc := 129) hO dX11_floor_129 (v_finI h)
        · rw [if_pos c] at h
          refine V.iconst (pc := 99) (v := -1) hK (by decide) dX11_floor_99 ?_
          exact V.iret (pc := 100) hO dX11_floor_100 (v_finI h)
set_option maxHeartbeats 4000000 in
set_option maxRecDepth 100000 in
theorem w_X11_floor_L65 {E : v_E} {X : v_X} {sh : v_S} {P : v_P} {out : Int32 × v_M} (hL : v_Lay sh P) (hO : v_O E X cX11_floor RX11 11 1 (some .int) "floor" (v_Q1 (some (.int out.1)) sh P out.2)) (N : Nat) (x1 : Int32) (x2 : Int32) (x3 : Int32) (x4 : Int32) (x5 : Int32) (x6 : Int32) (x7 : Int32) (x8 : Int32) (M : v_M) (h : f_X11_floor_L65 N x1 x2 x3 x4 x5 x6 x7 x8 M = some out) : V E X (0, 0) 65 [(1, .int x1), (2, .int x2), (3, .int x3), (4, .int x4), (5, .int x5), (6, .int x6), (7, .int x7), (8, .int x8)] [] sh P M := by
  have hK := hO.1
  unfold f_X11_floor_L65 at h
  refine V.iconst (pc := 65) (v := 0) hK (by decide) dX11_floor_65 ?_
  refine V.pick [1, 2, 3, 4, 5, 6, 7, 8] (l := [(1, _), (2, _), (3, _), (4, _), (5, _), (6, _), (7, _), (8, _)]) rfl ?_
  exact w_X11_floor_L66 hL hO N _ _ _ _ _ _ _ _ _ _ h
set_option maxHeartbeats 4000000 in
set_option maxRecDepth 100000 in
theorem w_X11_floor_L26 {E : v_E} {X : v_X} {sh : v_S} {P : v_P} {out : Int32 × v_M} (hL : v_Lay sh P) (hO : v_O E X cX11_floor RX11 11 1 (some .int) "floor" (v_Q1 (some (.int out.1)) sh P out.2)) (N : Nat) (x1 : Int32) (x2 : Int32) (x3 : Int32) (x4 : Int32) (x5 : Int32) (x6 : Int32) (x7 : Int32) (t0 : Int32) (M : v_M) (h : f_X11_floor_L26 N x1 x2 x3 x4 x5 x6 x7 t0 M = some out) : V E X (0, 0) 26 [(1, .int x1), (2, .int x2), (3, .int x3), (4, .int x4), (5, .int x5), (6, .int x6), (7, .int x7)] [.int t0] sh P M := by
  have hK := hO.1
  unfold f_X11_floor_L26 at h
  refine V.istore (pc := 26) (i := 8) (lv' := [(1, _), (2, _), (3, _), (4, _), (5, _), (6, _), (7, _), (8, _)]) hK (by decide) rfl dX11_floor_26 ?_
  refine V.iload_n (pc := 28) (i := 3) hK rfl dX11_floor_28 ?_
  refine V.iconst (pc := 29) (v := 0) hK (by decide) dX11_floor_29 ?_
  refine V.ldc (pc := 30) hK tw_721 dX11_floor_30 ?_
  obtain ⟨z1, hz1, h⟩ := v_bdS h
  refine V.cS (pc := 32) hK (c_X11_within E hL N _ _ _ _ hz1) Y_X11_within cs_RX11_93 dX11_floor_32 (by decide) rfl (Nat.le_of_ble_eq_true rfl) ?_
  refine V.if_eq (pc := 35) (tgt := 65) hK dX11_floor_35 (by decide) (fun c => ?_) (fun c => ?_)
  · rw [if_pos c] at h
    refine V.pick [1, 2, 3, 4, 5, 6, 7, 8] (l := [(1, _), (2, _), (3, _), (4, _), (5, _), (6, _), (7, _), (8, _)]) rfl ?_
    exact w_X11_floor_L65 hL hO N _ _ _ _ _ _ _ _ _ h
  · rw [if_neg c] at h
    refine V.iload (pc := 38) (i := 4) hK rfl dX11_floor_38 ?_
    refine V.iconst (pc := 40) (v := 0) hK (by decide) dX11_floor_40 ?_
    refine V.bipush (pc := 41) (v := 99) hK (by decide) dX11_floor_41 ?_
    obtain ⟨z2, hz2, h⟩ := v_bdS h
    refine V.cS (pc := 43) hK (c_X11_within E hL N _ _ _ _ hz2) Y_X11_within cs_RX11_93 dX11_floor_43 (by decide) rfl (Nat.le_of_ble_eq_true rfl) ?_
    refine V.if_eq (pc := 46) (tgt := 65) hK dX11_floor_46 (by decide) (fun c => ?_) (fun c => ?_)
    · rw [if_pos c] at h
      refine V.pick [1, 2, 3, 4, 5, 6, 7, 8] (l := [(1, _), (2, _), (3, _), (4, _), (5, _), (6, _), (7, _), (8, _)]) rfl ?_
      exact w_X11_floor_L65 hL hO N _ _ _ _ _ _ _ _ _ h
    · rw [if_neg c] at h
      refine V.iload (pc := 49) (i := 5) hK rfl dX11_floor_49 ?_
      refine V.iconst (pc := 51) (v := 0) hK (by decide) dX11_floor_51 ?_
      refine V.sipush (pc := 52) (v := 400) hK (by decide) dX11_floor_52 ?_
      obtain ⟨z3, hz3, h⟩ := v_bdS h
      refine V.cS (pc := 55) hK (c_X11_within E hL N _ _ _ _ hz3) Y_X11_within cs_RX11_93 dX11_floor_55 (by decide) rfl (Nat.le_of_ble_eq_true rfl) ?_
      refine V.if_eq (pc := 58) (tgt := 65) hK dX11_floor_58 (by decide) (fun c => ?_) (fun c => ?_)
      · rw [if_pos c] at h
        refine V.pick [1, 2, 3, 4, 5, 6, 7, 8] (l := [(1, _), (2, _), (3, _), (4, _), (5, _), (6, _), (7, _), (8, _)]) rfl ?_
        exact w_X11_floor_L65 hL hO N _ _ _ _ _ _ _ _ _ h
      · rw [if_neg c] at h
        refine V.iconst (pc := 61) (v := 1) hK (by decide) dX11_floor_61 ?_
        refine V.goto (pc := 62) (tgt := 66) hK dX11_floor_62 (by decide) ?_
        refine V.pick [1, 2, 3, 4, 5, 6, 7, 8] (l := [(1, _), (2, _), (3, _), (4, _), (5, _), (6, _), (7, _), (8, _)]) rfl ?_
        exact w_X11_floor_L66 hL hO N _ _ _ _ _ _ _ _ _ _ h
set_option maxHeartbeats 4000000 in
set_option maxRecDepth 100000 in
theorem w_X11_floor_L25 {E : v_E} {X : v_X} {sh : v_S} {P : v_P} {out : Int32 × v_M} (hL : v_Lay sh P) (hO : v_O E X cX11_floor RX11 11 1 (some .int) "floor" (v_Q1 (some (.int out.1)) sh P out.2)) (N : Nat) (x1 : Int32) (x2 : Int32) (x3 : Int32) (x4 : Int32) (x5 : Int32) (x6 : Int32) (x7 : Int32) (M : v_M) (h : f_X11_floor_L25 N x1 x2 x3 x4 x5 x6 x7 M = some out) : V E X (0, 0) 25 [(1, .int x1), (2, .int x2), (3, .int x3), (4, .int x4), (5, .int x5), (6, .int x6), (7, .int x7)] [] sh P M := by
  have hK := hO.1
  unfold f_X11_floor_L25 at h
  refine V.iconst (pc := 25) (v := 0) hK (by decide) dX11_floor_25 ?_
  refine V.pick [1, 2, 3, 4, 5, 6, 7] (l := [(1, _), (2, _), (3, _), (4, _), (5, _), (6, _), (7, _)]) rfl ?_
  exact w_X11_floor_L26 hL hO N _ _ _ _ _ _ _ _ _ h
set_option maxHeartbeats 4000000 in
set_option maxRecDepth 100000 in
theorem c_X11_floor (E : v_E) {sh : v_S} {P : v_P} (hL : v_Lay sh P) (N : Nat) (x1 : Int32) (x2 : Int32) (x3 : Int32) (x4 : Int32) (x5 : Int32) (x6 : Int32) (x7 : Int32) (M : v_M) {out : Int32 × v_M} (h : f_X11_floor N x1 x2 x3 x4 x5 x6 x7 M = some out) : v_Ct E 1 yX11_floor cX11_floor 11 (some .int) 0 0 [v_rf E 0, .int x1, .int x2, .int x3, .int x4, .int x5, .int x6, .int x7] sh P M (v_Q1 (some (.int out.1)) sh P out.2) := by
  refine v_Ct.of (by decide +kernel) (Nat.le_of_ble_eq_true rfl) (fun X hO => ?_)
  have hK : v_K E X cX11_floor RX11 11 1 := hO.1
  have hO : v_O E X cX11_floor RX11 11 1 (some .int) "floor" (v_Q1 (some (.int out.1)) sh P out.2) := hO
  show V E X (0, 0) 0 [(0, v_rf E 0), (1, .int x1), (2, .int x2), (3, .int x3), (4, .int x4), (5, .int x5), (6, .int x6), (7, .int x7)] [] sh P M
  unfold f_X11_floor at h
  refine V.iload_n (pc := 0) (i := 1) hK rfl dX11_floor_0 ?_
  refine V.iconst (pc := 1) (v := 0) hK (by decide) dX11_floor_1 ?_
  refine V.sipush (pc := 2) (v := 400) hK (by decide) dX11_floor_2 ?_
  obtain ⟨z1, hz1, h⟩ := v_bdS h
  refine V.cS (pc := 5) hK (c_X11_within E hL N _ _ _ _ hz1) Y_X11_within cs_RX11_93 dX11_floor_5 (by decide) rfl (Nat.le_of_ble_eq_true rfl) ?_
  refine V.if_eq (pc := 8) (tgt := 25) hK dX11_floor_8 (by decide) (fun c => ?_) (fun c => ?_)
  · rw [if_pos c] at h
    refine V.pick [1, 2, 3, 4, 5, 6, 7] (l := [(1, _), (2, _), (3, _), (4, _), (5, _), (6, _), (7, _)]) rfl ?_
    exact w_X11_floor_L25 hL hO N _ _ _ _ _ _ _ _ h
  · rw [if_neg c] at h
    refine V.iload_n (pc := 11) (i := 2) hK rfl dX11_floor_11 ?_
    refine V.iconst (pc := 12) (v := 1) hK (by decide) dX11_floor_12 ?_
    refine V.bipush (pc := 13) (v := 99) hK (by decide) dX11_floor_13 ?_
    obtain ⟨z2, hz2, h⟩ := v_bdS h
    refine V.cS (pc := 15) hK (c_X11_within E hL N _ _ _ _ hz2) Y_X11_within cs_RX11_93 dX11_floor_15 (by decide) rfl (Nat.le_of_ble_eq_true rfl) ?_
    refine V.if_eq (pc := 18) (tgt := 25) hK dX11_floor_18 (by decide) (fun c => ?_) (fun c => ?_)
    · rw [if_pos c] at h
      refine V.pick [1, 2, 3, 4, 5, 6, 7] (l := [(1, _), (2, _), (3, _), (4, _), (5, _), (6, _), (7, _)]) rfl ?_
      exact w_X11_floor_L25 hL hO N _ _ _ _ _ _ _ _ h
    · rw [if_neg c] at h
      refine V.iconst (pc := 21) (v := 1) hK (by decide) dX11_floor_21 ?_
      refine V.goto (pc := 22) (tgt := 26) hK dX11_floor_22 (by decide) ?_
      refine V.pick [1, 2, 3, 4, 5, 6, 7] (l := [(1, _), (2, _), (3, _), (4, _), (5, _), (6, _), (7, _)]) rfl ?_
      exact w_X11_floor_L26 hL hO N _ _ _ _ _ _ _ _ _ h
set_option maxHeartbeats 4000000 in
set_option maxRecDepth 100000 in
theorem c_X11_end (E : v_E) {sh : v_S} {P : v_P} (hL : v_Lay sh P) (N : Nat) (x1 : Int32) (M : v_M) {out : Int32 × v_M} (h : f_X11_end N x1 M = some out) : v_Ct E 1 yX11_end cX11_end 2 (some .int) 0 0 [v_rf E 0, .int x1] sh P M (v_Q1 (some (.int out.1)) sh P out.2) := by
  refine v_Ct.of (by decide +kernel) (Nat.le_of_ble_eq_true rfl) (fun X hO => ?_)
  have hK : v_K E X cX11_end RX11 2 1 := hO.1
  have hO : v_O E X cX11_end RX11 2 1 (some .int) "end" (v_Q1 (some (.int out.1)) sh P out.2) := hO
  show V E X (0, 0) 0 [(0, v_rf E 0), (1, .int x1)] [] sh P M
  unfold f_X11_end at h
  refine V.iload_n (pc := 0) (i := 1) hK rfl dX11_end_0 ?_
  refine V.iconst (pc := 1) (v := 0) hK (by decide) dX11_end_1 ?_
  refine V.aload_n (pc := 2) (i := 0) hK rfl ⟨_, rfl⟩ dX11_end_2 ?_
  refine V.getR (pc := 3) hK fl_RX11_47 rfl (hL.1 0 _ ls_0) (hL.2 0 6 35 rfl) dX11_end_3 ?_
  refine V.getR (pc := 6) hK fl_RX11_216 rfl (hL.1 35 _ ls_35) (hL.2 35 0 36 rfl) dX11_end_6 ?_
  refine V.getI (pc := 9) hK fl_RX11_220 rfl (hL.1 36 _ ls_36) dX11_end_9 ?_
  obtain ⟨z1, hz1, h⟩ := v_bdS h
  refine V.cS (pc := 12) hK (c_X11_within E hL N _ _ _ _ hz1) Y_X11_within cs_RX11_93 dX11_end_12 (by decide) rfl (Nat.le_of_ble_eq_true rfl) ?_
  refine V.if_ne (pc := 15) (tgt := 20) hK dX11_end_15 (by decide) (fun c => ?_) (fun c => ?_)
  · rw [if_neg c] at h
    refine V.aload_n (pc := 20) (i := 0) hK rfl ⟨_, rfl⟩ dX11_end_20 ?_
    refine V.getR (pc := 21) hK fl_RX11_47 rfl (hL.1 0 _ ls_0) (hL.2 0 6 35 rfl) dX11_end_21 ?_
    refine V.getR (pc := 24) hK fl_RX11_216 rfl (hL.1 35 _ ls_35) (hL.2 35 0 36 rfl) dX11_end_24 ?_
    refine V.iload_n (pc := 27) (i := 1) hK rfl dX11_end_27 ?_
    refine V.putI (pc := 28) hK fl_RX11_220 rfl rfl ⟨rfl, rfl⟩ (hL.1 36 _ ls_36) dX11_end_28 ?_
    refine V.nmM (fun M2 eM2 => ?_)
    have h := v_lt eM2 h
    refine V.iload_n (pc := 31) (i := 1) hK rfl dX11_end_31 ?_
    exact V.iret (pc := 32) hO dX11_end_32 (v_finI h)
  · rw [if_pos c] at h
    refine V.iconst (pc := 18) (v := -1) hK (by decide) dX11_end_18 ?_
    exact V.iret (pc := 19) hO dX11_end_19 (v_finI h)
set_option maxHeartbeats 4000000 in
set_option maxRecDepth 100000 in
theorem c_X11_takes (E : v_E) {sh : v_S} {P : v_P} (hL : v_Lay sh P) (N : Nat) (hPO : v_PO sh P) (x1 : Int32) (x2 : Int32) (x3 : Int32) (M : v_M) {out : Int32 × v_M} (h : f_X11_takes N P x1 x2 x3 M = some out) : v_Ct E 2 yX11_takes cX11_takes 5 (some .boolean) 0 0 [v_rf E 0, .int x1, .int x2, .int x3] sh P M (v_Q1 (some (.int out.1)) sh P out.2) := by
  refine v_Ct.of (by decide +kernel) (Nat.le_of_ble_eq_true rfl) (fun X hO => ?_)
  have hK : v_K E X cX11_takes RX11 5 2 := hO.1
  have hO : v_O E X cX11_takes RX11 5 2 (some .boolean) "takes" (v_Q1 (some (.int out.1)) sh P out.2) := hO
  show V E X (0, 0) 0 [(0, v_rf E 0), (1, .int x1), (2, .int x2), (3, .int x3)] [] sh P M
  unfold f_X11_takes at h
  refine V.aload_n (pc := 0) (i := 0) hK rfl ⟨_, rfl⟩ dX11_takes_0 ?_
  refine V.iload_n (pc := 1) (i := 1) hK rfl dX11_takes_1 ?_
  obtain ⟨z1, hz1, h⟩ := v_bdS h
  refine V.cV (pc := 2) (ci := 11) hK (c_X11_hasMachine E hL N _ _ hz1) Y_X11_hasMachine cv_RX11_150 (by decide) rfl (hL.1 0 _ ls_0) dX11_takes_2 (by decide) rfl (Nat.le_of_ble_eq_true rfl) ?_
  refine V.if_eq (pc := 5) (tgt := 22) hK dX11_takes_5 (by decide) (fun c => ?_) (fun c => ?_)
  · rw [if_pos c] at h
    refine V.iconst (pc := 22) (v := 0) hK (by decide) dX11_takes_22 ?_
    obtain ⟨hb, h⟩ := v_ckS h
    exact V.zret (pc := 23) hO (v_z01 hb) dX11_takes_23 (v_finI h)
  · rw [if_neg c] at h
    refine V.iload_n (pc := 8) (i := 2) hK rfl dX11_takes_8 ?_
    refine V.iconst (pc := 9) (v := 0) hK (by decide) dX11_takes_9 ?_
    refine V.aload_n (pc := 10) (i := 0) hK rfl ⟨_, rfl⟩ dX11_takes_10 ?_
    refine V.getI (pc := 11) hK fl_RX11_13 rfl (hL.1 0 _ ls_0) dX11_takes_11 ?_
    refine V.iconst (pc := 14) (v := 1) hK (by decide) dX11_takes_14 ?_
    refine V.isub (pc := 15) hK dX11_takes_15 ?_
    obtain ⟨z2, hz2, h⟩ := v_bdS h
    refine V.cS (pc := 16) hK (c_X11_within E hL N _ _ _ _ hz2) Y_X11_within cs_RX11_93 dX11_takes_16 (by decide) rfl (Nat.le_of_ble_eq_true rfl) ?_
    refine V.if_ne (pc := 19) (tgt := 24) hK dX11_takes_19 (by decide) (fun c => ?_) (fun c => ?_)
    · rw [if_neg c] at h
      refine V.aload_n (pc := 24) (i := 0) hK rfl ⟨_, rfl⟩ dX11_takes_24 ?_
      refine V.getR (pc := 25) hK fl_RX11_53 rfl (hL.1 0 _ ls_0) (hL.2 0 7 48 rfl) dX11_takes_25 ?_
      refine V.iload_n (pc := 28) (i := 2) hK rfl dX11_takes_28 ?_
      obtain ⟨hb, h⟩ := v_ckS h
      cases eqqd29 : (P 48 x2.toNatClampNeg) with
      | none =>
        have h := v_optN eqqd29 h
        refine V.aaldON (pc := 29) hK (hL.1 48 _ ls_48) (v_ibS hb) eqqd29 dX11_takes_29 ?_
        refine V.astoreN (pc := 30) (i := 4) (lv' := [(0, _), (1, _), (2, _), (3, _), (4, _)]) hK (by decide) rfl dX11_takes_30 ?_
        refine V.aloadN (pc := 32) (i := 4) hK rfl dX11_takes_32 ?_
        refine V.ifnullN (pc := 34) (tgt := 59) hK dX11_takes_34 (by decide) ?_
        refine V.iconst (pc := 59) (v := 0) hK (by decide) dX11_takes_59 ?_
        obtain ⟨hb, h⟩ := v_ckS h
        exact V.zret (pc := 60) hO (v_z01 hb) dX11_takes_60 (v_finI h)
      | some qd29 =>
        have h := v_optS eqqd29 h
        have hqd29 := hPO.1 _ _ eqqd29
        refine V.aaldOS (pc := 29) hK (hL.1 48 _ ls_48) (v_ibS hb) eqqd29 dX11_takes_29 ?_
        refine V.astore (pc := 30) (i := 4) (lv' := [(0, _), (1, _), (2, _), (3, _), (4, _)]) hK ⟨_, rfl⟩ (by decide) rfl dX11_takes_30 ?_
        refine V.aload (pc := 32) (i := 4) hK rfl ⟨_, rfl⟩ dX11_takes_32 ?_
        refine V.ifnullR (pc := 34) hK ⟨_, rfl⟩ dX11_takes_34 ?_
        refine V.aload (pc := 37) (i := 4) hK rfl ⟨_, rfl⟩ dX11_takes_37 ?_
        refine V.getI (pc := 39) hK fl_RX11_235 rfl (hqd29.1 0 _ rfl) dX11_takes_39 ?_
        refine V.iconst (pc := 42) (v := 1) hK (by decide) dX11_takes_42 ?_
        refine V.icmp_ne (pc := 43) (tgt := 59) hK dX11_takes_43 (by decide) (fun c => ?_) (fun c => ?_)
        · rw [if_neg c] at h
          refine V.iconst (pc := 59) (v := 0) hK (by decide) dX11_takes_59 ?_
          obtain ⟨hb, h⟩ := v_ckS h
          exact V.zret (pc := 60) hO (v_z01 hb) dX11_takes_60 (v_finI h)
        · rw [if_pos c] at h
          refine V.aload_n (pc := 46) (i := 0) hK rfl ⟨_, rfl⟩ dX11_takes_46 ?_
          refine V.getR (pc := 47) hK fl_RX11_26 rfl (hL.1 0 _ ls_0) (hL.2 0 3 11 rfl) dX11_takes_47 ?_
          refine V.iload_n (pc := 50) (i := 1) hK rfl dX11_takes_50 ?_
          refine V.iload_n (pc := 51) (i := 2) hK rfl dX11_takes_51 ?_
          obtain ⟨z3, hz3, h⟩ := v_bdS h
          refine V.cV (pc := 52) (ci := 4) hK (c_X4_hasTaken E hL N _ (v_FlL hL 11 rfl) _ _ _ hz3) Y_X4_hasTaken cv_RX11_240 (by decide) rfl (hL.1 11 _ ls_11) dX11_takes_52 (by decide) rfl (Nat.le_of_ble_eq_true rfl) ?_
          refine V.iload_n (pc := 55) (i := 3) hK rfl dX11_takes_55 ?_
          refine V.icmp_ne (pc := 56) (tgt := 61) hK dX11_takes_56 (by decide) (fun c => ?_) (fun c => ?_)
          · rw [if_neg c] at h
            refine V.aload_n (pc := 61) (i := 0) hK rfl ⟨_, rfl⟩ dX11_takes_61 ?_
            refine V.getR (pc := 62) hK fl_RX11_26 rfl (hL.1 0 _ ls_0) (hL.2 0 3 11 rfl) dX11_takes_62 ?_
            refine V.getR (pc := 65) hK fl_RX11_243 rfl (hL.1 11 _ ls_11) (hL.2 11 6 17 rfl) dX11_takes_65 ?_
            refine V.iload_n (pc := 68) (i := 1) hK rfl dX11_takes_68 ?_
            refine V.dup2 (pc := 69) hK rfl rfl dX11_takes_69 ?_
            obtain ⟨hb, h⟩ := v_ckS h
            refine V.iald (pc := 70) hK (hL.1 17 _ ls_17) (v_ibS hb) dX11_takes_70 ?_
            refine V.iconst (pc := 71) (v := 1) hK (by decide) dX11_takes_71 ?_
            refine V.iload_n (pc := 72) (i := 2) hK rfl dX11_takes_72 ?_
            refine V.ishl (pc := 73) hK dX11_takes_73 ?_
            refine V.ixor (pc := 74) hK dX11_takes_74 ?_
            obtain ⟨hb, h⟩ := v_ckS h
            refine V.iast (pc := 75) hK (hL.1 17 _ ls_17) (v_ibS hb) dX11_takes_75 ?_
            refine V.nmM (fun M4 eM4 => ?_)
            have h := v_lt eM4 h
            refine V.iconst (pc := 76) (v := 1) hK (by decide) dX11_takes_76 ?_
            obtain ⟨hb, h⟩ := v_ckS h
            exact V.zret (pc := 77) hO (v_z01 hb) dX11_takes_77 (v_finI h)
          · rw [if_pos c] at h
            refine V.iconst (pc := 59) (v := 0) hK (by decide) dX11_takes_59 ?_
            obtain ⟨hb, h⟩ := v_ckS h
            exact V.zret (pc := 60) hO (v_z01 hb) dX11_takes_60 (v_finI h)
    · rw [if_pos c] at h
      refine V.iconst (pc := 22) (v := 0) hK (by decide) dX11_takes_22 ?_
      obtain ⟨hb, h⟩ := v_ckS h
      exact V.zret (pc := 23) hO (v_z01 hb) dX11_takes_23 (v_finI h)
set_option maxHeartbeats 4000000 in
set_option maxRecDepth 100000 in
theorem c_X11_canBeDone (E : v_E) {sh : v_S} {P : v_P} (hL : v_Lay sh P) (N : Nat) (x1 : Int32) (x2 : Int32) (x3 : Int32) (M : v_M) {out : Int32 × v_M} (h : f_X11_canBeDone N x1 x2 x3 M = some out) : v_Ct E 2 yX11_canBeDone cX11_canBeDone 4 (some .boolean) 0 0 [v_rf E 0, .int x1, .int x2, .int x3] sh P M (v_Q1 (some (.int out.1)) sh P out.2) := by
  refine v_Ct.of (by decide +kernel) (Nat.le_of_ble_eq_true rfl) (fun X hO => ?_)
  have hK : v_K E X cX11_canBeDone RX11 4 2 := hO.1
  have hO : v_O E X cX11_canBeDone RX11 4 2 (some .boolean) "canBeDone" (v_Q1 (some (.int out.1)) sh P out.2) := hO
  show V E X (0, 0) 0 [(0, v_rf E 0), (1, .int x1), (2, .int x2), (3, .int x3)] [] sh P M
  unfold f_X11_canBeDone at h
  refine V.aload_n (pc := 0) (i := 0) hK rfl ⟨_, rfl⟩ dX11_canBeDone_0 ?_
  refine V.iload_n (pc := 1) (i := 1) hK rfl dX11_canBeDone_1 ?_
  obtain ⟨z1, hz1, h⟩ := v_bdS h
  refine V.cV (pc := 2) (ci := 11) hK (c_X11_hasMachine E hL N _ _ hz1) Y_X11_hasMachine cv_RX11_150 (by decide) rfl (hL.1 0 _ ls_0) dX11_canBeDone_2 (by decide) rfl (Nat.le_of_ble_eq_true rfl) ?_
  refine V.if_eq (pc := 5) (tgt := 34) hK dX11_canBeDone_5 (by decide) (fun c => ?_) (fun c => ?_)
  · rw [if_pos c] at h
    refine V.iconst (pc := 34) (v := 0) hK (by decide) dX11_canBeDone_34 ?_
    obtain ⟨hb, h⟩ := v_ckS h
    exact V.zret (pc := 35) hO (v_z01 hb) dX11_canBeDone_35 (v_finI h)
  · rw [if_neg c] at h
    refine V.iload_n (pc := 8) (i := 2) hK rfl dX11_canBeDone_8 ?_
    refine V.iconst (pc := 9) (v := 0) hK (by decide) dX11_canBeDone_9 ?_
    refine V.bipush (pc := 10) (v := 9) hK (by decide) dX11_canBeDone_10 ?_
    obtain ⟨z2, hz2, h⟩ := v_bdS h
    refine V.cS (pc := 12) hK (c_X11_within E hL N _ _ _ _ hz2) Y_X11_within cs_RX11_93 dX11_canBeDone_12 (by decide) rfl (Nat.le_of_ble_eq_true rfl) ?_
    refine V.if_eq (pc := 15) (tgt := 34) hK dX11_canBeDone_15 (by decide) (fun c => ?_) (fun c => ?_)
    · rw [if_pos c] at h
      refine V.iconst (pc := 34) (v := 0) hK (by decide) dX11_canBeDone_34 ?_
      obtain ⟨hb, h⟩ := v_ckS h
      exact V.zret (pc := 35) hO (v_z01 hb) dX11_canBeDone_35 (v_finI h)
    · rw [if_neg c] at h
      refine V.iload_n (pc := 18) (i := 3) hK rfl dX11_canBeDone_18 ?_
      refine V.iconst (pc := 19) (v := 0) hK (by decide) dX11_canBeDone_19 ?_
      refine V.aload_n (pc := 20) (i := 0) hK rfl ⟨_, rfl⟩ dX11_canBeDone_20 ?_
      refine V.getI (pc := 21) hK fl_RX11_7 rfl (hL.1 0 _ ls_0) dX11_canBeDone_21 ?_
      obtain ⟨z3, hz3, h⟩ := v_bdS h
      refine V.cS (pc := 24) hK (c_X11_within E hL N _ _ _ _ hz3) Y_X11_within cs_RX11_93 dX11_canBeDone_24 (by decide) rfl (Nat.le_of_ble_eq_true rfl) ?_
      refine V.if_eq (pc := 27) (tgt := 34) hK dX11_canBeDone_27 (by decide) (fun c => ?_) (fun c => ?_)
      · rw [if_pos c] at h
        refine V.iconst (pc := 34) (v := 0) hK (by decide) dX11_canBeDone_34 ?_
        obtain ⟨hb, h⟩ := v_ckS h
        exact V.zret (pc := 35) hO (v_z01 hb) dX11_canBeDone_35 (v_finI h)
      · rw [if_neg c] at h
        refine V.iconst (pc := 30) (v := 1) hK (by decide) dX11_canBeDone_30 ?_
        refine V.goto (pc := 31) (tgt := 35) hK dX11_canBeDone_31 (by decide) ?_
        obtain ⟨hb, h⟩ := v_ckS h
        exact V.zret (pc := 35) hO (v_z01 hb) dX11_canBeDone_35 (v_finI h)
set_option maxHeartbeats 4000000 in
set_option maxRecDepth 100000 in
theorem w_X11_paper_L18 {E : v_E} {X : v_X} {sh : v_S} {P : v_P} {out : Int32 × v_M} (hL : v_Lay sh P) (hO : v_O E X cX11_paper RX11 5 2 (some .int) "paper" (v_Q1 (some (.int out.1)) sh P out.2)) (N : Nat) (x1 : Int32) (x2 : Int32) (x3 : Int32) (t0 : Int32) (M : v_M) (h : f_X11_paper_L18 N x1 x2 x3 t0 M = some out) : V E X (0, 0) 18 [(0, v_rf E 0), (1, .int x1), (2, .int x2), (3, .int x3)] [.int t0] sh P M := by
  have hK := hO.1
  unfold f_X11_paper_L18 at h
  refine V.istore (pc := 18) (i := 4) (lv' := [(0, _), (1, _), (2, _), (3, _), (4, _)]) hK (by decide) rfl dX11_paper_18 ?_
  refine V.iload (pc := 20) (i := 4) hK rfl dX11_paper_20 ?_
  refine V.if_eq (pc := 22) (tgt := 49) hK dX11_paper_22 (by decide) (fun c => ?_) (fun c => ?_)
  · rw [if_pos c] at h
    refine V.iconst (pc := 49) (v := -1) hK (by decide) dX11_paper_49 ?_
    exact V.iret (pc := 50) hO dX11_paper_50 (v_finI h)
  · rw [if_neg c] at h
    refine V.iload_n (pc := 25) (i := 2) hK rfl dX11_paper_25 ?_
    refine V.iconst (pc := 26) (v := 0) hK (by decide) dX11_paper_26 ?_
    refine V.aload_n (pc := 27) (i := 0) hK rfl ⟨_, rfl⟩ dX11_paper_27 ?_
    refine V.getI (pc := 28) hK fl_RX11_7 rfl (hL.1 0 _ ls_0) dX11_paper_28 ?_
    obtain ⟨z1, hz1, h⟩ := v_bdS h
    refine V.cS (pc := 31) hK (c_X11_within E hL N _ _ _ _ hz1) Y_X11_within cs_RX11_93 dX11_paper_31 (by decide) rfl (Nat.le_of_ble_eq_true rfl) ?_
    refine V.if_eq (pc := 34) (tgt := 49) hK dX11_paper_34 (by decide) (fun c => ?_) (fun c => ?_)
    · rw [if_pos c] at h
      refine V.iconst (pc := 49) (v := -1) hK (by decide) dX11_paper_49 ?_
      exact V.iret (pc := 50) hO dX11_paper_50 (v_finI h)
    · rw [if_neg c] at h
      refine V.aload_n (pc := 37) (i := 0) hK rfl ⟨_, rfl⟩ dX11_paper_37 ?_
      refine V.getR (pc := 38) hK fl_RX11_81 rfl (hL.1 0 _ ls_0) (hL.2 0 11 71 rfl) dX11_paper_38 ?_
      refine V.getI (pc := 41) hK fl_RX11_313 rfl (hL.1 71 _ ls_71) dX11_paper_41 ?_
      refine V.bipush (pc := 44) (v := 30) hK (by decide) dX11_paper_44 ?_
      refine V.icmp_lt (pc := 46) (tgt := 51) hK dX11_paper_46 (by decide) (fun c => ?_) (fun c => ?_)
      · rw [if_pos c] at h
        refine V.iload_n (pc := 51) (i := 3) hK rfl dX11_paper_51 ?_
        refine V.iconst (pc := 52) (v := 0) hK (by decide) dX11_paper_52 ?_
        refine V.iconst (pc := 53) (v := 1) hK (by decide) dX11_paper_53 ?_
        refine V.aload_n (pc := 54) (i := 0) hK rfl ⟨_, rfl⟩ dX11_paper_54 ?_
        refine V.getR (pc := 55) hK fl_RX11_81 rfl (hL.1 0 _ ls_0) (hL.2 0 11 71 rfl) dX11_paper_55 ?_
        refine V.getI (pc := 58) hK fl_RX11_313 rfl (hL.1 71 _ ls_71) dX11_paper_58 ?_
        refine V.ishl (pc := 61) hK dX11_paper_61 ?_
        refine V.iconst (pc := 62) (v := 1) hK (by decide) dX11_paper_62 ?_
        refine V.isub (pc := 63) hK dX11_paper_63 ?_
        obtain ⟨z2, hz2, h⟩ := v_bdS h
        refine V.cS (pc := 64) hK (c_X11_within E hL N _ _ _ _ hz2) Y_X11_within cs_RX11_93 dX11_paper_64 (by decide) rfl (Nat.le_of_ble_eq_true rfl) ?_
        refine V.if_ne (pc := 67) (tgt := 72) hK dX11_paper_67 (by decide) (fun c => ?_) (fun c => ?_)
        · rw [if_neg c] at h
          refine V.aload_n (pc := 72) (i := 0) hK rfl ⟨_, rfl⟩ dX11_paper_72 ?_
          refine V.getR (pc := 73) hK fl_RX11_81 rfl (hL.1 0 _ ls_0) (hL.2 0 11 71 rfl) dX11_paper_73 ?_
          refine V.iload_n (pc := 76) (i := 1) hK rfl dX11_paper_76 ?_
          refine V.iload_n (pc := 77) (i := 2) hK rfl dX11_paper_77 ?_
          refine V.iload_n (pc := 78) (i := 3) hK rfl dX11_paper_78 ?_
          obtain ⟨z3, hz3, h⟩ := v_bdS h
          refine V.cV (pc := 79) (ci := 6) hK (c_X6_add E hL N _ _ _ _ hz3) Y_X6_add cv_RX11_314 (by decide) rfl (hL.1 71 _ ls_71) dX11_paper_79 (by decide) rfl (Nat.le_of_ble_eq_true rfl) ?_
          exact V.iret (pc := 82) hO dX11_paper_82 (v_finI h)
        · rw [if_pos c] at h
          refine V.iconst (pc := 70) (v := -1) hK (by decide) dX11_paper_70 ?_
          exact V.iret (pc := 71) hO dX11_paper_71 (v_finI h)
      · rw [if_neg c] at h
        refine V.iconst (pc := 49) (v := -1) hK (by decide) dX11_paper_49 ?_
        exact V.iret (pc := 50) hO dX11_paper_50 (v_finI h)
set_option maxHeartbeats 4000000 in
set_option maxRecDepth 100000 in
theorem w_X11_paper_L13 {E : v_E} {X : v_X} {sh : v_S} {P : v_P} {out : Int32 × v_M} (hL : v_Lay sh P) (hO : v_O E X cX11_paper RX11 5 2 (some .int) "paper" (v_Q1 (some (.int out.1)) sh P out.2)) (N : Nat) (x1 : Int32) (x2 : Int32) (x3 : Int32) (M : v_M) (h : f_X11_paper_L13 N x1 x2 x3 M = some out) : V E X (0, 0) 13 [(0, v_rf E 0), (1, .int x1), (2, .int x2), (3, .int x3)] [] sh P M := by
  have hK := hO.1
  unfold f_X11_paper_L13 at h
  refine V.iconst (pc := 13) (v := 1) hK (by decide) dX11_paper_13 ?_
  refine V.goto (pc := 14) (tgt := 18) hK dX11_paper_14 (by decide) ?_
  refine V.pick [0, 1, 2, 3] (l := [(0, _), (1, _), (2, _), (3, _)]) rfl ?_
  exact w_X11_paper_L18 hL hO N _ _ _ _ _ h
set_option maxHeartbeats 4000000 in
set_option maxRecDepth 100000 in
theorem c_X11_paper (E : v_E) {sh : v_S} {P : v_P} (hL : v_Lay sh P) (N : Nat) (x1 : Int32) (x2 : Int32) (x3 : Int32) (M : v_M) {out : Int32 × v_M} (h : f_X11_paper N x1 x2 x3 M = some out) : v_Ct E 2 yX11_paper cX11_paper 5 (some .int) 0 0 [v_rf E 0, .int x1, .int x2, .int x3] sh P M (v_Q1 (some (.int out.1)) sh P out.2) := by
  refine v_Ct.of (by decide +kernel) (Nat.le_of_ble_eq_true rfl) (fun X hO => ?_)
  have hK : v_K E X cX11_paper RX11 5 2 := hO.1
  have hO : v_O E X cX11_paper RX11 5 2 (some .int) "paper" (v_Q1 (some (.int out.1)) sh P out.2) := hO
  show V E X (0, 0) 0 [(0, v_rf E 0), (1, .int x1), (2, .int x2), (3, .int x3)] [] sh P M
  unfold f_X11_paper at h
  refine V.iload_n (pc := 0) (i := 1) hK rfl dX11_paper_0 ?_
  refine V.iconst (pc := 1) (v := -1) hK (by decide) dX11_paper_1 ?_
  refine V.icmp_eq (pc := 2) (tgt := 13) hK dX11_paper_2 (by decide) (fun c => ?_) (fun c => ?_)
  · rw [if_pos c] at h
    refine V.pick [0, 1, 2, 3] (l := [(0, _), (1, _), (2, _), (3, _)]) rfl ?_
    exact w_X11_paper_L13 hL hO N _ _ _ _ h
  · rw [if_neg c] at h
    refine V.aload_n (pc := 5) (i := 0) hK rfl ⟨_, rfl⟩ dX11_paper_5 ?_
    refine V.iload_n (pc := 6) (i := 1) hK rfl dX11_paper_6 ?_
    obtain ⟨z1, hz1, h⟩ := v_bdS h
    refine V.cV (pc := 7) (ci := 11) hK (c_X11_hasMachine E hL N _ _ hz1) Y_X11_hasMachine cv_RX11_150 (by decide) rfl (hL.1 0 _ ls_0) dX11_paper_7 (by decide) rfl (Nat.le_of_ble_eq_true rfl) ?_
    refine V.if_eq (pc := 10) (tgt := 17) hK dX11_paper_10 (by decide) (fun c => ?_) (fun c => ?_)
    · rw [if_pos c] at h
      refine V.iconst (pc := 17) (v := 0) hK (by decide) dX11_paper_17 ?_
      refine V.pick [0, 1, 2, 3] (l := [(0, _), (1, _), (2, _), (3, _)]) rfl ?_
      exact w_X11_paper_L18 hL hO N _ _ _ _ _ h
    · rw [if_neg c] at h
      refine V.pick [0, 1, 2, 3] (l := [(0, _), (1, _), (2, _), (3, _)]) rfl ?_
      exact w_X11_paper_L13 hL hO N _ _ _ _ h
set_option maxHeartbeats 4000000 in
set_option maxRecDepth 100000 in
theorem c_X11_read (E : v_E) {sh : v_S} {P : v_P} (hL : v_Lay sh P) (N : Nat) (x1 : Int32) (x2 : Int32) (x3 : Int32) (M : v_M) {out : Int32 × v_M} (h : f_X11_read N x1 x2 x3 M = some out) : v_Ct E 2 yX11_read cX11_read 4 (some .boolean) 0 0 [v_rf E 0, .int x1, .int x2, .int x3] sh P M (v_Q1 (some (.int out.1)) sh P out.2) := by
  refine v_Ct.of (by decide +kernel) (Nat.le_of_ble_eq_true rfl) (fun X hO => ?_)
  have hK : v_K E X cX11_read RX11 4 2 := hO.1
  have hO : v_O E X cX11_read RX11 4 2 (some .boolean) "read" (v_Q1 (some (.int out.1)) sh P out.2) := hO
  show V E X (0, 0) 0 [(0, v_rf E 0), (1, .int x1), (2, .int x2), (3, .int x3)] [] sh P M
  unfold f_X11_read at h
  refine V.iload_n (pc := 0) (i := 1) hK rfl dX11_read_0 ?_
  refine V.iconst (pc := 1) (v := 0) hK (by decide) dX11_read_1 ?_
  refine V.bipush (pc := 2) (v := 15) hK (by decide) dX11_read_2 ?_
  obtain ⟨z1, hz1, h⟩ := v_bdS h
  refine V.cS (pc := 4) hK (c_X11_within E hL N _ _ _ _ hz1) Y_X11_within cs_RX11_93 dX11_read_4 (by decide) rfl (Nat.le_of_ble_eq_true rfl) ?_
  refine V.if_eq (pc := 7) (tgt := 27) hK dX11_read_7 (by decide) (fun c => ?_) (fun c => ?_)
  · rw [if_pos c] at h
    refine V.iconst (pc := 27) (v := 0) hK (by decide) dX11_read_27 ?_
    obtain ⟨hb, h⟩ := v_ckS h
    exact V.zret (pc := 28) hO (v_z01 hb) dX11_read_28 (v_finI h)
  · rw [if_neg c] at h
    refine V.iload_n (pc := 10) (i := 2) hK rfl dX11_read_10 ?_
    refine V.iconst (pc := 11) (v := 0) hK (by decide) dX11_read_11 ?_
    refine V.aload_n (pc := 12) (i := 0) hK rfl ⟨_, rfl⟩ dX11_read_12 ?_
    refine V.getR (pc := 13) hK fl_RX11_81 rfl (hL.1 0 _ ls_0) (hL.2 0 11 71 rfl) dX11_read_13 ?_
    refine V.getI (pc := 16) hK fl_RX11_313 rfl (hL.1 71 _ ls_71) dX11_read_16 ?_
    refine V.iconst (pc := 19) (v := 1) hK (by decide) dX11_read_19 ?_
    refine V.isub (pc := 20) hK dX11_read_20 ?_
    obtain ⟨z2, hz2, h⟩ := v_bdS h
    refine V.cS (pc := 21) hK (c_X11_within E hL N _ _ _ _ hz2) Y_X11_within cs_RX11_93 dX11_read_21 (by decide) rfl (Nat.le_of_ble_eq_true rfl) ?_
    refine V.if_ne (pc := 24) (tgt := 29) hK dX11_read_24 (by decide) (fun c => ?_) (fun c => ?_)
    · rw [if_neg c] at h
      refine V.iload_n (pc := 29) (i := 3) hK rfl dX11_read_29 ?_
      refine V.aload_n (pc := 30) (i := 0) hK rfl ⟨_, rfl⟩ dX11_read_30 ?_
      refine V.getR (pc := 31) hK fl_RX11_81 rfl (hL.1 0 _ ls_0) (hL.2 0 11 71 rfl) dX11_read_31 ?_
      refine V.getR (pc := 34) hK fl_RX11_316 rfl (hL.1 71 _ ls_71) (hL.2 71 2 73 rfl) dX11_read_34 ?_
      refine V.iload_n (pc := 37) (i := 2) hK rfl dX11_read_37 ?_
      obtain ⟨hb, h⟩ := v_ckS h
      refine V.iald (pc := 38) hK (hL.1 73 _ ls_73) (v_ibS hb) dX11_read_38 ?_
      refine V.aload_n (pc := 39) (i := 0) hK rfl ⟨_, rfl⟩ dX11_read_39 ?_
      refine V.getI (pc := 40) hK fl_RX11_7 rfl (hL.1 0 _ ls_0) dX11_read_40 ?_
      obtain ⟨z3, hz3, h⟩ := v_bdS h
      refine V.cS (pc := 43) hK (c_X11_within E hL N _ _ _ _ hz3) Y_X11_within cs_RX11_93 dX11_read_43 (by decide) rfl (Nat.le_of_ble_eq_true rfl) ?_
      refine V.if_ne (pc := 46) (tgt := 51) hK dX11_read_46 (by decide) (fun c => ?_) (fun c => ?_)
      · rw [if_neg c] at h
        refine V.aload_n (pc := 51) (i := 0) hK rfl ⟨_, rfl⟩ dX11_read_51 ?_
        refine V.getR (pc := 52) hK fl_RX11_81 rfl (hL.1 0 _ ls_0) (hL.2 0 11 71 rfl) dX11_read_52 ?_
        refine V.iload_n (pc := 55) (i := 1) hK rfl dX11_read_55 ?_
        refine V.iload_n (pc := 56) (i := 2) hK rfl dX11_read_56 ?_
        refine V.iload_n (pc := 57) (i := 3) hK rfl dX11_read_57 ?_
        obtain ⟨z4, hz4, h⟩ := v_bdS h
        refine V.cVv (pc := 58) (ci := 6) hK (c_X6_putReading E hL N _ _ _ _ hz4) Y_X6_putReading cv_RX11_318 (by decide) rfl (hL.1 71 _ ls_71) dX11_read_58 (by decide) rfl (Nat.le_of_ble_eq_true rfl) ?_
        refine V.iconst (pc := 61) (v := 1) hK (by decide) dX11_read_61 ?_
        obtain ⟨hb, h⟩ := v_ckS h
        exact V.zret (pc := 62) hO (v_z01 hb) dX11_read_62 (v_finI h)
      · rw [if_pos c] at h
        refine V.iconst (pc := 49) (v := 0) hK (by decide) dX11_read_49 ?_
        obtain ⟨hb, h⟩ := v_ckS h
        exact V.zret (pc := 50) hO (v_z01 hb) dX11_read_50 (v_finI h)
    · rw [if_pos c] at h
      refine V.iconst (pc := 27) (v := 0) hK (by decide) dX11_read_27 ?_
      obtain ⟨hb, h⟩ := v_ckS h
      exact V.zret (pc := 28) hO (v_z01 hb) dX11_read_28 (v_finI h)
set_option maxHeartbeats 4000000 in
set_option maxRecDepth 100000 in
theorem c_X11_knew (E : v_E) {sh : v_S} {P : v_P} (hL : v_Lay sh P) (N : Nat) (x1 : Int32) (x2 : Int32) (M : v_M) {out : Int32 × v_M} (h : f_X11_knew N x1 x2 M = some out) : v_Ct E 2 yX11_knew cX11_knew 4 (some .int) 0 0 [v_rf E 0, .int x1, .int x2] sh P M (v_Q1 (some (.int out.1)) sh P out.2) := by
  refine v_Ct.of (by decide +kernel) (Nat.le_of_ble_eq_true rfl) (fun X hO => ?_)
  have hK : v_K E X cX11_knew RX11 4 2 := hO.1
  have hO : v_O E X cX11_knew RX11 4 2 (some .int) "knew" (v_Q1 (some (.int out.1)) sh P out.2) := hO
  show V E X (0, 0) 0 [(0, v_rf E 0), (1, .int x1), (2, .int x2)] [] sh P M
  unfold f_X11_knew at h
  refine V.iload_n (pc := 0) (i := 1) hK rfl dX11_knew_0 ?_
  refine V.iconst (pc := 1) (v := 0) hK (by decide) dX11_knew_1 ?_
  refine V.bipush (pc := 2) (v := 15) hK (by decide) dX11_knew_2 ?_
  obtain ⟨z1, hz1, h⟩ := v_bdS h
  refine V.cS (pc := 4) hK (c_X11_within E hL N _ _ _ _ hz1) Y_X11_within cs_RX11_93 dX11_knew_4 (by decide) rfl (Nat.le_of_ble_eq_true rfl) ?_
  refine V.if_eq (pc := 7) (tgt := 27) hK dX11_knew_7 (by decide) (fun c => ?_) (fun c => ?_)
  · rw [if_pos c] at h
    refine V.iconst (pc := 27) (v := -1) hK (by decide) dX11_knew_27 ?_
    exact V.iret (pc := 28) hO dX11_knew_28 (v_finI h)
  · rw [if_neg c] at h
    refine V.iload_n (pc := 10) (i := 2) hK rfl dX11_knew_10 ?_
    refine V.iconst (pc := 11) (v := 0) hK (by decide) dX11_knew_11 ?_
    refine V.aload_n (pc := 12) (i := 0) hK rfl ⟨_, rfl⟩ dX11_knew_12 ?_
    refine V.getR (pc := 13) hK fl_RX11_81 rfl (hL.1 0 _ ls_0) (hL.2 0 11 71 rfl) dX11_knew_13 ?_
    refine V.getI (pc := 16) hK fl_RX11_313 rfl (hL.1 71 _ ls_71) dX11_knew_16 ?_
    refine V.iconst (pc := 19) (v := 1) hK (by decide) dX11_knew_19 ?_
    refine V.isub (pc := 20) hK dX11_knew_20 ?_
    obtain ⟨z2, hz2, h⟩ := v_bdS h
    refine V.cS (pc := 21) hK (c_X11_within E hL N _ _ _ _ hz2) Y_X11_within cs_RX11_93 dX11_knew_21 (by decide) rfl (Nat.le_of_ble_eq_true rfl) ?_
    refine V.if_ne (pc := 24) (tgt := 29) hK dX11_knew_24 (by decide) (fun c => ?_) (fun c => ?_)
    · rw [if_neg c] at h
      refine V.aload_n (pc := 29) (i := 0) hK rfl ⟨_, rfl⟩ dX11_knew_29 ?_
      refine V.getR (pc := 30) hK fl_RX11_81 rfl (hL.1 0 _ ls_0) (hL.2 0 11 71 rfl) dX11_knew_30 ?_
      refine V.iload_n (pc := 33) (i := 1) hK rfl dX11_knew_33 ?_
      obtain ⟨z3, hz3, h⟩ := v_bdS h
      refine V.cVv (pc := 34) (ci := 6) hK (c_X6_gatherKnowing E hL N _ _ hz3) Y_X6_gatherKnowing cv_RX11_321 (by decide) rfl (hL.1 71 _ ls_71) dX11_knew_34 (by decide) rfl (Nat.le_of_ble_eq_true rfl) ?_
      refine V.aload_n (pc := 37) (i := 0) hK rfl ⟨_, rfl⟩ dX11_knew_37 ?_
      refine V.getR (pc := 38) hK fl_RX11_81 rfl (hL.1 0 _ ls_0) (hL.2 0 11 71 rfl) dX11_knew_38 ?_
      refine V.getR (pc := 41) hK fl_RX11_324 rfl (hL.1 71 _ ls_71) (hL.2 71 3 74 rfl) dX11_knew_41 ?_
      refine V.iload_n (pc := 44) (i := 2) hK rfl dX11_knew_44 ?_
      obtain ⟨hb, h⟩ := v_ckS h
      refine V.iald (pc := 45) hK (hL.1 74 _ ls_74) (v_ibS hb) dX11_knew_45 ?_
      refine V.topi (fun y4 ey4 => ?_)
      have h := v_lt ey4 h
      refine V.istore_n (pc := 46) (i := 3) (lv' := [(0, _), (1, _), (2, _), (3, _)]) hK (by decide) rfl dX11_knew_46 ?_
      refine V.iload_n (pc := 47) (i := 3) hK rfl dX11_knew_47 ?_
      refine V.aload_n (pc := 48) (i := 0) hK rfl ⟨_, rfl⟩ dX11_knew_48 ?_
      refine V.getI (pc := 49) hK fl_RX11_7 rfl (hL.1 0 _ ls_0) dX11_knew_49 ?_
      refine V.icmp_gt (pc := 52) (tgt := 59) hK dX11_knew_52 (by decide) (fun c => ?_) (fun c => ?_)
      · rw [if_pos c] at h
        refine V.bipush (pc := 59) (v := -2) hK (by decide) dX11_knew_59 ?_
        exact V.iret (pc := 61) hO dX11_knew_61 (v_finI h)
      · rw [if_neg c] at h
        refine V.iload_n (pc := 55) (i := 3) hK rfl dX11_knew_55 ?_
        refine V.goto (pc := 56) (tgt := 61) hK dX11_knew_56 (by decide) ?_
        exact V.iret (pc := 61) hO dX11_knew_61 (v_finI h)
    · rw [if_pos c] at h
      refine V.iconst (pc := 27) (v := -1) hK (by decide) dX11_knew_27 ?_
      exact V.iret (pc := 28) hO dX11_knew_28 (v_finI h)
set_option maxHeartbeats 4000000 in
set_option maxRecDepth 100000 in
theorem w_X11_warned_L61 {E : v_E} {X : v_X} {sh : v_S} {P : v_P} {out : Int32 × v_M} (hL : v_Lay sh P) (hO : v_O E X cX11_warned RX11 5 2 (some .int) "warned" (v_Q1 (some (.int out.1)) sh P out.2)) (N : Nat) (k26 : Int32 → Int32 → Int32 → Int32 → v_M → Option (Int32 × v_M)) (hk26 : ∀ (x1 : Int32) (x2 : Int32) (x3 : Int32) (x4 : Int32) (M : v_M), k26 x1 x2 x3 x4 M = some out → V E X (0, 0) 26 [(0, v_rf E 0), (1, .int x1), (2, .int x2), (3, .int x3), (4, .int x4)] [] sh P M) (x1 : Int32) (x2 : Int32) (x3 : Int32) (x4 : Int32) (M : v_M) (h : f_X11_warned_L61 N k26 x1 x2 x3 x4 M = some out) : V E X (0, 0) 61 [(0, v_rf E 0), (1, .int x1), (2, .int x2), (3, .int x3), (4, .int x4)] [] sh P M := by
  have hK := hO.1
  unfold f_X11_warned_L61 at h
  refine V.iinc (pc := 61) (i := 4) (v := 1) (lv' := [(0, _), (1, _), (2, _), (3, _), (4, _)]) hK rfl (by decide) (by decide) rfl dX11_warned_61 ?_
  refine V.goto (pc := 64) (tgt := 26) hK dX11_warned_64 (by decide) ?_
  refine V.pick [0, 1, 2, 3, 4] (l := [(0, _), (1, _), (2, _), (3, _), (4, _)]) rfl ?_
  exact hk26 _ _ _ _ _ h
set_option maxHeartbeats 4000000 in
set_option maxRecDepth 100000 in
theorem w_X11_warned_L26 {E : v_E} {X : v_X} {sh : v_S} {P : v_P} {out : Int32 × v_M} (hL : v_Lay sh P) (hO : v_O E X cX11_warned RX11 5 2 (some .int) "warned" (v_Q1 (some (.int out.1)) sh P out.2)) (N : Nat) (n : Nat) : ∀ (x1 : Int32) (x2 : Int32) (x3 : Int32) (x4 : Int32) (M : v_M), f_X11_warned_L26 N n x1 x2 x3 x4 M = some out → V E X (0, 0) 26 [(0, v_rf E 0), (1, .int x1), (2, .int x2), (3, .int x3), (4, .int x4)] [] sh P M := by
  have hK := hO.1
  induction n with
  | zero => intro x1 x2 x3 x4 M h; rw [f_X11_warned_L26] at h; cases h
  | succ n ih =>
    intro x1 x2 x3 x4 M h
    rw [f_X11_warned_L26] at h
    refine V.iload (pc := 26) (i := 4) hK rfl dX11_warned_26 ?_
    refine V.bipush (pc := 28) (v := 16) hK (by decide) dX11_warned_28 ?_
    refine V.icmp_ge (pc := 30) (tgt := 67) hK dX11_warned_30 (by decide) (fun c => ?_) (fun c => ?_)
    · rw [if_pos c] at h
      refine V.iload_n (pc := 67) (i := 3) hK rfl dX11_warned_67 ?_
      exact V.iret (pc := 68) hO dX11_warned_68 (v_finI h)
    · rw [if_neg c] at h
      refine V.aload_n (pc := 33) (i := 0) hK rfl ⟨_, rfl⟩ dX11_warned_33 ?_
      refine V.getR (pc := 34) hK fl_RX11_81 rfl (hL.1 0 _ ls_0) (hL.2 0 11 71 rfl) dX11_warned_34 ?_
      refine V.iload (pc := 37) (i := 4) hK rfl dX11_warned_37 ?_
      obtain ⟨z1, hz1, h⟩ := v_bdS h
      refine V.cVv (pc := 39) (ci := 6) hK (c_X6_gatherKnowing E hL N _ _ hz1) Y_X6_gatherKnowing cv_RX11_321 (by decide) rfl (hL.1 71 _ ls_71) dX11_warned_39 (by decide) rfl (Nat.le_of_ble_eq_true rfl) ?_
      refine V.aload_n (pc := 42) (i := 0) hK rfl ⟨_, rfl⟩ dX11_warned_42 ?_
      refine V.getR (pc := 43) hK fl_RX11_81 rfl (hL.1 0 _ ls_0) (hL.2 0 11 71 rfl) dX11_warned_43 ?_
      refine V.iload_n (pc := 46) (i := 1) hK rfl dX11_warned_46 ?_
      refine V.iload_n (pc := 47) (i := 2) hK rfl dX11_warned_47 ?_
      obtain ⟨z2, hz2, h⟩ := v_bdS h
      refine V.cV (pc := 48) (ci := 6) hK (c_X6_warnsOf E hL N _ _ _ hz2) Y_X6_warnsOf cv_RX11_327 (by decide) rfl (hL.1 71 _ ls_71) dX11_warned_48 (by decide) rfl (Nat.le_of_ble_eq_true rfl) ?_
      refine V.if_eq (pc := 51) (tgt := 61) hK dX11_warned_51 (by decide) (fun c => ?_) (fun c => ?_)
      · rw [if_pos c] at h
        refine V.pick [0, 1, 2, 3, 4] (l := [(0, _), (1, _), (2, _), (3, _), (4, _)]) rfl ?_
        exact w_X11_warned_L61 hL hO N _ ih _ _ _ _ _ h
      · rw [if_neg c] at h
        refine V.iload_n (pc := 54) (i := 3) hK rfl dX11_warned_54 ?_
        refine V.iconst (pc := 55) (v := 1) hK (by decide) dX11_warned_55 ?_
        refine V.iload (pc := 56) (i := 4) hK rfl dX11_warned_56 ?_
        refine V.ishl (pc := 58) hK dX11_warned_58 ?_
        refine V.ior (pc := 59) hK dX11_warned_59 ?_
        refine V.topi (fun y3 ey3 => ?_)
        have h := v_lt ey3 h
        refine V.istore_n (pc := 60) (i := 3) (lv' := [(0, _), (1, _), (2, _), (3, _), (4, _)]) hK (by decide) rfl dX11_warned_60 ?_
        refine V.pick [0, 1, 2, 3, 4] (l := [(0, _), (1, _), (2, _), (3, _), (4, _)]) rfl ?_
        exact w_X11_warned_L61 hL hO N _ ih _ _ _ _ _ h
set_option maxHeartbeats 4000000 in
set_option maxRecDepth 100000 in
theorem c_X11_warned (E : v_E) {sh : v_S} {P : v_P} (hL : v_Lay sh P) (N : Nat) (x1 : Int32) (x2 : Int32) (M : v_M) {out : Int32 × v_M} (h : f_X11_warned N x1 x2 M = some out) : v_Ct E 2 yX11_warned cX11_warned 5 (some .int) 0 0 [v_rf E 0, .int x1, .int x2] sh P M (v_Q1 (some (.int out.1)) sh P out.2) := by
  refine v_Ct.of (by decide +kernel) (Nat.le_of_ble_eq_true rfl) (fun X hO => ?_)
  have hK : v_K E X cX11_warned RX11 5 2 := hO.1
  have hO : v_O E X cX11_warned RX11 5 2 (some .int) "warned" (v_Q1 (some (.int out.1)) sh P out.2) := hO
  show V E X (0, 0) 0 [(0, v_rf E 0), (1, .int x1), (2, .int x2)] [] sh P M
  unfold f_X11_warned at h
  refine V.aload_n (pc := 0) (i := 0) hK rfl ⟨_, rfl⟩ dX11_warned_0 ?_
  refine V.iload_n (pc := 1) (i := 1) hK rfl dX11_warned_1 ?_
  obtain ⟨z1, hz1, h⟩ := v_bdS h
  refine V.cV (pc := 2) (ci := 11) hK (c_X11_hasMachine E hL N _ _ hz1) Y_X11_hasMachine cv_RX11_150 (by decide) rfl (hL.1 0 _ ls_0) dX11_warned_2 (by decide) rfl (Nat.le_of_ble_eq_true rfl) ?_
  refine V.if_eq (pc := 5) (tgt := 19) hK dX11_warned_5 (by decide) (fun c => ?_) (fun c => ?_)
  · rw [if_pos c] at h
    refine V.iconst (pc := 19) (v := -1) hK (by decide) dX11_warned_19 ?_
    exact V.iret (pc := 20) hO dX11_warned_20 (v_finI h)
  · rw [if_neg c] at h
    refine V.iload_n (pc := 8) (i := 2) hK rfl dX11_warned_8 ?_
    refine V.iconst (pc := 9) (v := 0) hK (by decide) dX11_warned_9 ?_
    refine V.sipush (pc := 10) (v := 9999) hK (by decide) dX11_warned_10 ?_
    obtain ⟨z2, hz2, h⟩ := v_bdS h
    refine V.cS (pc := 13) hK (c_X11_within E hL N _ _ _ _ hz2) Y_X11_within cs_RX11_93 dX11_warned_13 (by decide) rfl (Nat.le_of_ble_eq_true rfl) ?_
    refine V.if_ne (pc := 16) (tgt := 21) hK dX11_warned_16 (by decide) (fun c => ?_) (fun c => ?_)
    · rw [if_neg c] at h
      refine V.iconst (pc := 21) (v := 0) hK (by decide) dX11_warned_21 ?_
      refine V.istore_n (pc := 22) (i := 3) (lv' := [(0, _), (1, _), (2, _), (3, _)]) hK (by decide) rfl dX11_warned_22 ?_
      refine V.iconst (pc := 23) (v := 0) hK (by decide) dX11_warned_23 ?_
      refine V.istore (pc := 24) (i := 4) (lv' := [(0, _), (1, _), (2, _), (3, _), (4, _)]) hK (by decide) rfl dX11_warned_24 ?_
      refine V.pick [0, 1, 2, 3, 4] (l := [(0, _), (1, _), (2, _), (3, _), (4, _)]) rfl ?_
      exact w_X11_warned_L26 hL hO N N _ _ _ _ _ h
    · rw [if_pos c] at h
      refine V.iconst (pc := 19) (v := -1) hK (by decide) dX11_warned_19 ?_
      exact V.iret (pc := 20) hO dX11_warned_20 (v_finI h)
set_option maxHeartbeats 4000000 in
set_option maxRecDepth 100000 in
theorem c_X11_wears (E : v_E) {sh : v_S} {P : v_P} (hL : v_Lay sh P) (N : Nat) (x1 : Int32) (x2 : Int32) (M : v_M) {out : Int32 × v_M} (h : f_X11_wears N x1 x2 M = some out) : v_Ct E 2 yX11_wears cX11_wears 3 (some .int) 0 0 [v_rf E 0, .int x1, .int x2] sh P M (v_Q1 (some (.int out.1)) sh P out.2) := by
  refine v_Ct.of (by decide +kernel) (Nat.le_of_ble_eq_true rfl) (fun X hO => ?_)
  have hK : v_K E X cX11_wears RX11 3 2 := hO.1
  have hO : v_O E X cX11_wears RX11 3 2 (some .int) "wears" (v_Q1 (some (.int out.1)) sh P out.2) := hO
  show V E X (0, 0) 0 [(0, v_rf E 0), (1, .int x1), (2, .int x2)] [] sh P M
  unfold f_X11_wears at h
  refine V.aload_n (pc := 0) (i := 0) hK rfl ⟨_, rfl⟩ dX11_wears_0 ?_
  refine V.iload_n (pc := 1) (i := 1) hK rfl dX11_wears_1 ?_
  obtain ⟨z1, hz1, h⟩ := v_bdS h
  refine V.cV (pc := 2) (ci := 11) hK (c_X11_hasPart E hL N _ _ hz1) Y_X11_hasPart cv_RX11_185 (by decide) rfl (hL.1 0 _ ls_0) dX11_wears_2 (by decide) rfl (Nat.le_of_ble_eq_true rfl) ?_
  refine V.if_eq (pc := 5) (tgt := 19) hK dX11_wears_5 (by decide) (fun c => ?_) (fun c => ?_)
  · rw [if_pos c] at h
    refine V.iconst (pc := 19) (v := -1) hK (by decide) dX11_wears_19 ?_
    exact V.iret (pc := 20) hO dX11_wears_20 (v_finI h)
  · rw [if_neg c] at h
    refine V.iload_n (pc := 8) (i := 2) hK rfl dX11_wears_8 ?_
    refine V.iconst (pc := 9) (v := 0) hK (by decide) dX11_wears_9 ?_
    refine V.sipush (pc := 10) (v := 9999) hK (by decide) dX11_wears_10 ?_
    obtain ⟨z2, hz2, h⟩ := v_bdS h
    refine V.cS (pc := 13) hK (c_X11_within E hL N _ _ _ _ hz2) Y_X11_within cs_RX11_93 dX11_wears_13 (by decide) rfl (Nat.le_of_ble_eq_true rfl) ?_
    refine V.if_ne (pc := 16) (tgt := 21) hK dX11_wears_16 (by decide) (fun c => ?_) (fun c => ?_)
    · rw [if_neg c] at h
      refine V.aload_n (pc := 21) (i := 0) hK rfl ⟨_, rfl⟩ dX11_wears_21 ?_
      refine V.getR (pc := 22) hK fl_RX11_19 rfl (hL.1 0 _ ls_0) (hL.2 0 2 1 rfl) dX11_wears_22 ?_
      refine V.getR (pc := 25) hK fl_RX11_330 rfl (hL.1 1 _ ls_1) (hL.2 1 9 10 rfl) dX11_wears_25 ?_
      refine V.iload_n (pc := 28) (i := 1) hK rfl dX11_wears_28 ?_
      refine V.iload_n (pc := 29) (i := 2) hK rfl dX11_wears_29 ?_
      obtain ⟨z3, hz3, h⟩ := v_bdS h
      refine V.cS (pc := 30) hK (c_X11_swap E hL N _ _ (hL.1 10 _ ls_10) _ _ _ hz3) Y_X11_swap cs_RX11_118 dX11_wears_30 (by decide) rfl (Nat.le_of_ble_eq_true rfl) ?_
      exact V.iret (pc := 33) hO dX11_wears_33 (v_finI h)
    · rw [if_pos c] at h
      refine V.iconst (pc := 19) (v := -1) hK (by decide) dX11_wears_19 ?_
      exact V.iret (pc := 20) hO dX11_wears_20 (v_finI h)
set_option maxHeartbeats 4000000 in
set_option maxRecDepth 100000 in
theorem c_X11_fly (E : v_E) {sh : v_S} {P : v_P} (hL : v_Lay sh P) (N : Nat) (x1 : Int32) (x2 : Int32) (M : v_M) {out : Int32 × v_M} (h : f_X11_fly N x1 x2 M = some out) : v_Ct E 2 yX11_fly cX11_fly 3 (some .int) 0 0 [v_rf E 0, .int x1, .int x2] sh P M (v_Q1 (some (.int out.1)) sh P out.2) := by
  refine v_Ct.of (by decide +kernel) (Nat.le_of_ble_eq_true rfl) (fun X hO => ?_)
  have hK : v_K E X cX11_fly RX11 3 2 := hO.1
  have hO : v_O E X cX11_fly RX11 3 2 (some .int) "fly" (v_Q1 (some (.int out.1)) sh P out.2) := hO
  show V E X (0, 0) 0 [(0, v_rf E 0), (1, .int x1), (2, .int x2)] [] sh P M
  unfold f_X11_fly at h
  refine V.aload_n (pc := 0) (i := 0) hK rfl ⟨_, rfl⟩ dX11_fly_0 ?_
  refine V.iload_n (pc := 1) (i := 1) hK rfl dX11_fly_1 ?_
  obtain ⟨z1, hz1, h⟩ := v_bdS h
  refine V.cV (pc := 2) (ci := 11) hK (c_X11_hasMachine E hL N _ _ hz1) Y_X11_hasMachine cv_RX11_150 (by decide) rfl (hL.1 0 _ ls_0) dX11_fly_2 (by decide) rfl (Nat.le_of_ble_eq_true rfl) ?_
  refine V.if_eq (pc := 5) (tgt := 19) hK dX11_fly_5 (by decide) (fun c => ?_) (fun c => ?_)
  · rw [if_pos c] at h
    refine V.iconst (pc := 19) (v := -1) hK (by decide) dX11_fly_19 ?_
    exact V.iret (pc := 20) hO dX11_fly_20 (v_finI h)
  · rw [if_neg c] at h
    refine V.iload_n (pc := 8) (i := 2) hK rfl dX11_fly_8 ?_
    refine V.iconst (pc := 9) (v := 0) hK (by decide) dX11_fly_9 ?_
    refine V.sipush (pc := 10) (v := 9999) hK (by decide) dX11_fly_10 ?_
    obtain ⟨z2, hz2, h⟩ := v_bdS h
    refine V.cS (pc := 13) hK (c_X11_within E hL N _ _ _ _ hz2) Y_X11_within cs_RX11_93 dX11_fly_13 (by decide) rfl (Nat.le_of_ble_eq_true rfl) ?_
    refine V.if_ne (pc := 16) (tgt := 21) hK dX11_fly_16 (by decide) (fun c => ?_) (fun c => ?_)
    · rw [if_neg c] at h
      refine V.aload_n (pc := 21) (i := 0) hK rfl ⟨_, rfl⟩ dX11_fly_21 ?_
      refine V.getR (pc := 22) hK fl_RX11_26 rfl (hL.1 0 _ ls_0) (hL.2 0 3 11 rfl) dX11_fly_22 ?_
      refine V.aload_n (pc := 25) (i := 0) hK rfl ⟨_, rfl⟩ dX11_fly_25 ?_
      refine V.getR (pc := 26) hK fl_RX11_19 rfl (hL.1 0 _ ls_0) (hL.2 0 2 1 rfl) dX11_fly_26 ?_
      refine V.iload_n (pc := 29) (i := 1) hK rfl dX11_fly_29 ?_
      refine V.iload_n (pc := 30) (i := 2) hK rfl dX11_fly_30 ?_
      obtain ⟨z3, hz3, h⟩ := v_bdS h
      refine V.cVv (pc := 31) (ci := 4) hK (c_X4_addFlights E hL N _ (v_FlL hL 11 rfl) _ _ _ hz3) Y_X4_addFlights cv_RX11_333 (by decide) rfl (hL.1 11 _ ls_11) dX11_fly_31 (by decide) rfl (Nat.le_of_ble_eq_true rfl) ?_
      refine V.aload_n (pc := 34) (i := 0) hK rfl ⟨_, rfl⟩ dX11_fly_34 ?_
      refine V.getR (pc := 35) hK fl_RX11_26 rfl (hL.1 0 _ ls_0) (hL.2 0 3 11 rfl) dX11_fly_35 ?_
      refine V.getR (pc := 38) hK fl_RX11_336 rfl (hL.1 11 _ ls_11) (hL.2 11 5 16 rfl) dX11_fly_38 ?_
      refine V.iload_n (pc := 41) (i := 1) hK rfl dX11_fly_41 ?_
      obtain ⟨hb, h⟩ := v_ckS h
      refine V.iald (pc := 42) hK (hL.1 16 _ ls_16) (v_ibS hb) dX11_fly_42 ?_
      exact V.iret (pc := 43) hO dX11_fly_43 (v_finI h)
    · rw [if_pos c] at h
      refine V.iconst (pc := 19) (v := -1) hK (by decide) dX11_fly_19 ?_
      exact V.iret (pc := 20) hO dX11_fly_20 (v_finI h)
set_option maxHeartbeats 4000000 in
set_option maxRecDepth 100000 in
theorem c_X11_odds (E : v_E) {sh : v_S} {P : v_P} (hL : v_Lay sh P) (N : Nat) (x1 : Int32) (x2 : Int32) (M : v_M) {out : Int32 × v_M} (h : f_X11_odds N x1 x2 M = some out) : v_Ct E 2 yX11_odds cX11_odds 3 (some .int) 0 0 [v_rf E 0, .int x1, .int x2] sh P M (v_Q1 (some (.int out.1)) sh P out.2) := by
  refine v_Ct.of (by decide +kernel) (Nat.le_of_ble_eq_true rfl) (fun X hO => ?_)
  have hK : v_K E X cX11_odds RX11 3 2 := hO.1
  have hO : v_O E X cX11_odds RX11 3 2 (some .int) "odds" (v_Q1 (some (.int out.1)) sh P out.2) := hO
  show V E X (0, 0) 0 [(0, v_rf E 0), (1, .int x1), (2, .int x2)] [] sh P M
  unfold f_X11_odds at h
  refine V.iload_n (pc := 0) (i := 1) hK rfl dX11_odds_0 ?_
  refine V.iconst (pc := 1) (v := 0) hK (by decide) dX11_odds_1 ?_
  refine V.ldcw (pc := 2) hK tw_1072 dX11_odds_2 ?_
  obtain ⟨z1, hz1, h⟩ := v_bdS h
  refine V.cS (pc := 5) hK (c_X11_within E hL N _ _ _ _ hz1) Y_X11_within cs_RX11_93 dX11_odds_5 (by decide) rfl (Nat.le_of_ble_eq_true rfl) ?_
  refine V.if_eq (pc := 8) (tgt := 22) hK dX11_odds_8 (by decide) (fun c => ?_) (fun c => ?_)
  · rw [if_pos c] at h
    refine V.iconst (pc := 22) (v := -1) hK (by decide) dX11_odds_22 ?_
    exact V.iret (pc := 23) hO dX11_odds_23 (v_finI h)
  · rw [if_neg c] at h
    refine V.iload_n (pc := 11) (i := 2) hK rfl dX11_odds_11 ?_
    refine V.iconst (pc := 12) (v := 0) hK (by decide) dX11_odds_12 ?_
    refine V.sipush (pc := 13) (v := 9999) hK (by decide) dX11_odds_13 ?_
    obtain ⟨z2, hz2, h⟩ := v_bdS h
    refine V.cS (pc := 16) hK (c_X11_within E hL N _ _ _ _ hz2) Y_X11_within cs_RX11_93 dX11_odds_16 (by decide) rfl (Nat.le_of_ble_eq_true rfl) ?_
    refine V.if_ne (pc := 19) (tgt := 24) hK dX11_odds_19 (by decide) (fun c => ?_) (fun c => ?_)
    · rw [if_neg c] at h
      refine V.ldcw (pc := 24) hK tw_1072 dX11_odds_24 ?_
      refine V.ldcw (pc := 27) hK tw_1072 dX11_odds_27 ?_
      refine V.iload_n (pc := 30) (i := 1) hK rfl dX11_odds_30 ?_
      refine V.iload_n (pc := 31) (i := 2) hK rfl dX11_odds_31 ?_
      obtain ⟨z3, hz3, h⟩ := v_bdS h
      refine V.cS (pc := 32) hK (c_X11_noneAfter E hL N _ _ _ _ hz3) Y_X11_noneAfter cs_RX11_340 dX11_odds_32 (by decide) rfl (Nat.le_of_ble_eq_true rfl) ?_
      refine V.isub (pc := 35) hK dX11_odds_35 ?_
      exact V.iret (pc := 36) hO dX11_odds_36 (v_finI h)
    · rw [if_pos c] at h
      refine V.iconst (pc := 22) (v := -1) hK (by decide) dX11_odds_22 ?_
      exact V.iret (pc := 23) hO dX11_odds_23 (v_finI h)
set_option maxHeartbeats 4000000 in
set_option maxRecDepth 100000 in
theorem w_X11_first_L43 {E : v_E} {X : v_X} {sh : v_S} {P : v_P} {out : Int32 × v_M} (hL : v_Lay sh P) (hO : v_O E X cX11_first RX11 6 2 (some .int) "first" (v_Q1 (some (.int out.1)) sh P out.2)) (N : Nat) (n : Nat) : ∀ (x1 : Int32) (x2 : Int32) (x3 : Int32) (x4 : Int32) (x5 : Int32) (M : v_M), f_X11_first_L43 N n x1 x2 x3 x4 x5 M = some out → V E X (0, 0) 43 [(1, .int x1), (2, .int x2), (3, .int x3), (4, .int x4), (5, .int x5)] [] sh P M := by
  have hK := hO.1
  induction n with
  | zero => intro x1 x2 x3 x4 x5 M h; rw [f_X11_first_L43] at h; cases h
  | succ n ih =>
    intro x1 x2 x3 x4 x5 M h
    rw [f_X11_first_L43] at h
    refine V.iload (pc := 43) (i := 5) hK rfl dX11_first_43 ?_
    refine V.bipush (pc := 45) (v := 99) hK (by decide) dX11_first_45 ?_
    refine V.icmp_gt (pc := 47) (tgt := 78) hK dX11_first_47 (by decide) (fun c => ?_) (fun c => ?_)
    · rw [if_pos c] at h
      refine V.bipush (pc := 78) (v := -2) hK (by decide) dX11_first_78 ?_
      exact V.iret (pc := 80) hO dX11_first_80 (v_finI h)
    · rw [if_neg c] at h
      refine V.iload (pc := 50) (i := 4) hK rfl dX11_first_50 ?_
      refine V.iload_n (pc := 52) (i := 1) hK rfl dX11_first_52 ?_
      refine V.iload_n (pc := 53) (i := 2) hK rfl dX11_first_53 ?_
      obtain ⟨z1, hz1, h⟩ := v_bdS h
      refine V.cS (pc := 54) hK (c_X11_noneAfter E hL N _ _ _ _ hz1) Y_X11_noneAfter cs_RX11_340 dX11_first_54 (by decide) rfl (Nat.le_of_ble_eq_true rfl) ?_
      refine V.topi (fun y2 ey2 => ?_)
      have h := v_lt ey2 h
      refine V.istore (pc := 57) (i := 4) (lv' := [(1, _), (2, _), (3, _), (4, _), (5, _)]) hK (by decide) rfl dX11_first_57 ?_
      refine V.ldcw (pc := 59) hK tw_1072 dX11_first_59 ?_
      refine V.iload (pc := 62) (i := 4) hK rfl dX11_first_62 ?_
      refine V.isub (pc := 64) hK dX11_first_64 ?_
      refine V.iload_n (pc := 65) (i := 3) hK rfl dX11_first_65 ?_
      refine V.icmp_lt (pc := 66) (tgt := 72) hK dX11_first_66 (by decide) (fun c => ?_) (fun c => ?_)
      · rw [if_pos c] at h
        refine V.iinc (pc := 72) (i := 5) (v := 1) (lv' := [(1, _), (2, _), (3, _), (4, _), (5, _)]) hK rfl (by decide) (by decide) rfl dX11_first_72 ?_
        refine V.goto (pc := 75) (tgt := 43) hK dX11_first_75 (by decide) ?_
        refine V.pick [1, 2, 3, 4, 5] (l := [(1, _), (2, _), (3, _), (4, _), (5, _)]) rfl ?_
        exact ih _ _ _ _ _ _ h
      · rw [if_neg c] at h
        refine V.iload (pc := 69) (i := 5) hK rfl dX11_first_69 ?_
        exact V.iret (pc := 71) hO dX11_first_71 (v_finI h)
set_option maxHeartbeats 4000000 in
set_option maxRecDepth 100000 in
theorem c_X11_first (E : v_E) {sh : v_S} {P : v_P} (hL : v_Lay sh P) (N : Nat) (x1 : Int32) (x2 : Int32) (x3 : Int32) (M : v_M) {out : Int32 × v_M} (h : f_X11_first N x1 x2 x3 M = some out) : v_Ct E 2 yX11_first cX11_first 6 (some .int) 0 0 [v_rf E 0, .int x1, .int x2, .int x3] sh P M (v_Q1 (some (.int out.1)) sh P out.2) := by
  refine v_Ct.of (by decide +kernel) (Nat.le_of_ble_eq_true rfl) (fun X hO => ?_)
  have hK : v_K E X cX11_first RX11 6 2 := hO.1
  have hO : v_O E X cX11_first RX11 6 2 (some .int) "first" (v_Q1 (some (.int out.1)) sh P out.2) := hO
  show V E X (0, 0) 0 [(0, v_rf E 0), (1, .int x1), (2, .int x2), (3, .int x3)] [] sh P M
  unfold f_X11_first at h
  refine V.iload_n (pc := 0) (i := 1) hK rfl dX11_first_0 ?_
  refine V.iconst (pc := 1) (v := 0) hK (by decide) dX11_first_1 ?_
  refine V.ldcw (pc := 2) hK tw_1072 dX11_first_2 ?_
  obtain ⟨z1, hz1, h⟩ := v_bdS h
  refine V.cS (pc := 5) hK (c_X11_within E hL N _ _ _ _ hz1) Y_X11_within cs_RX11_93 dX11_first_5 (by decide) rfl (Nat.le_of_ble_eq_true rfl) ?_
  refine V.if_eq (pc := 8) (tgt := 33) hK dX11_first_8 (by decide) (fun c => ?_) (fun c => ?_)
  · rw [if_pos c] at h
    refine V.iconst (pc := 33) (v := -1) hK (by decide) dX11_first_33 ?_
    exact V.iret (pc := 34) hO dX11_first_34 (v_finI h)
  · rw [if_neg c] at h
    refine V.iload_n (pc := 11) (i := 2) hK rfl dX11_first_11 ?_
    refine V.iconst (pc := 12) (v := 1) hK (by decide) dX11_first_12 ?_
    refine V.sipush (pc := 13) (v := 9999) hK (by decide) dX11_first_13 ?_
    obtain ⟨z2, hz2, h⟩ := v_bdS h
    refine V.cS (pc := 16) hK (c_X11_within E hL N _ _ _ _ hz2) Y_X11_within cs_RX11_93 dX11_first_16 (by decide) rfl (Nat.le_of_ble_eq_true rfl) ?_
    refine V.if_eq (pc := 19) (tgt := 33) hK dX11_first_19 (by decide) (fun c => ?_) (fun c => ?_)
    · rw [if_pos c] at h
      refine V.iconst (pc := 33) (v := -1) hK (by decide) dX11_first_33 ?_
      exact V.iret (pc := 34) hO dX11_first_34 (v_finI h)
    · rw [if_neg c] at h
      refine V.iload_n (pc := 22) (i := 3) hK rfl dX11_first_22 ?_
      refine V.iconst (pc := 23) (v := 0) hK (by decide) dX11_first_23 ?_
      refine V.ldcw (pc := 24) hK tw_1072 dX11_first_24 ?_
      obtain ⟨z3, hz3, h⟩ := v_bdS h
      refine V.cS (pc := 27) hK (c_X11_within E hL N _ _ _ _ hz3) Y_X11_within cs_RX11_93 dX11_first_27 (by decide) rfl (Nat.le_of_ble_eq_true rfl) ?_
      refine V.if_ne (pc := 30) (tgt := 35) hK dX11_first_30 (by decide) (fun c => ?_) (fun c => ?_)
      · rw [if_neg c] at h
        refine V.ldcw (pc := 35) hK tw_1072 dX11_first_35 ?_
        refine V.istore (pc := 38) (i := 4) (lv' := [(0, _), (1, _), (2, _), (3, _), (4, _)]) hK (by decide) rfl dX11_first_38 ?_
        refine V.iconst (pc := 40) (v := 1) hK (by decide) dX11_first_40 ?_
        refine V.istore (pc := 41) (i := 5) (lv' := [(0, _), (1, _), (2, _), (3, _), (4, _), (5, _)]) hK (by decide) rfl dX11_first_41 ?_
        refine V.pick [1, 2, 3, 4, 5] (l := [(1, _), (2, _), (3, _), (4, _), (5, _)]) rfl ?_
        exact w_X11_first_L43 hL hO N N _ _ _ _ _ _ h
      · rw [if_pos c] at h
        refine V.iconst (pc := 33) (v := -1) hK (by decide) dX11_first_33 ?_
        exact V.iret (pc := 34) hO dX11_first_34 (v_finI h)
set_option maxHeartbeats 4000000 in
set_option maxRecDepth 100000 in
theorem c_X11_back (E : v_E) {sh : v_S} {P : v_P} (hL : v_Lay sh P) (N : Nat) (hPO : v_PO sh P) (x1 : Int32) (M : v_M) {out : Int32 × v_M} (h : f_X11_back N P x1 M = some out) : v_Ct E 3 yX11_back cX11_back 3 (some .int) 0 0 [v_rf E 0, .int x1] sh P M (v_Q1 (some (.int out.1)) sh P out.2) := by
  refine v_Ct.of (by decide +kernel) (Nat.le_of_ble_eq_true rfl) (fun X hO => ?_)
  have hK : v_K E X cX11_back RX11 3 3 := hO.1
  have hO : v_O E X cX11_back RX11 3 3 (some .int) "back" (v_Q1 (some (.int out.1)) sh P out.2) := hO
  show V E X (0, 0) 0 [(0, v_rf E 0), (1, .int x1)] [] sh P M
  unfold f_X11_back at h
  refine V.iload_n (pc := 0) (i := 1) hK rfl dX11_back_0 ?_
  refine V.iconst (pc := 1) (v := 0) hK (by decide) dX11_back_1 ?_
  refine V.iconst (pc := 2) (v := 3) hK (by decide) dX11_back_2 ?_
  obtain ⟨z1, hz1, h⟩ := v_bdS h
  refine V.cS (pc := 3) hK (c_X11_within E hL N _ _ _ _ hz1) Y_X11_within cs_RX11_93 dX11_back_3 (by decide) rfl (Nat.le_of_ble_eq_true rfl) ?_
  refine V.if_ne (pc := 6) (tgt := 11) hK dX11_back_6 (by decide) (fun c => ?_) (fun c => ?_)
  · rw [if_neg c] at h
    refine V.aload_n (pc := 11) (i := 0) hK rfl ⟨_, rfl⟩ dX11_back_11 ?_
    refine V.getR (pc := 12) hK fl_RX11_85 rfl (hL.1 0 _ ls_0) (hL.2 0 12 77 rfl) dX11_back_12 ?_
    refine V.iload_n (pc := 15) (i := 1) hK rfl dX11_back_15 ?_
    obtain ⟨hb, h⟩ := v_ckS h
    cases eqqd16 : (P 77 x1.toNatClampNeg) with
    | none =>
      have h := v_optN eqqd16 h
      refine V.aaldFN (pc := 16) hK (hL.1 77 _ ls_77) (v_ibS hb) eqqd16 dX11_back_16 ?_
      refine V.astore_nN (pc := 17) (i := 2) (lv' := [(0, _), (1, _), (2, _)]) hK (by decide) rfl dX11_back_17 ?_
      refine V.aload_nN (pc := 18) (i := 2) hK rfl dX11_back_18 ?_
      refine V.ifnonnullN (pc := 19) hK dX11_back_19 ?_
      refine V.iconst (pc := 22) (v := -1) hK (by decide) dX11_back_22 ?_
      exact V.iret (pc := 23) hO dX11_back_23 (v_finI h)
    | some qd16 =>
      have h := v_optS eqqd16 h
      have hqd16 := hPO.2 _ _ eqqd16
      refine V.aaldFS (pc := 16) hK (hL.1 77 _ ls_77) (v_ibS hb) eqqd16 dX11_back_16 ?_
      refine V.astore_n (pc := 17) (i := 2) (lv' := [(0, _), (1, _), (2, _)]) hK ⟨_, rfl⟩ (by decide) rfl dX11_back_17 ?_
      refine V.aload_n (pc := 18) (i := 2) hK rfl ⟨_, rfl⟩ dX11_back_18 ?_
      refine V.ifnonnullR (pc := 19) (tgt := 24) hK ⟨_, rfl⟩ dX11_back_19 (by decide) ?_
      refine V.aload_n (pc := 24) (i := 0) hK rfl ⟨_, rfl⟩ dX11_back_24 ?_
      refine V.getR (pc := 25) hK fl_RX11_26 rfl (hL.1 0 _ ls_0) (hL.2 0 3 11 rfl) dX11_back_25 ?_
      refine V.aload_n (pc := 28) (i := 2) hK rfl ⟨_, rfl⟩ dX11_back_28 ?_
      obtain ⟨z2, hz2, h⟩ := v_bdS h
      refine V.cVv (pc := 29) (ci := 4) hK (c_X4_become E hL N _ (v_FlL hL 11 rfl) _ hqd16 _ hz2) Y_X4_become cv_RX11_351 (by decide) rfl (hL.1 11 _ ls_11) dX11_back_29 (by decide) rfl (Nat.le_of_ble_eq_true rfl) ?_
      refine V.aload_n (pc := 32) (i := 0) hK rfl ⟨_, rfl⟩ dX11_back_32 ?_
      refine V.aload_n (pc := 33) (i := 0) hK rfl ⟨_, rfl⟩ dX11_back_33 ?_
      refine V.getR (pc := 34) hK fl_RX11_89 rfl (hL.1 0 _ ls_0) (hL.2 0 13 78 rfl) dX11_back_34 ?_
      refine V.iload_n (pc := 37) (i := 1) hK rfl dX11_back_37 ?_
      obtain ⟨hb, h⟩ := v_ckS h
      refine V.iald (pc := 38) hK (hL.1 78 _ ls_78) (v_ibS hb) dX11_back_38 ?_
      refine V.putI (pc := 39) hK fl_RX11_7 rfl rfl ⟨rfl, rfl⟩ (hL.1 0 _ ls_0) dX11_back_39 ?_
      refine V.nmM (fun M3 eM3 => ?_)
      have h := v_lt eM3 h
      refine V.aload_n (pc := 42) (i := 0) hK rfl ⟨_, rfl⟩ dX11_back_42 ?_
      refine V.getR (pc := 43) hK fl_RX11_67 rfl (hL.1 0 _ ls_0) (hL.2 0 9 52 rfl) dX11_back_43 ?_
      refine V.aload_n (pc := 46) (i := 0) hK rfl ⟨_, rfl⟩ dX11_back_46 ?_
      refine V.getR (pc := 47) hK fl_RX11_26 rfl (hL.1 0 _ ls_0) (hL.2 0 3 11 rfl) dX11_back_47 ?_
      refine V.getI (pc := 50) hK fl_RX11_355 rfl (hL.1 11 _ ls_11) dX11_back_50 ?_
      obtain ⟨z4, hz4, h⟩ := v_bdS h
      refine V.cVv (pc := 53) (ci := 8) hK (c_X8_forgetFrom E hL N _ _ hz4) Y_X8_forgetFrom cv_RX11_356 (by decide) rfl (hL.1 52 _ ls_52) dX11_back_53 (by decide) rfl (Nat.le_of_ble_eq_true rfl) ?_
      refine V.aload_n (pc := 56) (i := 0) hK rfl ⟨_, rfl⟩ dX11_back_56 ?_
      refine V.getR (pc := 57) hK fl_RX11_81 rfl (hL.1 0 _ ls_0) (hL.2 0 11 71 rfl) dX11_back_57 ?_
      refine V.aload_n (pc := 60) (i := 0) hK rfl ⟨_, rfl⟩ dX11_back_60 ?_
      refine V.getR (pc := 61) hK fl_RX11_26 rfl (hL.1 0 _ ls_0) (hL.2 0 3 11 rfl) dX11_back_61 ?_
      refine V.getI (pc := 64) hK fl_RX11_355 rfl (hL.1 11 _ ls_11) dX11_back_64 ?_
      obtain ⟨z5, hz5, h⟩ := v_bdS h
      refine V.cVv (pc := 67) (ci := 6) hK (c_X6_forgetFrom E hL N _ _ hz5) Y_X6_forgetFrom cv_RX11_359 (by decide) rfl (hL.1 71 _ ls_71) dX11_back_67 (by decide) rfl (Nat.le_of_ble_eq_true rfl) ?_
      refine V.aload_n (pc := 70) (i := 0) hK rfl ⟨_, rfl⟩ dX11_back_70 ?_
      refine V.getI (pc := 71) hK fl_RX11_7 rfl (hL.1 0 _ ls_0) dX11_back_71 ?_
      exact V.iret (pc := 74) hO dX11_back_74 (v_finI h)
  · rw [if_pos c] at h
    refine V.iconst (pc := 9) (v := -1) hK (by decide) dX11_back_9 ?_
    exact V.iret (pc := 10) hO dX11_back_10 (v_finI h)
set_option maxHeartbeats 4000000 in
set_option maxRecDepth 100000 in
theorem w_X12_machine_L13 {E : v_E} {X : v_X} {sh : v_S} {P : v_P} {out : Int32 × v_M} (hL : v_Lay sh P) (hO : v_O E X cX12_machine RX12 2 1 (some .int) "machine" (v_Q1 (some (.int out.1)) sh P out.2)) (N : Nat) (n : Nat) : ∀ (x1 : Int32) (M : v_M), f_X12_machine_L13 N n x1 M = some out → V E X (0, 0) 13 [(0, v_rf E 79), (1, .int x1)] [] sh P M := by
  have hK := hO.1
  induction n with
  | zero => intro x1 M h; rw [f_X12_machine_L13] at h; cases h
  | succ n ih =>
    intro x1 M h
    rw [f_X12_machine_L13] at h
    refine V.iload_n (pc := 13) (i := 1) hK rfl dX12_machine_13 ?_
    refine V.bipush (pc := 14) (v := 24) hK (by decide) dX12_machine_14 ?_
    refine V.icmp_ge (pc := 16) (tgt := 34) hK dX12_machine_16 (by decide) (fun c => ?_) (fun c => ?_)
    · rw [if_pos c] at h
      refine V.aload_n (pc := 34) (i := 0) hK rfl ⟨_, rfl⟩ dX12_machine_34 ?_
      refine V.getR (pc := 35) hK fl_RX12_46 rfl (hL.1 79 _ ls_79) (hL.2 79 16 92 rfl) dX12_machine_35 ?_
      refine V.aload_n (pc := 38) (i := 0) hK rfl ⟨_, rfl⟩ dX12_machine_38 ?_
      refine V.getI (pc := 39) hK fl_RX12_239 rfl (hL.1 79 _ ls_79) dX12_machine_39 ?_
      refine V.iconst (pc := 42) (v := 0) hK (by decide) dX12_machine_42 ?_
      obtain ⟨hb, h⟩ := v_ckS h
      refine V.iast (pc := 43) hK (hL.1 92 _ ls_92) (v_ibS hb) dX12_machine_43 ?_
      refine V.nmM (fun M1 eM1 => ?_)
      have h := v_lt eM1 h
      refine V.aload_n (pc := 44) (i := 0) hK rfl ⟨_, rfl⟩ dX12_machine_44 ?_
      refine V.getR (pc := 45) hK fl_RX12_49 rfl (hL.1 79 _ ls_79) (hL.2 79 17 93 rfl) dX12_machine_45 ?_
      refine V.aload_n (pc := 48) (i := 0) hK rfl ⟨_, rfl⟩ dX12_machine_48 ?_
      refine V.getI (pc := 49) hK fl_RX12_239 rfl (hL.1 79 _ ls_79) dX12_machine_49 ?_
      refine V.iconst (pc := 52) (v := 0) hK (by decide) dX12_machine_52 ?_
      obtain ⟨hb, h⟩ := v_ckS h
      refine V.iast (pc := 53) hK (hL.1 93 _ ls_93) (v_ibS hb) dX12_machine_53 ?_
      refine V.nmM (fun M2 eM2 => ?_)
      have h := v_lt eM2 h
      refine V.aload_n (pc := 54) (i := 0) hK rfl ⟨_, rfl⟩ dX12_machine_54 ?_
      refine V.dup (pc := 55) hK rfl dX12_machine_55 ?_
      refine V.getI (pc := 56) hK fl_RX12_239 rfl (hL.1 79 _ ls_79) dX12_machine_56 ?_
      refine V.iconst (pc := 59) (v := 1) hK (by decide) dX12_machine_59 ?_
      refine V.iadd (pc := 60) hK dX12_machine_60 ?_
      refine V.putI (pc := 61) hK fl_RX12_239 rfl rfl ⟨rfl, rfl⟩ (hL.1 79 _ ls_79) dX12_machine_61 ?_
      refine V.nmM (fun M3 eM3 => ?_)
      have h := v_lt eM3 h
      refine V.aload_n (pc := 64) (i := 0) hK rfl ⟨_, rfl⟩ dX12_machine_64 ?_
      refine V.getI (pc := 65) hK fl_RX12_239 rfl (hL.1 79 _ ls_79) dX12_machine_65 ?_
      refine V.iconst (pc := 68) (v := 1) hK (by decide) dX12_machine_68 ?_
      refine V.isub (pc := 69) hK dX12_machine_69 ?_
      exact V.iret (pc := 70) hO dX12_machine_70 (v_finI h)
    · rw [if_neg c] at h
      refine V.aload_n (pc := 19) (i := 0) hK rfl ⟨_, rfl⟩ dX12_machine_19 ?_
      refine V.aload_n (pc := 20) (i := 0) hK rfl ⟨_, rfl⟩ dX12_machine_20 ?_
      refine V.getI (pc := 21) hK fl_RX12_239 rfl (hL.1 79 _ ls_79) dX12_machine_21 ?_
      refine V.iload_n (pc := 24) (i := 1) hK rfl dX12_machine_24 ?_
      obtain ⟨z4, hz4, h⟩ := v_bdS h
      refine V.cVv (pc := 25) (ci := 12) hK (c_X12_clears E hL N _ _ _ hz4) Y_X12_clears cv_RX12_258 (by decide) rfl (hL.1 79 _ ls_79) dX12_machine_25 (by decide) rfl (Nat.le_of_ble_eq_true rfl) ?_
      refine V.iinc (pc := 28) (i := 1) (v := 1) (lv' := [(0, _), (1, _)]) hK rfl (by decide) (by decide) rfl dX12_machine_28 ?_
      refine V.goto (pc := 31) (tgt := 13) hK dX12_machine_31 (by decide) ?_
      refine V.pick [0, 1] (l := [(0, _), (1, _)]) rfl ?_
      exact ih _ _ h
set_option maxHeartbeats 4000000 in
set_option maxRecDepth 100000 in
theorem c_X12_machine (E : v_E) {sh : v_S} {P : v_P} (hL : v_Lay sh P) (N : Nat) (M : v_M) {out : Int32 × v_M} (h : f_X12_machine N M = some out) : v_Ct E 1 yX12_machine cX12_machine 2 (some .int) 0 0 [v_rf E 79] sh P M (v_Q1 (some (.int out.1)) sh P out.2) := by
  refine v_Ct.of (by decide +kernel) (Nat.le_of_ble_eq_true rfl) (fun X hO => ?_)
  have hK : v_K E X cX12_machine RX12 2 1 := hO.1
  have hO : v_O E X cX12_machine RX12 2 1 (some .int) "machine" (v_Q1 (some (.int out.1)) sh P out.2) := hO
  show V E X (0, 0) 0 [(0, v_rf E 79)] [] sh P M
  unfold f_X12_machine at h
  refine V.aload_n (pc := 0) (i := 0) hK rfl ⟨_, rfl⟩ dX12_machine_0 ?_
  refine V.getI (pc := 1) hK fl_RX12_239 rfl (hL.1 79 _ ls_79) dX12_machine_1 ?_
  refine V.bipush (pc := 4) (v := 20) hK (by decide) dX12_machine_4 ?_
  refine V.icmp_ne (pc := 6) (tgt := 11) hK dX12_machine_6 (by decide) (fun c => ?_) (fun c => ?_)
  · rw [if_neg c] at h
    refine V.iconst (pc := 11) (v := 0) hK (by decide) dX12_machine_11 ?_
    refine V.istore_n (pc := 12) (i := 1) (lv' := [(0, _), (1, _)]) hK (by decide) rfl dX12_machine_12 ?_
    refine V.pick [0, 1] (l := [(0, _), (1, _)]) rfl ?_
    exact w_X12_machine_L13 hL hO N N _ _ h
  · rw [if_pos c] at h
    refine V.iconst (pc := 9) (v := -1) hK (by decide) dX12_machine_9 ?_
    exact V.iret (pc := 10) hO dX12_machine_10 (v_finI h)
set_option maxHeartbeats 4000000 in
set_option maxRecDepth 100000 in
theorem c_X12_feed (E : v_E) {sh : v_S} {P : v_P} (hL : v_Lay sh P) (N : Nat) (x1 : Int32) (x2 : Int32) (x3 : Int32) (x4 : Int32) (x5 : Int32) (M : v_M) {out : Int32 × v_M} (h : f_X12_feed N x1 x2 x3 x4 x5 M = some out) : v_Ct E 1 yX12_feed cX12_feed 6 (some .int) 0 0 [v_rf E 79, .int x1, .int x2, .int x3, .int x4, .int x5] sh P M (v_Q1 (some (.int out.1)) sh P out.2) := by
  refine v_Ct.of (by decide +kernel) (Nat.le_of_ble_eq_true rfl) (fun X hO => ?_)
  have hK : v_K E X cX12_feed RX12 6 1 := hO.1
  have hO : v_O E X cX12_feed RX12 6 1 (some .int) "feed" (v_Q1 (some (.int out.1)) sh P out.2) := hO
  show V E X (0, 0) 0 [(0, v_rf E 79), (1, .int x1), (2, .int x2), (3, .int x3), (4, .int x4), (5, .int x5)] [] sh P M
  unfold f_X12_feed at h
  refine V.aload_n (pc := 0) (i := 0) hK rfl ⟨_, rfl⟩ dX12_feed_0 ?_
  refine V.getI (pc := 1) hK fl_RX12_322 rfl (hL.1 79 _ ls_79) dX12_feed_1 ?_
  refine V.bipush (pc := 4) (v := 20) hK (by decide) dX12_feed_4 ?_
  refine V.iadd (pc := 6) hK dX12_feed_6 ?_
  refine V.sipush (pc := 7) (v := 400) hK (by decide) dX12_feed_7 ?_
  refine V.icmp_le (pc := 10) (tgt := 15) hK dX12_feed_10 (by decide) (fun c => ?_) (fun c => ?_)
  · rw [if_pos c] at h
    refine V.aload_n (pc := 15) (i := 0) hK rfl ⟨_, rfl⟩ dX12_feed_15 ?_
    refine V.iload_n (pc := 16) (i := 1) hK rfl dX12_feed_16 ?_
    obtain ⟨z1, hz1, h⟩ := v_bdS h
    refine V.cVv (pc := 17) (ci := 12) hK (c_X12_put E hL N _ _ hz1) Y_X12_put cv_RX12_325 (by decide) rfl (hL.1 79 _ ls_79) dX12_feed_17 (by decide) rfl (Nat.le_of_ble_eq_true rfl) ?_
    refine V.aload_n (pc := 20) (i := 0) hK rfl ⟨_, rfl⟩ dX12_feed_20 ?_
    refine V.iload_n (pc := 21) (i := 2) hK rfl dX12_feed_21 ?_
    obtain ⟨z2, hz2, h⟩ := v_bdS h
    refine V.cVv (pc := 22) (ci := 12) hK (c_X12_put E hL N _ _ hz2) Y_X12_put cv_RX12_325 (by decide) rfl (hL.1 79 _ ls_79) dX12_feed_22 (by decide) rfl (Nat.le_of_ble_eq_true rfl) ?_
    refine V.aload_n (pc := 25) (i := 0) hK rfl ⟨_, rfl⟩ dX12_feed_25 ?_
    refine V.iload_n (pc := 26) (i := 3) hK rfl dX12_feed_26 ?_
    obtain ⟨z3, hz3, h⟩ := v_bdS h
    refine V.cVv (pc := 27) (ci := 12) hK (c_X12_put E hL N _ _ hz3) Y_X12_put cv_RX12_325 (by decide) rfl (hL.1 79 _ ls_79) dX12_feed_27 (by decide) rfl (Nat.le_of_ble_eq_true rfl) ?_
    refine V.aload_n (pc := 30) (i := 0) hK rfl ⟨_, rfl⟩ dX12_feed_30 ?_
    refine V.iload (pc := 31) (i := 4) hK rfl dX12_feed_31 ?_
    obtain ⟨z4, hz4, h⟩ := v_bdS h
    refine V.cVv (pc := 33) (ci := 12) hK (c_X12_put E hL N _ _ hz4) Y_X12_put cv_RX12_325 (by decide) rfl (hL.1 79 _ ls_79) dX12_feed_33 (by decide) rfl (Nat.le_of_ble_eq_true rfl) ?_
    refine V.aload_n (pc := 36) (i := 0) hK rfl ⟨_, rfl⟩ dX12_feed_36 ?_
    refine V.iload (pc := 37) (i := 5) hK rfl dX12_feed_37 ?_
    obtain ⟨z5, hz5, h⟩ := v_bdS h
    refine V.cVv (pc := 39) (ci := 12) hK (c_X12_put E hL N _ _ hz5) Y_X12_put cv_RX12_325 (by decide) rfl (hL.1 79 _ ls_79) dX12_feed_39 (by decide) rfl (Nat.le_of_ble_eq_true rfl) ?_
    refine V.aload_n (pc := 42) (i := 0) hK rfl ⟨_, rfl⟩ dX12_feed_42 ?_
    refine V.getI (pc := 43) hK fl_RX12_322 rfl (hL.1 79 _ ls_79) dX12_feed_43 ?_
    exact V.iret (pc := 46) hO dX12_feed_46 (v_finI h)
  · rw [if_neg c] at h
    refine V.iconst (pc := 13) (v := -1) hK (by decide) dX12_feed_13 ?_
    exact V.iret (pc := 14) hO dX12_feed_14 (v_finI h)
set_option maxHeartbeats 4000000 in
set_option maxRecDepth 100000 in
theorem w_X12_binds_L333 {E : v_E} {X : v_X} {sh : v_S} {P : v_P} {out : Int32 × v_M} (hL : v_Lay sh P) (hO : v_O E X cX12_binds RX12 6 4 none "binds" (v_Q1 (none) sh P out.2)) (N : Nat) (M : v_M) (h : f_X12_binds_L333 N M = some out) : V E X (0, 0) 333 [] [v_rf E 79] sh P M := by
  have hK := hO.1
  unfold f_X12_binds_L333 at h
  refine V.iconst (pc := 333) (v := 1) hK (by decide) dX12_binds_333 ?_
  refine V.goto (pc := 334) (tgt := 338) hK dX12_binds_334 (by decide) ?_
  obtain ⟨hb, h⟩ := v_ckS h
  refine V.putI (pc := 338) hK fl_RX12_489 rfl rfl (v_okZ hb) (hL.1 79 _ ls_79) dX12_binds_338 ?_
  refine V.nmM (fun M1 eM1 => ?_)
  have h := v_lt eM1 h
  exact V.vret (pc := 341) hO dX12_binds_341 (v_finV h)
set_option maxHeartbeats 4000000 in
set_option maxRecDepth 100000 in
theorem w_X12_binds_L312 {E : v_E} {X : v_X} {sh : v_S} {P : v_P} {out : Int32 × v_M} (hL : v_Lay sh P) (hO : v_O E X cX12_binds RX12 6 4 none "binds" (v_Q1 (none) sh P out.2)) (N : Nat) (k150 : Int32 → Int32 → Int32 → v_M → Option (Int32 × v_M)) (hk150 : ∀ (x1 : Int32) (x2 : Int32) (x3 : Int32) (M : v_M), k150 x1 x2 x3 M = some out → V E X (0, 0) 150 [(0, v_rf E 79), (1, .int x1), (2, .int x2), (3, .int x3)] [] sh P M) (x1 : Int32) (x2 : Int32) (x3 : Int32) (M : v_M) (h : f_X12_binds_L312 N k150 x1 x2 x3 M = some out) : V E X (0, 0) 312 [(0, v_rf E 79), (1, .int x1), (2, .int x2), (3, .int x3)] [] sh P M := by
  have hK := hO.1
  unfold f_X12_binds_L312 at h
  refine V.iinc (pc := 312) (i := 3) (v := 1) (lv' := [(0, _), (1, _), (2, _), (3, _)]) hK rfl (by decide) (by decide) rfl dX12_binds_312 ?_
  refine V.goto (pc := 315) (tgt := 150) hK dX12_binds_315 (by decide) ?_
  refine V.pick [0, 1, 2, 3] (l := [(0, _), (1, _), (2, _), (3, _)]) rfl ?_
  exact hk150 _ _ _ _ h
set_option maxHeartbeats 4000000 in
set_option maxRecDepth 100000 in
theorem w_X12_binds_L306 {E : v_E} {X : v_X} {sh : v_S} {P : v_P} {out : Int32 × v_M} (hL : v_Lay sh P) (hO : v_O E X cX12_binds RX12 6 4 none "binds" (v_Q1 (none) sh P out.2)) (N : Nat) (k150 : Int32 → Int32 → Int32 → v_M → Option (Int32 × v_M)) (hk150 : ∀ (x1 : Int32) (x2 : Int32) (x3 : Int32) (M : v_M), k150 x1 x2 x3 M = some out → V E X (0, 0) 150 [(0, v_rf E 79), (1, .int x1), (2, .int x2), (3, .int x3)] [] sh P M) (k236 : Int32 → Int32 → Int32 → Int32 → Int32 → v_M → Option (Int32 × v_M)) (hk236 : ∀ (x1 : Int32) (x2 : Int32) (x3 : Int32) (x4 : Int32) (x5 : Int32) (M : v_M), k236 x1 x2 x3 x4 x5 M = some out → V E X (0, 0) 236 [(0, v_rf E 79), (1, .int x1), (2, .int x2), (3, .int x3), (4, .int x4), (5, .int x5)] [] sh P M) (x1 : Int32) (x2 : Int32) (x3 : Int32) (x4 : Int32) (x5 : Int32) (M : v_M) (h : f_X12_binds_L306 N k150 k236 x1 x2 x3 x4 x5 M = some out) : V E X (0, 0) 306 [(0, v_rf E 79), (1, .int x1), (2, .int x2), (3, .int x3), (4, .int x4), (5, .int x5)] [] sh P M := by
  have hK := hO.1
  unfold f_X12_binds_L306 at h
  refine V.iinc (pc := 306) (i := 5) (v := 1) (lv' := [(0, _), (1, _), (2, _), (3, _), (4, _), (5, _)]) hK rfl (by decide) (by decide) rfl dX12_binds_306 ?_
  refine V.goto (pc := 309) (tgt := 236) hK dX12_binds_309 (by decide) ?_
  refine V.pick [0, 1, 2, 3, 4, 5] (l := [(0, _), (1, _), (2, _), (3, _), (4, _), (5, _)]) rfl ?_
  exact hk236 _ _ _ _ _ _ h
set_option maxHeartbeats 4000000 in
set_option maxRecDepth 100000 in
theorem w_X12_binds_L298 {E : v_E} {X : v_X} {sh : v_S} {P : v_P} {out : Int32 × v_M} (hL : v_Lay sh P) (hO : v_O E X cX12_binds RX12 6 4 none "binds" (v_Q1 (none) sh P out.2)) (N : Nat) (k150 : Int32 → Int32 → Int32 → v_M → Option (Int32 × v_M)) (hk150 : ∀ (x1 : Int32) (x2 : Int32) (x3 : Int32) (M : v_M), k150 x1 x2 x3 M = some out → V E X (0, 0) 150 [(0, v_rf E 79), (1, .int x1), (2, .int x2), (3, .int x3)] [] sh P M) (k236 : Int32 → Int32 → Int32 → Int32 → Int32 → v_M → Option (Int32 × v_M)) (hk236 : ∀ (x1 : Int32) (x2 : Int32) (x3 : Int32) (x4 : Int32) (x5 : Int32) (M : v_M), k236 x1 x2 x3 x4 x5 M = some out → V E X (0, 0) 236 [(0, v_rf E 79), (1, .int x1), (2, .int x2), (3, .int x3), (4, .int x4), (5, .int x5)] [] sh P M) (x1 : Int32) (x2 : Int32) (x3 : Int32) (x4 : Int32) (x5 : Int32) (M : v_M) (h : f_X12_binds_L298 N k150 k236 x1 x2 x3 x4 x5 M = some out) : V E X (0, 0) 298 [(0, v_rf E 79), (1, .int x1), (2, .int x2), (3, .int x3), (4, .int x4), (5, .int x5)] [] sh P M := by
  have hK := hO.1
  unfold f_X12_binds_L298 at h
  refine V.aload_n (pc := 298) (i := 0) hK rfl ⟨_, rfl⟩ dX12_binds_298 ?_
  refine V.iload_n (pc := 299) (i := 3) hK rfl dX12_binds_299 ?_
  refine V.iload (pc := 300) (i := 5) hK rfl dX12_binds_300 ?_
  refine V.iload_n (pc := 302) (i := 2) hK rfl dX12_binds_302 ?_
  obtain ⟨z1, hz1, h⟩ := v_bdS h
  refine V.cVv (pc := 303) (ci := 12) hK (c_X12_binds_ E hL N _ _ _ _ hz1) Y_X12_binds_ cv_RX12_497 (by decide) rfl (hL.1 79 _ ls_79) dX12_binds_303 (by decide) rfl (Nat.le_of_ble_eq_true rfl) ?_
  refine V.pick [0, 1, 2, 3, 4, 5] (l := [(0, _), (1, _), (2, _), (3, _), (4, _), (5, _)]) rfl ?_
  exact w_X12_binds_L306 hL hO N _ hk150 _ hk236 _ _ _ _ _ _ h
set_option maxHeartbeats 4000000 in
set_option maxRecDepth 100000 in
theorem w_X12_binds_L236 {E : v_E} {X : v_X} {sh : v_S} {P : v_P} {out : Int32 × v_M} (hL : v_Lay sh P) (hO : v_O E X cX12_binds RX12 6 4 none "binds" (v_Q1 (none) sh P out.2)) (N : Nat) (k150 : Int32 → Int32 → Int32 → v_M → Option (Int32 × v_M)) (hk150 : ∀ (x1 : Int32) (x2 : Int32) (x3 : Int32) (M : v_M), k150 x1 x2 x3 M = some out → V E X (0, 0) 150 [(0, v_rf E 79), (1, .int x1), (2, .int x2), (3, .int x3)] [] sh P M) (n : Nat) : ∀ (x1 : Int32) (x2 : Int32) (x3 : Int32) (x4 : Int32) (x5 : Int32) (M : v_M), f_X12_binds_L236 N k150 n x1 x2 x3 x4 x5 M = some out → V E X (0, 0) 236 [(0, v_rf E 79), (1, .int x1), (2, .int x2), (3, .int x3), (4, .int x4), (5, .int x5)] [] sh P M := by
  have hK := hO.1
  induction n with
  | zero => intro x1 x2 x3 x4 x5 M h; rw [f_X12_binds_L236] at h; cases h
  | succ n ih =>
    intro x1 x2 x3 x4 x5 M h
    rw [f_X12_binds_L236] at h
    refine V.iload (pc := 236) (i := 5) hK rfl dX12_binds_236 ?_
    refine V.bipush (pc := 238) (v := 12) hK (by decide) dX12_binds_238 ?_
    refine V.iload_n (pc := 240) (i := 3) hK rfl dX12_binds_240 ?_
    refine V.imul (pc := 241) hK dX12_binds_241 ?_
    refine V.aload_n (pc := 242) (i := 0) hK rfl ⟨_, rfl⟩ dX12_binds_242 ?_
    refine V.getR (pc := 243) hK fl_RX12_107 rfl (hL.1 79 _ ls_79) (hL.2 79 45 112 rfl) dX12_binds_243 ?_
    refine V.iload_n (pc := 246) (i := 3) hK rfl dX12_binds_246 ?_
    obtain ⟨hb, h⟩ := v_ckS h
    refine V.iald (pc := 247) hK (hL.1 112 _ ls_112) (v_ibS hb) dX12_binds_247 ?_
    refine V.iadd (pc := 248) hK dX12_binds_248 ?_
    refine V.icmp_ge (pc := 249) (tgt := 312) hK dX12_binds_249 (by decide) (fun c => ?_) (fun c => ?_)
    · rw [if_pos c] at h
      refine V.pick [0, 1, 2, 3] (l := [(0, _), (1, _), (2, _), (3, _)]) rfl ?_
      exact w_X12_binds_L312 hL hO N _ hk150 _ _ _ _ h
    · rw [if_neg c] at h
      refine V.iload (pc := 252) (i := 4) hK rfl dX12_binds_252 ?_
      refine V.if_eq (pc := 254) (tgt := 312) hK dX12_binds_254 (by decide) (fun c => ?_) (fun c => ?_)
      · rw [if_pos c] at h
        refine V.pick [0, 1, 2, 3] (l := [(0, _), (1, _), (2, _), (3, _)]) rfl ?_
        exact w_X12_binds_L312 hL hO N _ hk150 _ _ _ _ h
      · rw [if_neg c] at h
        refine V.aload_n (pc := 257) (i := 0) hK rfl ⟨_, rfl⟩ dX12_binds_257 ?_
        refine V.getR (pc := 258) hK fl_RX12_122 rfl (hL.1 79 _ ls_79) (hL.2 79 50 117 rfl) dX12_binds_258 ?_
        refine V.iload (pc := 261) (i := 5) hK rfl dX12_binds_261 ?_
        obtain ⟨hb, h⟩ := v_ckS h
        refine V.iald (pc := 263) hK (hL.1 117 _ ls_117) (v_ibS hb) dX12_binds_263 ?_
        refine V.aload_n (pc := 264) (i := 0) hK rfl ⟨_, rfl⟩ dX12_binds_264 ?_
        refine V.getR (pc := 265) hK fl_RX12_125 rfl (hL.1 79 _ ls_79) (hL.2 79 51 118 rfl) dX12_binds_265 ?_
        refine V.iload (pc := 268) (i := 5) hK rfl dX12_binds_268 ?_
        obtain ⟨hb, h⟩ := v_ckS h
        refine V.iald (pc := 270) hK (hL.1 118 _ ls_118) (v_ibS hb) dX12_binds_270 ?_
        refine V.icmp_eq (pc := 271) (tgt := 298) hK dX12_binds_271 (by decide) (fun c => ?_) (fun c => ?_)
        · rw [if_pos c] at h
          refine V.pick [0, 1, 2, 3, 4, 5] (l := [(0, _), (1, _), (2, _), (3, _), (4, _), (5, _)]) rfl ?_
          exact w_X12_binds_L298 hL hO N _ hk150 _ ih _ _ _ _ _ _ h
        · rw [if_neg c] at h
          refine V.aload_n (pc := 274) (i := 0) hK rfl ⟨_, rfl⟩ dX12_binds_274 ?_
          refine V.iload_n (pc := 275) (i := 3) hK rfl dX12_binds_275 ?_
          refine V.aload_n (pc := 276) (i := 0) hK rfl ⟨_, rfl⟩ dX12_binds_276 ?_
          refine V.getR (pc := 277) hK fl_RX12_122 rfl (hL.1 79 _ ls_79) (hL.2 79 50 117 rfl) dX12_binds_277 ?_
          refine V.iload (pc := 280) (i := 5) hK rfl dX12_binds_280 ?_
          obtain ⟨hb, h⟩ := v_ckS h
          refine V.iald (pc := 282) hK (hL.1 117 _ ls_117) (v_ibS hb) dX12_binds_282 ?_
          refine V.aload_n (pc := 283) (i := 0) hK rfl ⟨_, rfl⟩ dX12_binds_283 ?_
          refine V.getR (pc := 284) hK fl_RX12_125 rfl (hL.1 79 _ ls_79) (hL.2 79 51 118 rfl) dX12_binds_284 ?_
          refine V.iload (pc := 287) (i := 5) hK rfl dX12_binds_287 ?_
          obtain ⟨hb, h⟩ := v_ckS h
          refine V.iald (pc := 289) hK (hL.1 118 _ ls_118) (v_ibS hb) dX12_binds_289 ?_
          obtain ⟨z1, hz1, h⟩ := v_bdS h
          refine V.cV (pc := 290) (ci := 12) hK (c_X12_answer E hL N _ _ _ _ hz1) Y_X12_answer cv_RX12_493 (by decide) rfl (hL.1 79 _ ls_79) dX12_binds_290 (by decide) rfl (Nat.le_of_ble_eq_true rfl) ?_
          refine V.lconst (pc := 293) (v := 1) hK (by decide) dX12_binds_293 ?_
          refine V.lcmp (pc := 294) hK dX12_binds_294 ?_
          refine V.if_ne (pc := 295) (tgt := 306) hK dX12_binds_295 (by decide) (fun c => ?_) (fun c => ?_)
          · rw [if_neg c] at h
            refine V.pick [0, 1, 2, 3, 4, 5] (l := [(0, _), (1, _), (2, _), (3, _), (4, _), (5, _)]) rfl ?_
            exact w_X12_binds_L306 hL hO N _ hk150 _ ih _ _ _ _ _ _ h
          · rw [if_pos c] at h
            refine V.pick [0, 1, 2, 3, 4, 5] (l := [(0, _), (1, _), (2, _), (3, _), (4, _), (5, _)]) rfl ?_
            exact w_X12_binds_L298 hL hO N _ hk150 _ ih _ _ _ _ _ _ h
set_option maxHeartbeats 4000000 in
set_option maxRecDepth 100000 in
theorem w_X12_binds_L209 {E : v_E} {X : v_X} {sh : v_S} {P : v_P} {out : Int32 × v_M} (hL : v_Lay sh P) (hO : v_O E X cX12_binds RX12 6 4 none "binds" (v_Q1 (none) sh P out.2)) (N : Nat) (k150 : Int32 → Int32 → Int32 → v_M → Option (Int32 × v_M)) (hk150 : ∀ (x1 : Int32) (x2 : Int32) (x3 : Int32) (M : v_M), k150 x1 x2 x3 M = some out → V E X (0, 0) 150 [(0, v_rf E 79), (1, .int x1), (2, .int x2), (3, .int x3)] [] sh P M) (x1 : Int32) (x2 : Int32) (x3 : Int32) (t0 : Int32) (M : v_M) (h : f_X12_binds_L209 N k150 x1 x2 x3 t0 M = some out) : V E X (0, 0) 209 [(0, v_rf E 79), (1, .int x1), (2, .int x2), (3, .int x3)] [.int t0] sh P M := by
  have hK := hO.1
  unfold f_X12_binds_L209 at h
  refine V.istore (pc := 209) (i := 4) (lv' := [(0, _), (1, _), (2, _), (3, _), (4, _)]) hK (by decide) rfl dX12_binds_209 ?_
  refine V.aload_n (pc := 211) (i := 0) hK rfl ⟨_, rfl⟩ dX12_binds_211 ?_
  refine V.getR (pc := 212) hK fl_RX12_131 rfl (hL.1 79 _ ls_79) (hL.2 79 53 120 rfl) dX12_binds_212 ?_
  refine V.bipush (pc := 215) (v := 6) hK (by decide) dX12_binds_215 ?_
  refine V.aload_n (pc := 217) (i := 0) hK rfl ⟨_, rfl⟩ dX12_binds_217 ?_
  refine V.getI (pc := 218) hK fl_RX12_233 rfl (hL.1 79 _ ls_79) dX12_binds_218 ?_
  refine V.aload_n (pc := 221) (i := 0) hK rfl ⟨_, rfl⟩ dX12_binds_221 ?_
  refine V.getR (pc := 222) hK fl_RX12_104 rfl (hL.1 79 _ ls_79) (hL.2 79 44 111 rfl) dX12_binds_222 ?_
  refine V.iload_n (pc := 225) (i := 3) hK rfl dX12_binds_225 ?_
  obtain ⟨hb, h⟩ := v_ckS h
  refine V.iald (pc := 226) hK (hL.1 111 _ ls_111) (v_ibS hb) dX12_binds_226 ?_
  refine V.isub (pc := 227) hK dX12_binds_227 ?_
  refine V.i2l (pc := 228) hK dX12_binds_228 ?_
  obtain ⟨hb, h⟩ := v_ckS h
  refine V.last (pc := 229) hK (hL.1 120 _ ls_120) (v_ibS hb) dX12_binds_229 ?_
  refine V.nmM (fun M1 eM1 => ?_)
  have h := v_lt eM1 h
  refine V.bipush (pc := 230) (v := 12) hK (by decide) dX12_binds_230 ?_
  refine V.iload_n (pc := 232) (i := 3) hK rfl dX12_binds_232 ?_
  refine V.imul (pc := 233) hK dX12_binds_233 ?_
  refine V.topi (fun y2 ey2 => ?_)
  have h := v_lt ey2 h
  refine V.istore (pc := 234) (i := 5) (lv' := [(0, _), (1, _), (2, _), (3, _), (4, _), (5, _)]) hK (by decide) rfl dX12_binds_234 ?_
  refine V.pick [0, 1, 2, 3, 4, 5] (l := [(0, _), (1, _), (2, _), (3, _), (4, _), (5, _)]) rfl ?_
  exact w_X12_binds_L236 hL hO N _ hk150 N _ _ _ _ _ _ h
set_option maxHeartbeats 4000000 in
set_option maxRecDepth 100000 in
theorem w_X12_binds_L208 {E : v_E} {X : v_X} {sh : v_S} {P : v_P} {out : Int32 × v_M} (hL : v_Lay sh P) (hO : v_O E X cX12_binds RX12 6 4 none "binds" (v_Q1 (none) sh P out.2)) (N : Nat) (k150 : Int32 → Int32 → Int32 → v_M → Option (Int32 × v_M)) (hk150 : ∀ (x1 : Int32) (x2 : Int32) (x3 : Int32) (M : v_M), k150 x1 x2 x3 M = some out → V E X (0, 0) 150 [(0, v_rf E 79), (1, .int x1), (2, .int x2), (3, .int x3)] [] sh P M) (x1 : Int32) (x2 : Int32) (x3 : Int32) (M : v_M) (h : f_X12_binds_L208 N k150 x1 x2 x3 M = some out) : V E X (0, 0) 208 [(0, v_rf E 79), (1, .int x1), (2, .int x2), (3, .int x3)] [] sh P M := by
  have hK := hO.1
  unfold f_X12_binds_L208 at h
  refine V.iconst (pc := 208) (v := 0) hK (by decide) dX12_binds_208 ?_
  refine V.pick [0, 1, 2, 3] (l := [(0, _), (1, _), (2, _), (3, _)]) rfl ?_
  exact w_X12_binds_L209 hL hO N _ hk150 _ _ _ _ _ h
set_option maxHeartbeats 4000000 in
set_option maxRecDepth 100000 in
theorem w_X12_binds_L204 {E : v_E} {X : v_X} {sh : v_S} {P : v_P} {out : Int32 × v_M} (hL : v_Lay sh P) (hO : v_O E X cX12_binds RX12 6 4 none "binds" (v_Q1 (none) sh P out.2)) (N : Nat) (k150 : Int32 → Int32 → Int32 → v_M → Option (Int32 × v_M)) (hk150 : ∀ (x1 : Int32) (x2 : Int32) (x3 : Int32) (M : v_M), k150 x1 x2 x3 M = some out → V E X (0, 0) 150 [(0, v_rf E 79), (1, .int x1), (2, .int x2), (3, .int x3)] [] sh P M) (x1 : Int32) (x2 : Int32) (x3 : Int32) (M : v_M) (h : f_X12_binds_L204 N k150 x1 x2 x3 M = some out) : V E X (0, 0) 204 [(0, v_rf E 79), (1, .int x1), (2, .int x2), (3, .int x3)] [] sh P M := by
  have hK := hO.1
  unfold f_X12_binds_L204 at h
  refine V.iconst (pc := 204) (v := 1) hK (by decide) dX12_binds_204 ?_
  refine V.goto (pc := 205) (tgt := 209) hK dX12_binds_205 (by decide) ?_
  refine V.pick [0, 1, 2, 3] (l := [(0, _), (1, _), (2, _), (3, _)]) rfl ?_
  exact w_X12_binds_L209 hL hO N _ hk150 _ _ _ _ _ h
set_option maxHeartbeats 4000000 in
set_option maxRecDepth 100000 in
theorem w_X12_binds_L150 {E : v_E} {X : v_X} {sh : v_S} {P : v_P} {out : Int32 × v_M} (hL : v_Lay sh P) (hO : v_O E X cX12_binds RX12 6 4 none "binds" (v_Q1 (none) sh P out.2)) (N : Nat) (n : Nat) : ∀ (x1 : Int32) (x2 : Int32) (x3 : Int32) (M : v_M), f_X12_binds_L150 N n x1 x2 x3 M = some out → V E X (0, 0) 150 [(0, v_rf E 79), (1, .int x1), (2, .int x2), (3, .int x3)] [] sh P M := by
  have hK := hO.1
  induction n with
  | zero => intro x1 x2 x3 M h; rw [f_X12_binds_L150] at h; cases h
  | succ n ih =>
    intro x1 x2 x3 M h
    rw [f_X12_binds_L150] at h
    refine V.iload_n (pc := 150) (i := 3) hK rfl dX12_binds_150 ?_
    refine V.aload_n (pc := 151) (i := 0) hK rfl ⟨_, rfl⟩ dX12_binds_151 ?_
    refine V.getI (pc := 152) hK fl_RX12_385 rfl (hL.1 79 _ ls_79) dX12_binds_152 ?_
    refine V.icmp_ge (pc := 155) (tgt := 318) hK dX12_binds_155 (by decide) (fun c => ?_) (fun c => ?_)
    · rw [if_pos c] at h
      refine V.aload_n (pc := 318) (i := 0) hK rfl ⟨_, rfl⟩ dX12_binds_318 ?_
      refine V.aload_n (pc := 319) (i := 0) hK rfl ⟨_, rfl⟩ dX12_binds_319 ?_
      refine V.getI (pc := 320) hK fl_RX12_489 rfl (hL.1 79 _ ls_79) dX12_binds_320 ?_
      refine V.if_ne (pc := 323) (tgt := 333) hK dX12_binds_323 (by decide) (fun c => ?_) (fun c => ?_)
      · rw [if_neg c] at h
        refine V.pick [] (l := []) rfl ?_
        exact w_X12_binds_L333 hL hO N  _ h
      · rw [if_pos c] at h
        refine V.aload_n (pc := 326) (i := 0) hK rfl ⟨_, rfl⟩ dX12_binds_326 ?_
        refine V.getI (pc := 327) hK fl_RX12_482 rfl (hL.1 79 _ ls_79) dX12_binds_327 ?_
        refine V.if_eq (pc := 330) (tgt := 337) hK dX12_binds_330 (by decide) (fun c => ?_) (fun c => ?_)
        · rw [if_pos c] at h
          refine V.iconst (pc := 337) (v := 0) hK (by decide) dX12_binds_337 ?_
          obtain ⟨hb, h⟩ := v_ckS h
          refine V.putI (pc := 338) hK fl_RX12_489 rfl rfl (v_okZ hb) (hL.1 79 _ ls_79) dX12_binds_338 ?_
          refine V.nmM (fun M1 eM1 => ?_)
          have h := v_lt eM1 h
          exact V.vret (pc := 341) hO dX12_binds_341 (v_finV h)
        · rw [if_neg c] at h
          refine V.pick [] (l := []) rfl ?_
          exact w_X12_binds_L333 hL hO N  _ h
    · rw [if_neg c] at h
      refine V.aload_n (pc := 158) (i := 0) hK rfl ⟨_, rfl⟩ dX12_binds_158 ?_
      refine V.getR (pc := 159) hK fl_RX12_104 rfl (hL.1 79 _ ls_79) (hL.2 79 44 111 rfl) dX12_binds_159 ?_
      refine V.iload_n (pc := 162) (i := 3) hK rfl dX12_binds_162 ?_
      obtain ⟨hb, h⟩ := v_ckS h
      refine V.iald (pc := 163) hK (hL.1 111 _ ls_111) (v_ibS hb) dX12_binds_163 ?_
      refine V.aload_n (pc := 164) (i := 0) hK rfl ⟨_, rfl⟩ dX12_binds_164 ?_
      refine V.getI (pc := 165) hK fl_RX12_233 rfl (hL.1 79 _ ls_79) dX12_binds_165 ?_
      refine V.icmp_gt (pc := 168) (tgt := 208) hK dX12_binds_168 (by decide) (fun c => ?_) (fun c => ?_)
      · rw [if_pos c] at h
        refine V.pick [0, 1, 2, 3] (l := [(0, _), (1, _), (2, _), (3, _)]) rfl ?_
        exact w_X12_binds_L208 hL hO N _ ih _ _ _ _ h
      · rw [if_neg c] at h
        refine V.aload_n (pc := 171) (i := 0) hK rfl ⟨_, rfl⟩ dX12_binds_171 ?_
        refine V.getR (pc := 172) hK fl_RX12_101 rfl (hL.1 79 _ ls_79) (hL.2 79 43 110 rfl) dX12_binds_172 ?_
        refine V.iload_n (pc := 175) (i := 3) hK rfl dX12_binds_175 ?_
        obtain ⟨hb, h⟩ := v_ckS h
        refine V.iald (pc := 176) hK (hL.1 110 _ ls_110) (v_ibS hb) dX12_binds_176 ?_
        refine V.if_eq (pc := 177) (tgt := 204) hK dX12_binds_177 (by decide) (fun c => ?_) (fun c => ?_)
        · rw [if_pos c] at h
          refine V.pick [0, 1, 2, 3] (l := [(0, _), (1, _), (2, _), (3, _)]) rfl ?_
          exact w_X12_binds_L204 hL hO N _ ih _ _ _ _ h
        · rw [if_neg c] at h
          refine V.aload_n (pc := 180) (i := 0) hK rfl ⟨_, rfl⟩ dX12_binds_180 ?_
          refine V.getR (pc := 181) hK fl_RX12_101 rfl (hL.1 79 _ ls_79) (hL.2 79 43 110 rfl) dX12_binds_181 ?_
          refine V.iload_n (pc := 184) (i := 3) hK rfl dX12_binds_184 ?_
          obtain ⟨hb, h⟩ := v_ckS h
          refine V.iald (pc := 185) hK (hL.1 110 _ ls_110) (v_ibS hb) dX12_binds_185 ?_
          refine V.iconst (pc := 186) (v := 1) hK (by decide) dX12_binds_186 ?_
          refine V.icmp_ne (pc := 187) (tgt := 208) hK dX12_binds_187 (by decide) (fun c => ?_) (fun c => ?_)
          · rw [if_neg c] at h
            refine V.pick [0, 1, 2, 3] (l := [(0, _), (1, _), (2, _), (3, _)]) rfl ?_
            exact w_X12_binds_L208 hL hO N _ ih _ _ _ _ h
          · rw [if_pos c] at h
            refine V.aload_n (pc := 190) (i := 0) hK rfl ⟨_, rfl⟩ dX12_binds_190 ?_
            refine V.getR (pc := 191) hK fl_RX12_49 rfl (hL.1 79 _ ls_79) (hL.2 79 17 93 rfl) dX12_binds_191 ?_
            refine V.iload_n (pc := 194) (i := 1) hK rfl dX12_binds_194 ?_
            obtain ⟨hb, h⟩ := v_ckS h
            refine V.iald (pc := 195) hK (hL.1 93 _ ls_93) (v_ibS hb) dX12_binds_195 ?_
            refine V.iload_n (pc := 196) (i := 3) hK rfl dX12_binds_196 ?_
            refine V.ishr (pc := 197) hK dX12_binds_197 ?_
            refine V.iconst (pc := 198) (v := 1) hK (by decide) dX12_binds_198 ?_
            refine V.iand (pc := 199) hK dX12_binds_199 ?_
            refine V.iconst (pc := 200) (v := 1) hK (by decide) dX12_binds_200 ?_
            refine V.icmp_ne (pc := 201) (tgt := 208) hK dX12_binds_201 (by decide) (fun c => ?_) (fun c => ?_)
            · rw [if_neg c] at h
              refine V.pick [0, 1, 2, 3] (l := [(0, _), (1, _), (2, _), (3, _)]) rfl ?_
              exact w_X12_binds_L208 hL hO N _ ih _ _ _ _ h
            · rw [if_pos c] at h
              refine V.pick [0, 1, 2, 3] (l := [(0, _), (1, _), (2, _), (3, _)]) rfl ?_
              exact w_X12_binds_L204 hL hO N _ ih _ _ _ _ h
set_option maxHeartbeats 4000000 in
set_option maxRecDepth 100000 in
theorem w_X12_binds_L65 {E : v_E} {X : v_X} {sh : v_S} {P : v_P} {out : Int32 × v_M} (hL : v_Lay sh P) (hO : v_O E X cX12_binds RX12 6 4 none "binds" (v_Q1 (none) sh P out.2)) (N : Nat) (n : Nat) : ∀ (x1 : Int32) (x2 : Int32) (x3 : Int32) (M : v_M), f_X12_binds_L65 N n x1 x2 x3 M = some out → V E X (0, 0) 65 [(0, v_rf E 79), (1, .int x1), (2, .int x2), (3, .int x3)] [] sh P M := by
  have hK := hO.1
  induction n with
  | zero => intro x1 x2 x3 M h; rw [f_X12_binds_L65] at h; cases h
  | succ n ih =>
    intro x1 x2 x3 M h
    rw [f_X12_binds_L65] at h
    refine V.iload_n (pc := 65) (i := 3) hK rfl dX12_binds_65 ?_
    refine V.aload_n (pc := 66) (i := 0) hK rfl ⟨_, rfl⟩ dX12_binds_66 ?_
    refine V.getI (pc := 67) hK fl_RX12_236 rfl (hL.1 79 _ ls_79) dX12_binds_67 ?_
    refine V.icmp_ge (pc := 70) (tgt := 121) hK dX12_binds_70 (by decide) (fun c => ?_) (fun c => ?_)
    · rw [if_pos c] at h
      refine V.aload_n (pc := 121) (i := 0) hK rfl ⟨_, rfl⟩ dX12_binds_121 ?_
      refine V.iconst (pc := 122) (v := 0) hK (by decide) dX12_binds_122 ?_
      refine V.putI (pc := 123) hK fl_RX12_479 rfl rfl ⟨rfl, rfl⟩ (hL.1 79 _ ls_79) dX12_binds_123 ?_
      refine V.nmM (fun M1 eM1 => ?_)
      have h := v_lt eM1 h
      refine V.aload_n (pc := 126) (i := 0) hK rfl ⟨_, rfl⟩ dX12_binds_126 ?_
      refine V.iconst (pc := 127) (v := 0) hK (by decide) dX12_binds_127 ?_
      refine V.putI (pc := 128) hK fl_RX12_482 rfl rfl ⟨rfl, rfl⟩ (hL.1 79 _ ls_79) dX12_binds_128 ?_
      refine V.nmM (fun M2 eM2 => ?_)
      have h := v_lt eM2 h
      refine V.aload_n (pc := 131) (i := 0) hK rfl ⟨_, rfl⟩ dX12_binds_131 ?_
      refine V.sipush (pc := 132) (v := 999) hK (by decide) dX12_binds_132 ?_
      refine V.putI (pc := 135) hK fl_RX12_485 rfl rfl ⟨rfl, rfl⟩ (hL.1 79 _ ls_79) dX12_binds_135 ?_
      refine V.nmM (fun M3 eM3 => ?_)
      have h := v_lt eM3 h
      refine V.aload_n (pc := 138) (i := 0) hK rfl ⟨_, rfl⟩ dX12_binds_138 ?_
      refine V.iconst (pc := 139) (v := 0) hK (by decide) dX12_binds_139 ?_
      refine V.putI (pc := 140) hK fl_RX12_487 rfl rfl ⟨rfl, rfl⟩ (hL.1 79 _ ls_79) dX12_binds_140 ?_
      refine V.nmM (fun M4 eM4 => ?_)
      have h := v_lt eM4 h
      refine V.aload_n (pc := 143) (i := 0) hK rfl ⟨_, rfl⟩ dX12_binds_143 ?_
      refine V.iconst (pc := 144) (v := 0) hK (by decide) dX12_binds_144 ?_
      obtain ⟨hb, h⟩ := v_ckS h
      refine V.putI (pc := 145) hK fl_RX12_489 rfl rfl (v_okZ hb) (hL.1 79 _ ls_79) dX12_binds_145 ?_
      refine V.nmM (fun M5 eM5 => ?_)
      have h := v_lt eM5 h
      refine V.iconst (pc := 148) (v := 0) hK (by decide) dX12_binds_148 ?_
      refine V.istore_n (pc := 149) (i := 3) (lv' := [(0, _), (1, _), (2, _), (3, _)]) hK (by decide) rfl dX12_binds_149 ?_
      refine V.pick [0, 1, 2, 3] (l := [(0, _), (1, _), (2, _), (3, _)]) rfl ?_
      exact w_X12_binds_L150 hL hO N N _ _ _ _ h
    · rw [if_neg c] at h
      refine V.aload_n (pc := 73) (i := 0) hK rfl ⟨_, rfl⟩ dX12_binds_73 ?_
      refine V.getR (pc := 74) hK fl_RX12_131 rfl (hL.1 79 _ ls_79) (hL.2 79 53 120 rfl) dX12_binds_74 ?_
      refine V.iconst (pc := 77) (v := 3) hK (by decide) dX12_binds_77 ?_
      refine V.dup2 (pc := 78) hK rfl rfl dX12_binds_78 ?_
      obtain ⟨hb, h⟩ := v_ckS h
      refine V.lald (pc := 79) hK (hL.1 120 _ ls_120) (v_ibS hb) dX12_binds_79 ?_
      refine V.aload_n (pc := 80) (i := 0) hK rfl ⟨_, rfl⟩ dX12_binds_80 ?_
      refine V.getR (pc := 81) hK fl_RX12_40 rfl (hL.1 79 _ ls_79) (hL.2 79 14 90 rfl) dX12_binds_81 ?_
      refine V.bipush (pc := 84) (v := 24) hK (by decide) dX12_binds_84 ?_
      refine V.iload_n (pc := 86) (i := 1) hK rfl dX12_binds_86 ?_
      refine V.imul (pc := 87) hK dX12_binds_87 ?_
      refine V.iload_n (pc := 88) (i := 3) hK rfl dX12_binds_88 ?_
      refine V.iadd (pc := 89) hK dX12_binds_89 ?_
      obtain ⟨hb, h⟩ := v_ckS h
      refine V.iald (pc := 90) hK (hL.1 90 _ ls_90) (v_ibS hb) dX12_binds_90 ?_
      refine V.i2l (pc := 91) hK dX12_binds_91 ?_
      refine V.ladd (pc := 92) hK dX12_binds_92 ?_
      obtain ⟨hb, h⟩ := v_ckS h
      refine V.last (pc := 93) hK (hL.1 120 _ ls_120) (v_ibS hb) dX12_binds_93 ?_
      refine V.nmM (fun M6 eM6 => ?_)
      have h := v_lt eM6 h
      refine V.aload_n (pc := 94) (i := 0) hK rfl ⟨_, rfl⟩ dX12_binds_94 ?_
      refine V.getR (pc := 95) hK fl_RX12_131 rfl (hL.1 79 _ ls_79) (hL.2 79 53 120 rfl) dX12_binds_95 ?_
      refine V.iconst (pc := 98) (v := 4) hK (by decide) dX12_binds_98 ?_
      refine V.dup2 (pc := 99) hK rfl rfl dX12_binds_99 ?_
      obtain ⟨hb, h⟩ := v_ckS h
      refine V.lald (pc := 100) hK (hL.1 120 _ ls_120) (v_ibS hb) dX12_binds_100 ?_
      refine V.aload_n (pc := 101) (i := 0) hK rfl ⟨_, rfl⟩ dX12_binds_101 ?_
      refine V.getR (pc := 102) hK fl_RX12_34 rfl (hL.1 79 _ ls_79) (hL.2 79 12 88 rfl) dX12_binds_102 ?_
      refine V.bipush (pc := 105) (v := 24) hK (by decide) dX12_binds_105 ?_
      refine V.iload_n (pc := 107) (i := 1) hK rfl dX12_binds_107 ?_
      refine V.imul (pc := 108) hK dX12_binds_108 ?_
      refine V.iload_n (pc := 109) (i := 3) hK rfl dX12_binds_109 ?_
      refine V.iadd (pc := 110) hK dX12_binds_110 ?_
      obtain ⟨hb, h⟩ := v_ckS h
      refine V.iald (pc := 111) hK (hL.1 88 _ ls_88) (v_ibS hb) dX12_binds_111 ?_
      refine V.i2l (pc := 112) hK dX12_binds_112 ?_
      refine V.ladd (pc := 113) hK dX12_binds_113 ?_
      obtain ⟨hb, h⟩ := v_ckS h
      refine V.last (pc := 114) hK (hL.1 120 _ ls_120) (v_ibS hb) dX12_binds_114 ?_
      refine V.nmM (fun M7 eM7 => ?_)
      have h := v_lt eM7 h
      refine V.iinc (pc := 115) (i := 3) (v := 1) (lv' := [(0, _), (1, _), (2, _), (3, _)]) hK rfl (by decide) (by decide) rfl dX12_binds_115 ?_
      refine V.goto (pc := 118) (tgt := 65) hK dX12_binds_118 (by decide) ?_
      refine V.pick [0, 1, 2, 3] (l := [(0, _), (1, _), (2, _), (3, _)]) rfl ?_
      exact ih _ _ _ _ h
set_option maxHeartbeats 4000000 in
set_option maxRecDepth 100000 in
theorem c_X12_binds (E : v_E) {sh : v_S} {P : v_P} (hL : v_Lay sh P) (N : Nat) (x1 : Int32) (M : v_M) {out : Int32 × v_M} (h : f_X12_binds N x1 M = some out) : v_Ct E 4 yX12_binds cX12_binds 6 none 0 0 [v_rf E 79, .int x1] sh P M (v_Q1 (none) sh P out.2) := by
  refine v_Ct.of (by decide +kernel) (Nat.le_of_ble_eq_true rfl) (fun X hO => ?_)
  have hK : v_K E X cX12_binds RX12 6 4 := hO.1
  have hO : v_O E X cX12_binds RX12 6 4 none "binds" (v_Q1 (none) sh P out.2) := hO
  show V E X (0, 0) 0 [(0, v_rf E 79), (1, .int x1)] [] sh P M
  unfold f_X12_binds at h
  refine V.aload_n (pc := 0) (i := 0) hK rfl ⟨_, rfl⟩ dX12_binds_0 ?_
  refine V.iload_n (pc := 1) (i := 1) hK rfl dX12_binds_1 ?_
  obtain ⟨z1, hz1, h⟩ := v_bdS h
  refine V.cV (pc := 2) (ci := 12) hK (c_X12_doneOf E hL N _ _ hz1) Y_X12_doneOf cv_RX12_476 (by decide) rfl (hL.1 79 _ ls_79) dX12_binds_2 (by decide) rfl (Nat.le_of_ble_eq_true rfl) ?_
  refine V.topi (fun y2 ey2 => ?_)
  have h := v_lt ey2 h
  refine V.istore_n (pc := 5) (i := 2) (lv' := [(0, _), (1, _), (2, _)]) hK (by decide) rfl dX12_binds_5 ?_
  refine V.aload_n (pc := 6) (i := 0) hK rfl ⟨_, rfl⟩ dX12_binds_6 ?_
  refine V.getR (pc := 7) hK fl_RX12_131 rfl (hL.1 79 _ ls_79) (hL.2 79 53 120 rfl) dX12_binds_7 ?_
  refine V.iconst (pc := 10) (v := 0) hK (by decide) dX12_binds_10 ?_
  refine V.aload_n (pc := 11) (i := 0) hK rfl ⟨_, rfl⟩ dX12_binds_11 ?_
  refine V.getI (pc := 12) hK fl_RX12_233 rfl (hL.1 79 _ ls_79) dX12_binds_12 ?_
  refine V.i2l (pc := 15) hK dX12_binds_15 ?_
  obtain ⟨hb, h⟩ := v_ckS h
  refine V.last (pc := 16) hK (hL.1 120 _ ls_120) (v_ibS hb) dX12_binds_16 ?_
  refine V.nmM (fun M3 eM3 => ?_)
  have h := v_lt eM3 h
  refine V.aload_n (pc := 17) (i := 0) hK rfl ⟨_, rfl⟩ dX12_binds_17 ?_
  refine V.getR (pc := 18) hK fl_RX12_131 rfl (hL.1 79 _ ls_79) (hL.2 79 53 120 rfl) dX12_binds_18 ?_
  refine V.iconst (pc := 21) (v := 1) hK (by decide) dX12_binds_21 ?_
  refine V.iload_n (pc := 22) (i := 1) hK rfl dX12_binds_22 ?_
  refine V.i2l (pc := 23) hK dX12_binds_23 ?_
  obtain ⟨hb, h⟩ := v_ckS h
  refine V.last (pc := 24) hK (hL.1 120 _ ls_120) (v_ibS hb) dX12_binds_24 ?_
  refine V.nmM (fun M4 eM4 => ?_)
  have h := v_lt eM4 h
  refine V.aload_n (pc := 25) (i := 0) hK rfl ⟨_, rfl⟩ dX12_binds_25 ?_
  refine V.getR (pc := 26) hK fl_RX12_131 rfl (hL.1 79 _ ls_79) (hL.2 79 53 120 rfl) dX12_binds_26 ?_
  refine V.iconst (pc := 29) (v := 2) hK (by decide) dX12_binds_29 ?_
  refine V.aload_n (pc := 30) (i := 0) hK rfl ⟨_, rfl⟩ dX12_binds_30 ?_
  refine V.getR (pc := 31) hK fl_RX12_46 rfl (hL.1 79 _ ls_79) (hL.2 79 16 92 rfl) dX12_binds_31 ?_
  refine V.iload_n (pc := 34) (i := 1) hK rfl dX12_binds_34 ?_
  obtain ⟨hb, h⟩ := v_ckS h
  refine V.iald (pc := 35) hK (hL.1 92 _ ls_92) (v_ibS hb) dX12_binds_35 ?_
  refine V.i2l (pc := 36) hK dX12_binds_36 ?_
  obtain ⟨hb, h⟩ := v_ckS h
  refine V.last (pc := 37) hK (hL.1 120 _ ls_120) (v_ibS hb) dX12_binds_37 ?_
  refine V.nmM (fun M5 eM5 => ?_)
  have h := v_lt eM5 h
  refine V.aload_n (pc := 38) (i := 0) hK rfl ⟨_, rfl⟩ dX12_binds_38 ?_
  refine V.getR (pc := 39) hK fl_RX12_131 rfl (hL.1 79 _ ls_79) (hL.2 79 53 120 rfl) dX12_binds_39 ?_
  refine V.iconst (pc := 42) (v := 3) hK (by decide) dX12_binds_42 ?_
  refine V.lconst (pc := 43) (v := 0) hK (by decide) dX12_binds_43 ?_
  obtain ⟨hb, h⟩ := v_ckS h
  refine V.last (pc := 44) hK (hL.1 120 _ ls_120) (v_ibS hb) dX12_binds_44 ?_
  refine V.nmM (fun M6 eM6 => ?_)
  have h := v_lt eM6 h
  refine V.aload_n (pc := 45) (i := 0) hK rfl ⟨_, rfl⟩ dX12_binds_45 ?_
  refine V.getR (pc := 46) hK fl_RX12_131 rfl (hL.1 79 _ ls_79) (hL.2 79 53 120 rfl) dX12_binds_46 ?_
  refine V.iconst (pc := 49) (v := 4) hK (by decide) dX12_binds_49 ?_
  refine V.lconst (pc := 50) (v := 0) hK (by decide) dX12_binds_50 ?_
  obtain ⟨hb, h⟩ := v_ckS h
  refine V.last (pc := 51) hK (hL.1 120 _ ls_120) (v_ibS hb) dX12_binds_51 ?_
  refine V.nmM (fun M7 eM7 => ?_)
  have h := v_lt eM7 h
  refine V.aload_n (pc := 52) (i := 0) hK rfl ⟨_, rfl⟩ dX12_binds_52 ?_
  refine V.getR (pc := 53) hK fl_RX12_131 rfl (hL.1 79 _ ls_79) (hL.2 79 53 120 rfl) dX12_binds_53 ?_
  refine V.iconst (pc := 56) (v := 5) hK (by decide) dX12_binds_56 ?_
  refine V.iload_n (pc := 57) (i := 2) hK rfl dX12_binds_57 ?_
  obtain ⟨z8, hz8, h⟩ := v_bdS h
  refine V.cS (pc := 58) hK (c_X12_bits E hL N _ _ hz8) Y_X12_bits cs_RX12_313 dX12_binds_58 (by decide) rfl (Nat.le_of_ble_eq_true rfl) ?_
  refine V.i2l (pc := 61) hK dX12_binds_61 ?_
  obtain ⟨hb, h⟩ := v_ckS h
  refine V.last (pc := 62) hK (hL.1 120 _ ls_120) (v_ibS hb) dX12_binds_62 ?_
  refine V.nmM (fun M9 eM9 => ?_)
  have h := v_lt eM9 h
  refine V.iconst (pc := 63) (v := 0) hK (by decide) dX12_binds_63 ?_
  refine V.istore_n (pc := 64) (i := 3) (lv' := [(0, _), (1, _), (2, _), (3, _)]) hK (by decide) rfl dX12_binds_64 ?_
  refine V.pick [0, 1, 2, 3] (l := [(0, _), (1, _), (2, _), (3, _)]) rfl ?_
  exact w_X12_binds_L65 hL hO N N _ _ _ _ h
set_option maxHeartbeats 4000000 in
set_option maxRecDepth 100000 in
theorem c_X12_bound (E : v_E) {sh : v_S} {P : v_P} (hL : v_Lay sh P) (N : Nat) (x1 : Int32) (x2 : Int32) (M : v_M) {out : Int32 × v_M} (h : f_X12_bound N x1 x2 M = some out) : v_Ct E 5 yX12_bound cX12_bound 3 (some .int) 0 0 [v_rf E 79, .int x1, .int x2] sh P M (v_Q1 (some (.int out.1)) sh P out.2) := by
  refine v_Ct.of (by decide +kernel) (Nat.le_of_ble_eq_true rfl) (fun X hO => ?_)
  have hK : v_K E X cX12_bound RX12 3 5 := hO.1
  have hO : v_O E X cX12_bound RX12 3 5 (some .int) "bound" (v_Q1 (some (.int out.1)) sh P out.2) := hO
  show V E X (0, 0) 0 [(0, v_rf E 79), (1, .int x1), (2, .int x2)] [] sh P M
  unfold f_X12_bound at h
  refine V.aload_n (pc := 0) (i := 0) hK rfl ⟨_, rfl⟩ dX12_bound_0 ?_
  refine V.iload_n (pc := 1) (i := 1) hK rfl dX12_bound_1 ?_
  obtain ⟨z1, hz1, h⟩ := v_bdS h
  refine V.cV (pc := 2) (ci := 12) hK (c_X12_isMachine E hL N _ _ hz1) Y_X12_isMachine cv_RX12_262 (by decide) rfl (hL.1 79 _ ls_79) dX12_bound_2 (by decide) rfl (Nat.le_of_ble_eq_true rfl) ?_
  refine V.if_eq (pc := 5) (tgt := 20) hK dX12_bound_5 (by decide) (fun c => ?_) (fun c => ?_)
  · rw [if_pos c] at h
    refine V.iconst (pc := 20) (v := -1) hK (by decide) dX12_bound_20 ?_
    exact V.iret (pc := 21) hO dX12_bound_21 (v_finI h)
  · rw [if_neg c] at h
    refine V.iload_n (pc := 8) (i := 2) hK rfl dX12_bound_8 ?_
    refine V.i2l (pc := 9) hK dX12_bound_9 ?_
    refine V.lconst (pc := 10) (v := 0) hK (by decide) dX12_bound_10 ?_
    refine V.ldc2 (pc := 11) hK tw_1662 dX12_bound_11 ?_
    obtain ⟨z2, hz2, h⟩ := v_bdS h
    refine V.cS (pc := 14) hK (c_X12_in E hL N _ _ _ _ hz2) Y_X12_in cs_RX12_229 dX12_bound_14 (by decide) rfl (Nat.le_of_ble_eq_true rfl) ?_
    refine V.if_ne (pc := 17) (tgt := 22) hK dX12_bound_17 (by decide) (fun c => ?_) (fun c => ?_)
    · rw [if_neg c] at h
      refine V.aload_n (pc := 22) (i := 0) hK rfl ⟨_, rfl⟩ dX12_bound_22 ?_
      refine V.iload_n (pc := 23) (i := 1) hK rfl dX12_bound_23 ?_
      obtain ⟨z3, hz3, h⟩ := v_bdS h
      refine V.cVv (pc := 24) (ci := 12) hK (c_X12_binds E hL N _ _ hz3) Y_X12_binds cv_RX12_502 (by decide) rfl (hL.1 79 _ ls_79) dX12_bound_24 (by decide) rfl (Nat.le_of_ble_eq_true rfl) ?_
      refine V.iload_n (pc := 27) (i := 2) hK rfl dX12_bound_27 ?_
      refine V.if_ne (pc := 28) (tgt := 38) hK dX12_bound_28 (by decide) (fun c => ?_) (fun c => ?_)
      · rw [if_neg c] at h
        refine V.iload_n (pc := 38) (i := 2) hK rfl dX12_bound_38 ?_
        refine V.iconst (pc := 39) (v := 1) hK (by decide) dX12_bound_39 ?_
        refine V.icmp_ne (pc := 40) (tgt := 50) hK dX12_bound_40 (by decide) (fun c => ?_) (fun c => ?_)
        · rw [if_neg c] at h
          refine V.iload_n (pc := 50) (i := 2) hK rfl dX12_bound_50 ?_
          refine V.iconst (pc := 51) (v := 2) hK (by decide) dX12_bound_51 ?_
          refine V.icmp_ne (pc := 52) (tgt := 62) hK dX12_bound_52 (by decide) (fun c => ?_) (fun c => ?_)
          · rw [if_neg c] at h
            refine V.iload_n (pc := 62) (i := 2) hK rfl dX12_bound_62 ?_
            refine V.iconst (pc := 63) (v := 3) hK (by decide) dX12_bound_63 ?_
            refine V.icmp_ne (pc := 64) (tgt := 74) hK dX12_bound_64 (by decide) (fun c => ?_) (fun c => ?_)
            · rw [if_neg c] at h
              refine V.aload_n (pc := 74) (i := 0) hK rfl ⟨_, rfl⟩ dX12_bound_74 ?_
              refine V.getI (pc := 75) hK fl_RX12_489 rfl (hL.1 79 _ ls_79) dX12_bound_75 ?_
              refine V.if_eq (pc := 78) (tgt := 85) hK dX12_bound_78 (by decide) (fun c => ?_) (fun c => ?_)
              · rw [if_pos c] at h
                refine V.iconst (pc := 85) (v := 0) hK (by decide) dX12_bound_85 ?_
                exact V.iret (pc := 86) hO dX12_bound_86 (v_finI h)
              · rw [if_neg c] at h
                refine V.iconst (pc := 81) (v := 1) hK (by decide) dX12_bound_81 ?_
                refine V.goto (pc := 82) (tgt := 86) hK dX12_bound_82 (by decide) ?_
                exact V.iret (pc := 86) hO dX12_bound_86 (v_finI h)
            · rw [if_pos c] at h
              refine V.aload_n (pc := 67) (i := 0) hK rfl ⟨_, rfl⟩ dX12_bound_67 ?_
              refine V.getI (pc := 68) hK fl_RX12_487 rfl (hL.1 79 _ ls_79) dX12_bound_68 ?_
              refine V.goto (pc := 71) (tgt := 86) hK dX12_bound_71 (by decide) ?_
              exact V.iret (pc := 86) hO dX12_bound_86 (v_finI h)
          · rw [if_pos c] at h
            refine V.aload_n (pc := 55) (i := 0) hK rfl ⟨_, rfl⟩ dX12_bound_55 ?_
            refine V.getI (pc := 56) hK fl_RX12_485 rfl (hL.1 79 _ ls_79) dX12_bound_56 ?_
            refine V.goto (pc := 59) (tgt := 86) hK dX12_bound_59 (by decide) ?_
            exact V.iret (pc := 86) hO dX12_bound_86 (v_finI h)
        · rw [if_pos c] at h
          refine V.aload_n (pc := 43) (i := 0) hK rfl ⟨_, rfl⟩ dX12_bound_43 ?_
          refine V.getI (pc := 44) hK fl_RX12_482 rfl (hL.1 79 _ ls_79) dX12_bound_44 ?_
          refine V.goto (pc := 47) (tgt := 86) hK dX12_bound_47 (by decide) ?_
          exact V.iret (pc := 86) hO dX12_bound_86 (v_finI h)
      · rw [if_pos c] at h
        refine V.aload_n (pc := 31) (i := 0) hK rfl ⟨_, rfl⟩ dX12_bound_31 ?_
        refine V.getI (pc := 32) hK fl_RX12_479 rfl (hL.1 79 _ ls_79) dX12_bound_32 ?_
        refine V.goto (pc := 35) (tgt := 86) hK dX12_bound_35 (by decide) ?_
        exact V.iret (pc := 86) hO dX12_bound_86 (v_finI h)
    · rw [if_pos c] at h
      refine V.iconst (pc := 20) (v := -1) hK (by decide) dX12_bound_20 ?_
      exact V.iret (pc := 21) hO dX12_bound_21 (v_finI h)
set_option maxHeartbeats 4000000 in
set_option maxRecDepth 100000 in
theorem w_X12_finds_L233 {E : v_E} {X : v_X} {sh : v_S} {P : v_P} {out : Int32 × v_M} (hL : v_Lay sh P) (hO : v_O E X cX12_finds RX12 8 2 (some .boolean) "finds" (v_Q1 (some (.int out.1)) sh P out.2)) (N : Nat) (k42 : Int32 → Int32 → Int32 → v_M → Option (Int32 × v_M)) (hk42 : ∀ (x2 : Int32) (x3 : Int32) (x4 : Int32) (M : v_M), k42 x2 x3 x4 M = some out → V E X (0, 0) 42 [(0, v_rf E 79), (2, .int x2), (3, .int x3), (4, .int x4)] [] sh P M) (k51 : Int32 → Int32 → Int32 → Int32 → v_M → Option (Int32 × v_M)) (hk51 : ∀ (x2 : Int32) (x3 : Int32) (x4 : Int32) (x5 : Int32) (M : v_M), k51 x2 x3 x4 x5 M = some out → V E X (0, 0) 51 [(0, v_rf E 79), (2, .int x2), (3, .int x3), (4, .int x4), (5, .int x5)] [] sh P M) (x2 : Int32) (x3 : Int32) (x4 : Int32) (x5 : Int32) (M : v_M) (h : f_X12_finds_L233 N k42 k51 x2 x3 x4 x5 M = some out) : V E X (0, 0) 233 [(0, v_rf E 79), (2, .int x2), (3, .int x3), (4, .int x4), (5, .int x5)] [] sh P M := by
  have hK := hO.1
  unfold f_X12_finds_L233 at h
  refine V.iinc (pc := 233) (i := 5) (v := 1) (lv' := [(0, _), (2, _), (3, _), (4, _), (5, _)]) hK rfl (by decide) (by decide) rfl dX12_finds_233 ?_
  refine V.goto (pc := 236) (tgt := 51) hK dX12_finds_236 (by decide) ?_
  refine V.pick [0, 2, 3, 4, 5] (l := [(0, _), (2, _), (3, _), (4, _), (5, _)]) rfl ?_
  exact hk51 _ _ _ _ _ h
set_option maxHeartbeats 4000000 in
set_option maxRecDepth 100000 in
theorem w_X12_finds_L227 {E : v_E} {X : v_X} {sh : v_S} {P : v_P} {out : Int32 × v_M} (hL : v_Lay sh P) (hO : v_O E X cX12_finds RX12 8 2 (some .boolean) "finds" (v_Q1 (some (.int out.1)) sh P out.2)) (N : Nat) (k42 : Int32 → Int32 → Int32 → v_M → Option (Int32 × v_M)) (hk42 : ∀ (x2 : Int32) (x3 : Int32) (x4 : Int32) (M : v_M), k42 x2 x3 x4 M = some out → V E X (0, 0) 42 [(0, v_rf E 79), (2, .int x2), (3, .int x3), (4, .int x4)] [] sh P M) (k51 : Int32 → Int32 → Int32 → Int32 → v_M → Option (Int32 × v_M)) (hk51 : ∀ (x2 : Int32) (x3 : Int32) (x4 : Int32) (x5 : Int32) (M : v_M), k51 x2 x3 x4 x5 M = some out → V E X (0, 0) 51 [(0, v_rf E 79), (2, .int x2), (3, .int x3), (4, .int x4), (5, .int x5)] [] sh P M) (k147 : Int32 → Int32 → Int32 → Int32 → Int32 → Int32 → v_M → Option (Int32 × v_M)) (hk147 : ∀ (x2 : Int32) (x3 : Int32) (x4 : Int32) (x5 : Int32) (x6 : Int32) (x7 : Int32) (M : v_M), k147 x2 x3 x4 x5 x6 x7 M = some out → V E X (0, 0) 147 [(0, v_rf E 79), (2, .int x2), (3, .int x3), (4, .int x4), (5, .int x5), (6, .int x6), (7, .int x7)] [] sh P M) (x2 : Int32) (x3 : Int32) (x4 : Int32) (x5 : Int32) (x6 : Int32) (x7 : Int32) (M : v_M) (h : f_X12_finds_L227 N k42 k51 k147 x2 x3 x4 x5 x6 x7 M = some out) : V E X (0, 0) 227 [(0, v_rf E 79), (2, .int x2), (3, .int x3), (4, .int x4), (5, .int x5), (6, .int x6), (7, .int x7)] [] sh P M := by
  have hK := hO.1
  unfold f_X12_finds_L227 at h
  refine V.iinc (pc := 227) (i := 7) (v := 1) (lv' := [(0, _), (2, _), (3, _), (4, _), (5, _), (6, _), (7, _)]) hK rfl (by decide) (by decide) rfl dX12_finds_227 ?_
  refine V.goto (pc := 230) (tgt := 147) hK dX12_finds_230 (by decide) ?_
  refine V.pick [0, 2, 3, 4, 5, 6, 7] (l := [(0, _), (2, _), (3, _), (4, _), (5, _), (6, _), (7, _)]) rfl ?_
  exact hk147 _ _ _ _ _ _ _ h
set_option maxHeartbeats 4000000 in
set_option maxRecDepth 100000 in
theorem w_X12_finds_L147 {E : v_E} {X : v_X} {sh : v_S} {P : v_P} {out : Int32 × v_M} (hL : v_Lay sh P) (hO : v_O E X cX12_finds RX12 8 2 (some .boolean) "finds" (v_Q1 (some (.int out.1)) sh P out.2)) (N : Nat) (k42 : Int32 → Int32 → Int32 → v_M → Option (Int32 × v_M)) (hk42 : ∀ (x2 : Int32) (x3 : Int32) (x4 : Int32) (M : v_M), k42 x2 x3 x4 M = some out → V E X (0, 0) 42 [(0, v_rf E 79), (2, .int x2), (3, .int x3), (4, .int x4)] [] sh P M) (k51 : Int32 → Int32 → Int32 → Int32 → v_M → Option (Int32 × v_M)) (hk51 : ∀ (x2 : Int32) (x3 : Int32) (x4 : Int32) (x5 : Int32) (M : v_M), k51 x2 x3 x4 x5 M = some out → V E X (0, 0) 51 [(0, v_rf E 79), (2, .int x2), (3, .int x3), (4, .int x4), (5, .int x5)] [] sh P M) (n : Nat) : ∀ (x2 : Int32) (x3 : Int32) (x4 : Int32) (x5 : Int32) (x6 : Int32) (x7 : Int32) (M : v_M), f_X12_finds_L147 N k42 k51 n x2 x3 x4 x5 x6 x7 M = some out → V E X (0, 0) 147 [(0, v_rf E 79), (2, .int x2), (3, .int x3), (4, .int x4), (5, .int x5), (6, .int x6), (7, .int x7)] [] sh P M := by
  have hK := hO.1
  induction n with
  | zero => intro x2 x3 x4 x5 x6 x7 M h; rw [f_X12_finds_L147] at h; cases h
  | succ n ih =>
    intro x2 x3 x4 x5 x6 x7 M h
    rw [f_X12_finds_L147] at h
    refine V.iload (pc := 147) (i := 7) hK rfl dX12_finds_147 ?_
    refine V.sipush (pc := 149) (v := 200) hK (by decide) dX12_finds_149 ?_
    refine V.icmp_ge (pc := 152) (tgt := 233) hK dX12_finds_152 (by decide) (fun c => ?_) (fun c => ?_)
    · rw [if_pos c] at h
      refine V.pick [0, 2, 3, 4, 5] (l := [(0, _), (2, _), (3, _), (4, _), (5, _)]) rfl ?_
      exact w_X12_finds_L233 hL hO N _ hk42 _ hk51 _ _ _ _ _ h
    · rw [if_neg c] at h
      refine V.aload_n (pc := 155) (i := 0) hK rfl ⟨_, rfl⟩ dX12_finds_155 ?_
      refine V.getR (pc := 156) hK fl_RX12_181 rfl (hL.1 79 _ ls_79) (hL.2 79 76 136 rfl) dX12_finds_156 ?_
      refine V.iload (pc := 159) (i := 7) hK rfl dX12_finds_159 ?_
      obtain ⟨hb, h⟩ := v_ckS h
      refine V.iald (pc := 161) hK (hL.1 136 _ ls_136) (v_ibS hb) dX12_finds_161 ?_
      refine V.iconst (pc := 162) (v := -1) hK (by decide) dX12_finds_162 ?_
      refine V.icmp_eq (pc := 163) (tgt := 227) hK dX12_finds_163 (by decide) (fun c => ?_) (fun c => ?_)
      · rw [if_pos c] at h
        refine V.pick [0, 2, 3, 4, 5, 6, 7] (l := [(0, _), (2, _), (3, _), (4, _), (5, _), (6, _), (7, _)]) rfl ?_
        exact w_X12_finds_L227 hL hO N _ hk42 _ hk51 _ ih _ _ _ _ _ _ _ h
      · rw [if_neg c] at h
        refine V.aload_n (pc := 166) (i := 0) hK rfl ⟨_, rfl⟩ dX12_finds_166 ?_
        refine V.getR (pc := 167) hK fl_RX12_150 rfl (hL.1 79 _ ls_79) (hL.2 79 66 126 rfl) dX12_finds_167 ?_
        refine V.aload_n (pc := 170) (i := 0) hK rfl ⟨_, rfl⟩ dX12_finds_170 ?_
        refine V.getR (pc := 171) hK fl_RX12_181 rfl (hL.1 79 _ ls_79) (hL.2 79 76 136 rfl) dX12_finds_171 ?_
        refine V.iload (pc := 174) (i := 7) hK rfl dX12_finds_174 ?_
        obtain ⟨hb, h⟩ := v_ckS h
        refine V.iald (pc := 176) hK (hL.1 136 _ ls_136) (v_ibS hb) dX12_finds_176 ?_
        obtain ⟨hb, h⟩ := v_ckS h
        refine V.iald (pc := 177) hK (hL.1 126 _ ls_126) (v_ibS hb) dX12_finds_177 ?_
        refine V.iload (pc := 178) (i := 6) hK rfl dX12_finds_178 ?_
        refine V.icmp_ne (pc := 180) (tgt := 227) hK dX12_finds_180 (by decide) (fun c => ?_) (fun c => ?_)
        · rw [if_neg c] at h
          refine V.pick [0, 2, 3, 4, 5, 6, 7] (l := [(0, _), (2, _), (3, _), (4, _), (5, _), (6, _), (7, _)]) rfl ?_
          exact w_X12_finds_L227 hL hO N _ hk42 _ hk51 _ ih _ _ _ _ _ _ _ h
        · rw [if_pos c] at h
          refine V.aload_n (pc := 183) (i := 0) hK rfl ⟨_, rfl⟩ dX12_finds_183 ?_
          refine V.iload (pc := 184) (i := 7) hK rfl dX12_finds_184 ?_
          refine V.iload_n (pc := 186) (i := 3) hK rfl dX12_finds_186 ?_
          obtain ⟨z1, hz1, h⟩ := v_bdS h
          refine V.cV (pc := 187) (ci := 12) hK (c_X12_isIn E hL N _ _ _ hz1) Y_X12_isIn cv_RX12_519 (by decide) rfl (hL.1 79 _ ls_79) dX12_finds_187 (by decide) rfl (Nat.le_of_ble_eq_true rfl) ?_
          refine V.if_ne (pc := 190) (tgt := 227) hK dX12_finds_190 (by decide) (fun c => ?_) (fun c => ?_)
          · rw [if_neg c] at h
            refine V.pick [0, 2, 3, 4, 5, 6, 7] (l := [(0, _), (2, _), (3, _), (4, _), (5, _), (6, _), (7, _)]) rfl ?_
            exact w_X12_finds_L227 hL hO N _ hk42 _ hk51 _ ih _ _ _ _ _ _ _ h
          · rw [if_pos c] at h
            refine V.aload_n (pc := 193) (i := 0) hK rfl ⟨_, rfl⟩ dX12_finds_193 ?_
            refine V.getR (pc := 194) hK fl_RX12_184 rfl (hL.1 79 _ ls_79) (hL.2 79 77 137 rfl) dX12_finds_194 ?_
            refine V.iload (pc := 197) (i := 7) hK rfl dX12_finds_197 ?_
            refine V.aload_n (pc := 199) (i := 0) hK rfl ⟨_, rfl⟩ dX12_finds_199 ?_
            refine V.getR (pc := 200) hK fl_RX12_190 rfl (hL.1 79 _ ls_79) (hL.2 79 79 139 rfl) dX12_finds_200 ?_
            refine V.iload (pc := 203) (i := 4) hK rfl dX12_finds_203 ?_
            obtain ⟨hb, h⟩ := v_ckS h
            refine V.iald (pc := 205) hK (hL.1 139 _ ls_139) (v_ibS hb) dX12_finds_205 ?_
            obtain ⟨hb, h⟩ := v_ckS h
            refine V.iast (pc := 206) hK (hL.1 137 _ ls_137) (v_ibS hb) dX12_finds_206 ?_
            refine V.nmM (fun M2 eM2 => ?_)
            have h := v_lt eM2 h
            refine V.aload_n (pc := 207) (i := 0) hK rfl ⟨_, rfl⟩ dX12_finds_207 ?_
            refine V.getR (pc := 208) hK fl_RX12_187 rfl (hL.1 79 _ ls_79) (hL.2 79 78 138 rfl) dX12_finds_208 ?_
            refine V.iload (pc := 211) (i := 7) hK rfl dX12_finds_211 ?_
            refine V.iload (pc := 213) (i := 5) hK rfl dX12_finds_213 ?_
            obtain ⟨hb, h⟩ := v_ckS h
            refine V.iast (pc := 215) hK (hL.1 138 _ ls_138) (v_ibS hb) dX12_finds_215 ?_
            refine V.nmM (fun M3 eM3 => ?_)
            have h := v_lt eM3 h
            refine V.aload_n (pc := 216) (i := 0) hK rfl ⟨_, rfl⟩ dX12_finds_216 ?_
            refine V.getR (pc := 217) hK fl_RX12_190 rfl (hL.1 79 _ ls_79) (hL.2 79 79 139 rfl) dX12_finds_217 ?_
            refine V.iload_n (pc := 220) (i := 3) hK rfl dX12_finds_220 ?_
            refine V.iload (pc := 221) (i := 7) hK rfl dX12_finds_221 ?_
            obtain ⟨hb, h⟩ := v_ckS h
            refine V.iast (pc := 223) hK (hL.1 139 _ ls_139) (v_ibS hb) dX12_finds_223 ?_
            refine V.nmM (fun M4 eM4 => ?_)
            have h := v_lt eM4 h
            refine V.iinc (pc := 224) (i := 3) (v := 1) (lv' := [(0, _), (2, _), (3, _), (4, _), (5, _), (6, _), (7, _)]) hK rfl (by decide) (by decide) rfl dX12_finds_224 ?_
            refine V.pick [0, 2, 3, 4, 5, 6, 7] (l := [(0, _), (2, _), (3, _), (4, _), (5, _), (6, _), (7, _)]) rfl ?_
            exact w_X12_finds_L227 hL hO N _ hk42 _ hk51 _ ih _ _ _ _ _ _ _ h
set_option maxHeartbeats 4000000 in
set_option maxRecDepth 100000 in
theorem w_X12_finds_L51 {E : v_E} {X : v_X} {sh : v_S} {P : v_P} {out : Int32 × v_M} (hL : v_Lay sh P) (hO : v_O E X cX12_finds RX12 8 2 (some .boolean) "finds" (v_Q1 (some (.int out.1)) sh P out.2)) (N : Nat) (k42 : Int32 → Int32 → Int32 → v_M → Option (Int32 × v_M)) (hk42 : ∀ (x2 : Int32) (x3 : Int32) (x4 : Int32) (M : v_M), k42 x2 x3 x4 M = some out → V E X (0, 0) 42 [(0, v_rf E 79), (2, .int x2), (3, .int x3), (4, .int x4)] [] sh P M) (n : Nat) : ∀ (x2 : Int32) (x3 : Int32) (x4 : Int32) (x5 : Int32) (M : v_M), f_X12_finds_L51 N k42 n x2 x3 x4 x5 M = some out → V E X (0, 0) 51 [(0, v_rf E 79), (2, .int x2), (3, .int x3), (4, .int x4), (5, .int x5)] [] sh P M := by
  have hK := hO.1
  induction n with
  | zero => intro x2 x3 x4 x5 M h; rw [f_X12_finds_L51] at h; cases h
  | succ n ih =>
    intro x2 x3 x4 x5 M h
    rw [f_X12_finds_L51] at h
    refine V.iload (pc := 51) (i := 5) hK rfl dX12_finds_51 ?_
    refine V.aload_n (pc := 53) (i := 0) hK rfl ⟨_, rfl⟩ dX12_finds_53 ?_
    refine V.getI (pc := 54) hK fl_RX12_473 rfl (hL.1 79 _ ls_79) dX12_finds_54 ?_
    refine V.icmp_ge (pc := 57) (tgt := 239) hK dX12_finds_57 (by decide) (fun c => ?_) (fun c => ?_)
    · rw [if_pos c] at h
      refine V.iinc (pc := 239) (i := 4) (v := 1) (lv' := [(0, _), (2, _), (3, _), (4, _), (5, _)]) hK rfl (by decide) (by decide) rfl dX12_finds_239 ?_
      refine V.goto (pc := 242) (tgt := 42) hK dX12_finds_242 (by decide) ?_
      refine V.pick [0, 2, 3, 4] (l := [(0, _), (2, _), (3, _), (4, _)]) rfl ?_
      exact hk42 _ _ _ _ h
    · rw [if_neg c] at h
      refine V.aload_n (pc := 60) (i := 0) hK rfl ⟨_, rfl⟩ dX12_finds_60 ?_
      refine V.getR (pc := 61) hK fl_RX12_150 rfl (hL.1 79 _ ls_79) (hL.2 79 66 126 rfl) dX12_finds_61 ?_
      refine V.iload (pc := 64) (i := 5) hK rfl dX12_finds_64 ?_
      obtain ⟨hb, h⟩ := v_ckS h
      refine V.iald (pc := 66) hK (hL.1 126 _ ls_126) (v_ibS hb) dX12_finds_66 ?_
      refine V.topi (fun y1 ey1 => ?_)
      have h := v_lt ey1 h
      refine V.istore (pc := 67) (i := 6) (lv' := [(0, _), (2, _), (3, _), (4, _), (5, _), (6, _)]) hK (by decide) rfl dX12_finds_67 ?_
      refine V.aload_n (pc := 69) (i := 0) hK rfl ⟨_, rfl⟩ dX12_finds_69 ?_
      refine V.iload (pc := 70) (i := 5) hK rfl dX12_finds_70 ?_
      refine V.aload_n (pc := 72) (i := 0) hK rfl ⟨_, rfl⟩ dX12_finds_72 ?_
      refine V.getR (pc := 73) hK fl_RX12_190 rfl (hL.1 79 _ ls_79) (hL.2 79 79 139 rfl) dX12_finds_73 ?_
      refine V.iload (pc := 76) (i := 4) hK rfl dX12_finds_76 ?_
      obtain ⟨hb, h⟩ := v_ckS h
      refine V.iald (pc := 78) hK (hL.1 139 _ ls_139) (v_ibS hb) dX12_finds_78 ?_
      refine V.iload_n (pc := 79) (i := 2) hK rfl dX12_finds_79 ?_
      obtain ⟨z2, hz2, h⟩ := v_bdS h
      refine V.cV (pc := 80) (ci := 12) hK (c_X12_fits E hL N _ _ _ _ hz2) Y_X12_fits cv_RX12_512 (by decide) rfl (hL.1 79 _ ls_79) dX12_finds_80 (by decide) rfl (Nat.le_of_ble_eq_true rfl) ?_
      refine V.if_eq (pc := 83) (tgt := 233) hK dX12_finds_83 (by decide) (fun c => ?_) (fun c => ?_)
      · rw [if_pos c] at h
        refine V.pick [0, 2, 3, 4, 5] (l := [(0, _), (2, _), (3, _), (4, _), (5, _)]) rfl ?_
        exact w_X12_finds_L233 hL hO N _ hk42 _ ih _ _ _ _ _ h
      · rw [if_neg c] at h
        refine V.aload_n (pc := 86) (i := 0) hK rfl ⟨_, rfl⟩ dX12_finds_86 ?_
        refine V.getR (pc := 87) hK fl_RX12_172 rfl (hL.1 79 _ ls_79) (hL.2 79 73 133 rfl) dX12_finds_87 ?_
        refine V.iload (pc := 90) (i := 6) hK rfl dX12_finds_90 ?_
        obtain ⟨hb, h⟩ := v_ckS h
        refine V.zald (pc := 92) hK (hL.1 133 _ ls_133) (v_ibS hb) dX12_finds_92 ?_
        refine V.if_eq (pc := 93) (tgt := 99) hK dX12_finds_93 (by decide) (fun c => ?_) (fun c => ?_)
        · rw [if_pos c] at h
          refine V.aload_n (pc := 99) (i := 0) hK rfl ⟨_, rfl⟩ dX12_finds_99 ?_
          refine V.getR (pc := 100) hK fl_RX12_172 rfl (hL.1 79 _ ls_79) (hL.2 79 73 133 rfl) dX12_finds_100 ?_
          refine V.iload (pc := 103) (i := 6) hK rfl dX12_finds_103 ?_
          refine V.iconst (pc := 105) (v := 1) hK (by decide) dX12_finds_105 ?_
          obtain ⟨hb, h⟩ := v_ckS h
          refine V.zast (pc := 106) hK (hL.1 133 _ ls_133) (v_ibS hb) dX12_finds_106 ?_
          refine V.nmM (fun M3 eM3 => ?_)
          have h := v_lt eM3 h
          refine V.aload_n (pc := 107) (i := 0) hK rfl ⟨_, rfl⟩ dX12_finds_107 ?_
          refine V.getR (pc := 108) hK fl_RX12_153 rfl (hL.1 79 _ ls_79) (hL.2 79 67 127 rfl) dX12_finds_108 ?_
          refine V.iload (pc := 111) (i := 6) hK rfl dX12_finds_111 ?_
          obtain ⟨hb, h⟩ := v_ckS h
          refine V.iald (pc := 113) hK (hL.1 127 _ ls_127) (v_ibS hb) dX12_finds_113 ?_
          refine V.iconst (pc := 114) (v := 2) hK (by decide) dX12_finds_114 ?_
          refine V.icmp_ge (pc := 115) (tgt := 144) hK dX12_finds_115 (by decide) (fun c => ?_) (fun c => ?_)
          · rw [if_pos c] at h
            refine V.iconst (pc := 144) (v := 0) hK (by decide) dX12_finds_144 ?_
            refine V.istore (pc := 145) (i := 7) (lv' := [(0, _), (2, _), (3, _), (4, _), (5, _), (6, _), (7, _)]) hK (by decide) rfl dX12_finds_145 ?_
            refine V.pick [0, 2, 3, 4, 5, 6, 7] (l := [(0, _), (2, _), (3, _), (4, _), (5, _), (6, _), (7, _)]) rfl ?_
            exact w_X12_finds_L147 hL hO N _ hk42 _ ih N _ _ _ _ _ _ _ h
          · rw [if_neg c] at h
            refine V.aload_n (pc := 118) (i := 0) hK rfl ⟨_, rfl⟩ dX12_finds_118 ?_
            refine V.getR (pc := 119) hK fl_RX12_153 rfl (hL.1 79 _ ls_79) (hL.2 79 67 127 rfl) dX12_finds_119 ?_
            refine V.iload (pc := 122) (i := 6) hK rfl dX12_finds_122 ?_
            refine V.dup2 (pc := 124) hK rfl rfl dX12_finds_124 ?_
            obtain ⟨hb, h⟩ := v_ckS h
            refine V.iald (pc := 125) hK (hL.1 127 _ ls_127) (v_ibS hb) dX12_finds_125 ?_
            refine V.iconst (pc := 126) (v := 1) hK (by decide) dX12_finds_126 ?_
            refine V.iadd (pc := 127) hK dX12_finds_127 ?_
            obtain ⟨hb, h⟩ := v_ckS h
            refine V.iast (pc := 128) hK (hL.1 127 _ ls_127) (v_ibS hb) dX12_finds_128 ?_
            refine V.nmM (fun M4 eM4 => ?_)
            have h := v_lt eM4 h
            refine V.aload_n (pc := 129) (i := 0) hK rfl ⟨_, rfl⟩ dX12_finds_129 ?_
            refine V.aload_n (pc := 130) (i := 0) hK rfl ⟨_, rfl⟩ dX12_finds_130 ?_
            refine V.getR (pc := 131) hK fl_RX12_190 rfl (hL.1 79 _ ls_79) (hL.2 79 79 139 rfl) dX12_finds_131 ?_
            refine V.iload (pc := 134) (i := 4) hK rfl dX12_finds_134 ?_
            obtain ⟨hb, h⟩ := v_ckS h
            refine V.iald (pc := 136) hK (hL.1 139 _ ls_139) (v_ibS hb) dX12_finds_136 ?_
            refine V.iload (pc := 137) (i := 5) hK rfl dX12_finds_137 ?_
            obtain ⟨z5, hz5, h⟩ := v_bdS h
            refine V.cVv (pc := 139) (ci := 12) hK (c_X12_gives E hL N _ _ _ hz5) Y_X12_gives cv_RX12_516 (by decide) rfl (hL.1 79 _ ls_79) dX12_finds_139 (by decide) rfl (Nat.le_of_ble_eq_true rfl) ?_
            refine V.iconst (pc := 142) (v := 1) hK (by decide) dX12_finds_142 ?_
            obtain ⟨hb, h⟩ := v_ckS h
            exact V.zret (pc := 143) hO (v_z01 hb) dX12_finds_143 (v_finI h)
        · rw [if_neg c] at h
          refine V.goto (pc := 96) (tgt := 233) hK dX12_finds_96 (by decide) ?_
          refine V.pick [0, 2, 3, 4, 5] (l := [(0, _), (2, _), (3, _), (4, _), (5, _)]) rfl ?_
          exact w_X12_finds_L233 hL hO N _ hk42 _ ih _ _ _ _ _ h
set_option maxHeartbeats 4000000 in
set_option maxRecDepth 100000 in
theorem w_X12_finds_L42 {E : v_E} {X : v_X} {sh : v_S} {P : v_P} {out : Int32 × v_M} (hL : v_Lay sh P) (hO : v_O E X cX12_finds RX12 8 2 (some .boolean) "finds" (v_Q1 (some (.int out.1)) sh P out.2)) (N : Nat) (n : Nat) : ∀ (x2 : Int32) (x3 : Int32) (x4 : Int32) (M : v_M), f_X12_finds_L42 N n x2 x3 x4 M = some out → V E X (0, 0) 42 [(0, v_rf E 79), (2, .int x2), (3, .int x3), (4, .int x4)] [] sh P M := by
  have hK := hO.1
  induction n with
  | zero => intro x2 x3 x4 M h; rw [f_X12_finds_L42] at h; cases h
  | succ n ih =>
    intro x2 x3 x4 M h
    rw [f_X12_finds_L42] at h
    refine V.iload (pc := 42) (i := 4) hK rfl dX12_finds_42 ?_
    refine V.iload_n (pc := 44) (i := 3) hK rfl dX12_finds_44 ?_
    refine V.icmp_ge (pc := 45) (tgt := 245) hK dX12_finds_45 (by decide) (fun c => ?_) (fun c => ?_)
    · rw [if_pos c] at h
      refine V.iconst (pc := 245) (v := 0) hK (by decide) dX12_finds_245 ?_
      obtain ⟨hb, h⟩ := v_ckS h
      exact V.zret (pc := 246) hO (v_z01 hb) dX12_finds_246 (v_finI h)
    · rw [if_neg c] at h
      refine V.iconst (pc := 48) (v := 0) hK (by decide) dX12_finds_48 ?_
      refine V.istore (pc := 49) (i := 5) (lv' := [(0, _), (2, _), (3, _), (4, _), (5, _)]) hK (by decide) rfl dX12_finds_49 ?_
      refine V.pick [0, 2, 3, 4, 5] (l := [(0, _), (2, _), (3, _), (4, _), (5, _)]) rfl ?_
      exact w_X12_finds_L51 hL hO N _ ih N _ _ _ _ _ h
set_option maxHeartbeats 4000000 in
set_option maxRecDepth 100000 in
theorem w_X12_finds_L2 {E : v_E} {X : v_X} {sh : v_S} {P : v_P} {out : Int32 × v_M} (hL : v_Lay sh P) (hO : v_O E X cX12_finds RX12 8 2 (some .boolean) "finds" (v_Q1 (some (.int out.1)) sh P out.2)) (N : Nat) (n : Nat) : ∀ (x1 : Int32) (x2 : Int32) (x3 : Int32) (M : v_M), f_X12_finds_L2 N n x1 x2 x3 M = some out → V E X (0, 0) 2 [(0, v_rf E 79), (1, .int x1), (2, .int x2), (3, .int x3)] [] sh P M := by
  have hK := hO.1
  induction n with
  | zero => intro x1 x2 x3 M h; rw [f_X12_finds_L2] at h; cases h
  | succ n ih =>
    intro x1 x2 x3 M h
    rw [f_X12_finds_L2] at h
    refine V.iload_n (pc := 2) (i := 3) hK rfl dX12_finds_2 ?_
    refine V.aload_n (pc := 3) (i := 0) hK rfl ⟨_, rfl⟩ dX12_finds_3 ?_
    refine V.getI (pc := 4) hK fl_RX12_473 rfl (hL.1 79 _ ls_79) dX12_finds_4 ?_
    refine V.icmp_ge (pc := 7) (tgt := 23) hK dX12_finds_7 (by decide) (fun c => ?_) (fun c => ?_)
    · rw [if_pos c] at h
      refine V.iconst (pc := 23) (v := 1) hK (by decide) dX12_finds_23 ?_
      refine V.istore_n (pc := 24) (i := 3) (lv' := [(0, _), (1, _), (2, _), (3, _)]) hK (by decide) rfl dX12_finds_24 ?_
      refine V.aload_n (pc := 25) (i := 0) hK rfl ⟨_, rfl⟩ dX12_finds_25 ?_
      refine V.getR (pc := 26) hK fl_RX12_190 rfl (hL.1 79 _ ls_79) (hL.2 79 79 139 rfl) dX12_finds_26 ?_
      refine V.iconst (pc := 29) (v := 0) hK (by decide) dX12_finds_29 ?_
      refine V.iload_n (pc := 30) (i := 1) hK rfl dX12_finds_30 ?_
      obtain ⟨hb, h⟩ := v_ckS h
      refine V.iast (pc := 31) hK (hL.1 139 _ ls_139) (v_ibS hb) dX12_finds_31 ?_
      refine V.nmM (fun M1 eM1 => ?_)
      have h := v_lt eM1 h
      refine V.aload_n (pc := 32) (i := 0) hK rfl ⟨_, rfl⟩ dX12_finds_32 ?_
      refine V.getR (pc := 33) hK fl_RX12_184 rfl (hL.1 79 _ ls_79) (hL.2 79 77 137 rfl) dX12_finds_33 ?_
      refine V.iload_n (pc := 36) (i := 1) hK rfl dX12_finds_36 ?_
      refine V.iconst (pc := 37) (v := -1) hK (by decide) dX12_finds_37 ?_
      obtain ⟨hb, h⟩ := v_ckS h
      refine V.iast (pc := 38) hK (hL.1 137 _ ls_137) (v_ibS hb) dX12_finds_38 ?_
      refine V.nmM (fun M2 eM2 => ?_)
      have h := v_lt eM2 h
      refine V.iconst (pc := 39) (v := 0) hK (by decide) dX12_finds_39 ?_
      refine V.istore (pc := 40) (i := 4) (lv' := [(0, _), (1, _), (2, _), (3, _), (4, _)]) hK (by decide) rfl dX12_finds_40 ?_
      refine V.pick [0, 2, 3, 4] (l := [(0, _), (2, _), (3, _), (4, _)]) rfl ?_
      exact w_X12_finds_L42 hL hO N N _ _ _ _ h
    · rw [if_neg c] at h
      refine V.aload_n (pc := 10) (i := 0) hK rfl ⟨_, rfl⟩ dX12_finds_10 ?_
      refine V.getR (pc := 11) hK fl_RX12_172 rfl (hL.1 79 _ ls_79) (hL.2 79 73 133 rfl) dX12_finds_11 ?_
      refine V.iload_n (pc := 14) (i := 3) hK rfl dX12_finds_14 ?_
      refine V.iconst (pc := 15) (v := 0) hK (by decide) dX12_finds_15 ?_
      obtain ⟨hb, h⟩ := v_ckS h
      refine V.zast (pc := 16) hK (hL.1 133 _ ls_133) (v_ibS hb) dX12_finds_16 ?_
      refine V.nmM (fun M3 eM3 => ?_)
      have h := v_lt eM3 h
      refine V.iinc (pc := 17) (i := 3) (v := 1) (lv' := [(0, _), (1, _), (2, _), (3, _)]) hK rfl (by decide) (by decide) rfl dX12_finds_17 ?_
      refine V.goto (pc := 20) (tgt := 2) hK dX12_finds_20 (by decide) ?_
      refine V.pick [0, 1, 2, 3] (l := [(0, _), (1, _), (2, _), (3, _)]) rfl ?_
      exact ih _ _ _ _ h
set_option maxHeartbeats 4000000 in
set_option maxRecDepth 100000 in
theorem c_X12_finds (E : v_E) {sh : v_S} {P : v_P} (hL : v_Lay sh P) (N : Nat) (x1 : Int32) (x2 : Int32) (M : v_M) {out : Int32 × v_M} (h : f_X12_finds N x1 x2 M = some out) : v_Ct E 2 yX12_finds cX12_finds 8 (some .boolean) 0 0 [v_rf E 79, .int x1, .int x2] sh P M (v_Q1 (some (.int out.1)) sh P out.2) := by
  refine v_Ct.of (by decide +kernel) (Nat.le_of_ble_eq_true rfl) (fun X hO => ?_)
  have hK : v_K E X cX12_finds RX12 8 2 := hO.1
  have hO : v_O E X cX12_finds RX12 8 2 (some .boolean) "finds" (v_Q1 (some (.int out.1)) sh P out.2) := hO
  show V E X (0, 0) 0 [(0, v_rf E 79), (1, .int x1), (2, .int x2)] [] sh P M
  unfold f_X12_finds at h
  refine V.iconst (pc := 0) (v := 0) hK (by decide) dX12_finds_0 ?_
  refine V.istore_n (pc := 1) (i := 3) (lv' := [(0, _), (1, _), (2, _), (3, _)]) hK (by decide) rfl dX12_finds_1 ?_
  refine V.pick [0, 1, 2, 3] (l := [(0, _), (1, _), (2, _), (3, _)]) rfl ?_
  exact w_X12_finds_L2 hL hO N N _ _ _ _ h
set_option maxHeartbeats 4000000 in
set_option maxRecDepth 100000 in
theorem w_X12_canBe_L139 {E : v_E} {X : v_X} {sh : v_S} {P : v_P} {out : Int32 × v_M} (hL : v_Lay sh P) (hO : v_O E X cX12_canBe RX12 6 3 (some .boolean) "canBe" (v_Q1 (some (.int out.1)) sh P out.2)) (N : Nat) (k94 : Int32 → Int32 → Int32 → Int32 → v_M → Option (Int32 × v_M)) (hk94 : ∀ (x1 : Int32) (x3 : Int32) (x4 : Int32) (x5 : Int32) (M : v_M), k94 x1 x3 x4 x5 M = some out → V E X (0, 0) 94 [(0, v_rf E 79), (1, .int x1), (3, .int x3), (4, .int x4), (5, .int x5)] [] sh P M) (x1 : Int32) (x3 : Int32) (x5 : Int32) (t0 : Int32) (M : v_M) (h : f_X12_canBe_L139 N k94 x1 x3 x5 t0 M = some out) : V E X (0, 0) 139 [(0, v_rf E 79), (1, .int x1), (3, .int x3), (5, .int x5)] [.int t0] sh P M := by
  have hK := hO.1
  unfold f_X12_canBe_L139 at h
  refine V.istore (pc := 139) (i := 4) (lv' := [(0, _), (1, _), (3, _), (4, _), (5, _)]) hK (by decide) rfl dX12_canBe_139 ?_
  refine V.iinc (pc := 141) (i := 5) (v := 1) (lv' := [(0, _), (1, _), (3, _), (4, _), (5, _)]) hK rfl (by decide) (by decide) rfl dX12_canBe_141 ?_
  refine V.goto (pc := 144) (tgt := 94) hK dX12_canBe_144 (by decide) ?_
  refine V.pick [0, 1, 3, 4, 5] (l := [(0, _), (1, _), (3, _), (4, _), (5, _)]) rfl ?_
  exact hk94 _ _ _ _ _ h
set_option maxHeartbeats 4000000 in
set_option maxRecDepth 100000 in
theorem w_X12_canBe_L134 {E : v_E} {X : v_X} {sh : v_S} {P : v_P} {out : Int32 × v_M} (hL : v_Lay sh P) (hO : v_O E X cX12_canBe RX12 6 3 (some .boolean) "canBe" (v_Q1 (some (.int out.1)) sh P out.2)) (N : Nat) (k94 : Int32 → Int32 → Int32 → Int32 → v_M → Option (Int32 × v_M)) (hk94 : ∀ (x1 : Int32) (x3 : Int32) (x4 : Int32) (x5 : Int32) (M : v_M), k94 x1 x3 x4 x5 M = some out → V E X (0, 0) 94 [(0, v_rf E 79), (1, .int x1), (3, .int x3), (4, .int x4), (5, .int x5)] [] sh P M) (x1 : Int32) (x3 : Int32) (x5 : Int32) (M : v_M) (h : f_X12_canBe_L134 N k94 x1 x3 x5 M = some out) : V E X (0, 0) 134 [(0, v_rf E 79), (1, .int x1), (3, .int x3), (5, .int x5)] [] sh P M := by
  have hK := hO.1
  unfold f_X12_canBe_L134 at h
  refine V.iconst (pc := 134) (v := 1) hK (by decide) dX12_canBe_134 ?_
  refine V.goto (pc := 135) (tgt := 139) hK dX12_canBe_135 (by decide) ?_
  refine V.pick [0, 1, 3, 5] (l := [(0, _), (1, _), (3, _), (5, _)]) rfl ?_
  exact w_X12_canBe_L139 hL hO N _ hk94 _ _ _ _ _ h
set_option maxHeartbeats 4000000 in
set_option maxRecDepth 100000 in
theorem w_X12_canBe_L94 {E : v_E} {X : v_X} {sh : v_S} {P : v_P} {out : Int32 × v_M} (hL : v_Lay sh P) (hO : v_O E X cX12_canBe RX12 6 3 (some .boolean) "canBe" (v_Q1 (some (.int out.1)) sh P out.2)) (N : Nat) (n : Nat) : ∀ (x1 : Int32) (x3 : Int32) (x4 : Int32) (x5 : Int32) (M : v_M), f_X12_canBe_L94 N n x1 x3 x4 x5 M = some out → V E X (0, 0) 94 [(0, v_rf E 79), (1, .int x1), (3, .int x3), (4, .int x4), (5, .int x5)] [] sh P M := by
  have hK := hO.1
  induction n with
  | zero => intro x1 x3 x4 x5 M h; rw [f_X12_canBe_L94] at h; cases h
  | succ n ih =>
    intro x1 x3 x4 x5 M h
    rw [f_X12_canBe_L94] at h
    refine V.iload (pc := 94) (i := 5) hK rfl dX12_canBe_94 ?_
    refine V.sipush (pc := 96) (v := 200) hK (by decide) dX12_canBe_96 ?_
    refine V.icmp_ge (pc := 99) (tgt := 147) hK dX12_canBe_99 (by decide) (fun c => ?_) (fun c => ?_)
    · rw [if_pos c] at h
      refine V.iload (pc := 147) (i := 4) hK rfl dX12_canBe_147 ?_
      obtain ⟨hb, h⟩ := v_ckS h
      exact V.zret (pc := 149) hO (v_z01 hb) dX12_canBe_149 (v_finI h)
    · rw [if_neg c] at h
      refine V.iload (pc := 102) (i := 4) hK rfl dX12_canBe_102 ?_
      refine V.if_eq (pc := 104) (tgt := 147) hK dX12_canBe_104 (by decide) (fun c => ?_) (fun c => ?_)
      · rw [if_pos c] at h
        refine V.iload (pc := 147) (i := 4) hK rfl dX12_canBe_147 ?_
        obtain ⟨hb, h⟩ := v_ckS h
        exact V.zret (pc := 149) hO (v_z01 hb) dX12_canBe_149 (v_finI h)
      · rw [if_neg c] at h
        refine V.aload_n (pc := 107) (i := 0) hK rfl ⟨_, rfl⟩ dX12_canBe_107 ?_
        refine V.getR (pc := 108) hK fl_RX12_175 rfl (hL.1 79 _ ls_79) (hL.2 79 74 134 rfl) dX12_canBe_108 ?_
        refine V.iload (pc := 111) (i := 5) hK rfl dX12_canBe_111 ?_
        obtain ⟨hb, h⟩ := v_ckS h
        refine V.iald (pc := 113) hK (hL.1 134 _ ls_134) (v_ibS hb) dX12_canBe_113 ?_
        refine V.iconst (pc := 114) (v := -1) hK (by decide) dX12_canBe_114 ?_
        refine V.icmp_eq (pc := 115) (tgt := 134) hK dX12_canBe_115 (by decide) (fun c => ?_) (fun c => ?_)
        · rw [if_pos c] at h
          refine V.pick [0, 1, 3, 5] (l := [(0, _), (1, _), (3, _), (5, _)]) rfl ?_
          exact w_X12_canBe_L134 hL hO N _ ih _ _ _ _ h
        · rw [if_neg c] at h
          refine V.iload (pc := 118) (i := 5) hK rfl dX12_canBe_118 ?_
          refine V.iload_n (pc := 120) (i := 3) hK rfl dX12_canBe_120 ?_
          refine V.icmp_eq (pc := 121) (tgt := 134) hK dX12_canBe_121 (by decide) (fun c => ?_) (fun c => ?_)
          · rw [if_pos c] at h
            refine V.pick [0, 1, 3, 5] (l := [(0, _), (1, _), (3, _), (5, _)]) rfl ?_
            exact w_X12_canBe_L134 hL hO N _ ih _ _ _ _ h
          · rw [if_neg c] at h
            refine V.aload_n (pc := 124) (i := 0) hK rfl ⟨_, rfl⟩ dX12_canBe_124 ?_
            refine V.iload (pc := 125) (i := 5) hK rfl dX12_canBe_125 ?_
            refine V.iload_n (pc := 127) (i := 1) hK rfl dX12_canBe_127 ?_
            obtain ⟨z1, hz1, h⟩ := v_bdS h
            refine V.cV (pc := 128) (ci := 12) hK (c_X12_finds E hL N _ _ _ hz1) Y_X12_finds cv_RX12_522 (by decide) rfl (hL.1 79 _ ls_79) dX12_canBe_128 (by decide) rfl (Nat.le_of_ble_eq_true rfl) ?_
            refine V.if_eq (pc := 131) (tgt := 138) hK dX12_canBe_131 (by decide) (fun c => ?_) (fun c => ?_)
            · rw [if_pos c] at h
              refine V.iconst (pc := 138) (v := 0) hK (by decide) dX12_canBe_138 ?_
              refine V.pick [0, 1, 3, 5] (l := [(0, _), (1, _), (3, _), (5, _)]) rfl ?_
              exact w_X12_canBe_L139 hL hO N _ ih _ _ _ _ _ h
            · rw [if_neg c] at h
              refine V.pick [0, 1, 3, 5] (l := [(0, _), (1, _), (3, _), (5, _)]) rfl ?_
              exact w_X12_canBe_L134 hL hO N _ ih _ _ _ _ h
set_option maxHeartbeats 4000000 in
set_option maxRecDepth 100000 in
theorem w_X12_canBe_L88 {E : v_E} {X : v_X} {sh : v_S} {P : v_P} {out : Int32 × v_M} (hL : v_Lay sh P) (hO : v_O E X cX12_canBe RX12 6 3 (some .boolean) "canBe" (v_Q1 (some (.int out.1)) sh P out.2)) (N : Nat) (x1 : Int32) (x3 : Int32) (M : v_M) (h : f_X12_canBe_L88 N x1 x3 M = some out) : V E X (0, 0) 88 [(0, v_rf E 79), (1, .int x1), (3, .int x3)] [] sh P M := by
  have hK := hO.1
  unfold f_X12_canBe_L88 at h
  refine V.iconst (pc := 88) (v := 1) hK (by decide) dX12_canBe_88 ?_
  refine V.istore (pc := 89) (i := 4) (lv' := [(0, _), (1, _), (3, _), (4, _)]) hK (by decide) rfl dX12_canBe_89 ?_
  refine V.iconst (pc := 91) (v := 0) hK (by decide) dX12_canBe_91 ?_
  refine V.istore (pc := 92) (i := 5) (lv' := [(0, _), (1, _), (3, _), (4, _), (5, _)]) hK (by decide) rfl dX12_canBe_92 ?_
  refine V.pick [0, 1, 3, 4, 5] (l := [(0, _), (1, _), (3, _), (4, _), (5, _)]) rfl ?_
  exact w_X12_canBe_L94 hL hO N N _ _ _ _ _ h
set_option maxHeartbeats 4000000 in
set_option maxRecDepth 100000 in
theorem w_X12_canBe_L87 {E : v_E} {X : v_X} {sh : v_S} {P : v_P} {out : Int32 × v_M} (hL : v_Lay sh P) (hO : v_O E X cX12_canBe RX12 6 3 (some .boolean) "canBe" (v_Q1 (some (.int out.1)) sh P out.2)) (N : Nat) (x1 : Int32) (t0 : Int32) (M : v_M) (h : f_X12_canBe_L87 N x1 t0 M = some out) : V E X (0, 0) 87 [(0, v_rf E 79), (1, .int x1)] [.int t0] sh P M := by
  have hK := hO.1
  unfold f_X12_canBe_L87 at h
  refine V.istore_n (pc := 87) (i := 3) (lv' := [(0, _), (1, _), (3, _)]) hK (by decide) rfl dX12_canBe_87 ?_
  refine V.pick [0, 1, 3] (l := [(0, _), (1, _), (3, _)]) rfl ?_
  exact w_X12_canBe_L88 hL hO N _ _ _ h
set_option maxHeartbeats 4000000 in
set_option maxRecDepth 100000 in
theorem w_X12_canBe_L25 {E : v_E} {X : v_X} {sh : v_S} {P : v_P} {out : Int32 × v_M} (hL : v_Lay sh P) (hO : v_O E X cX12_canBe RX12 6 3 (some .boolean) "canBe" (v_Q1 (some (.int out.1)) sh P out.2)) (N : Nat) (n : Nat) : ∀ (x1 : Int32) (x2 : Int32) (x3 : Int32) (M : v_M), f_X12_canBe_L25 N n x1 x2 x3 M = some out → V E X (0, 0) 25 [(0, v_rf E 79), (1, .int x1), (2, .int x2), (3, .int x3)] [] sh P M := by
  have hK := hO.1
  induction n with
  | zero => intro x1 x2 x3 M h; rw [f_X12_canBe_L25] at h; cases h
  | succ n ih =>
    intro x1 x2 x3 M h
    rw [f_X12_canBe_L25] at h
    refine V.iload_n (pc := 25) (i := 3) hK rfl dX12_canBe_25 ?_
    refine V.sipush (pc := 26) (v := 200) hK (by decide) dX12_canBe_26 ?_
    refine V.icmp_ge (pc := 29) (tgt := 45) hK dX12_canBe_29 (by decide) (fun c => ?_) (fun c => ?_)
    · rw [if_pos c] at h
      refine V.iconst (pc := 45) (v := -1) hK (by decide) dX12_canBe_45 ?_
      refine V.istore_n (pc := 46) (i := 3) (lv' := [(0, _), (1, _), (2, _), (3, _)]) hK (by decide) rfl dX12_canBe_46 ?_
      refine V.iload_n (pc := 47) (i := 2) hK rfl dX12_canBe_47 ?_
      refine V.iconst (pc := 48) (v := -1) hK (by decide) dX12_canBe_48 ?_
      refine V.icmp_eq (pc := 49) (tgt := 88) hK dX12_canBe_49 (by decide) (fun c => ?_) (fun c => ?_)
      · rw [if_pos c] at h
        refine V.pick [0, 1, 3] (l := [(0, _), (1, _), (3, _)]) rfl ?_
        exact w_X12_canBe_L88 hL hO N _ _ _ h
      · rw [if_neg c] at h
        refine V.aload_n (pc := 52) (i := 0) hK rfl ⟨_, rfl⟩ dX12_canBe_52 ?_
        refine V.getR (pc := 53) hK fl_RX12_153 rfl (hL.1 79 _ ls_79) (hL.2 79 67 127 rfl) dX12_canBe_53 ?_
        refine V.aload_n (pc := 56) (i := 0) hK rfl ⟨_, rfl⟩ dX12_canBe_56 ?_
        refine V.getR (pc := 57) hK fl_RX12_150 rfl (hL.1 79 _ ls_79) (hL.2 79 66 126 rfl) dX12_canBe_57 ?_
        refine V.iload_n (pc := 60) (i := 2) hK rfl dX12_canBe_60 ?_
        obtain ⟨hb, h⟩ := v_ckS h
        refine V.iald (pc := 61) hK (hL.1 126 _ ls_126) (v_ibS hb) dX12_canBe_61 ?_
        refine V.iconst (pc := 62) (v := 1) hK (by decide) dX12_canBe_62 ?_
        obtain ⟨hb, h⟩ := v_ckS h
        refine V.iast (pc := 63) hK (hL.1 127 _ ls_127) (v_ibS hb) dX12_canBe_63 ?_
        refine V.nmM (fun M1 eM1 => ?_)
        have h := v_lt eM1 h
        refine V.aload_n (pc := 64) (i := 0) hK rfl ⟨_, rfl⟩ dX12_canBe_64 ?_
        refine V.iload_n (pc := 65) (i := 2) hK rfl dX12_canBe_65 ?_
        refine V.aload_n (pc := 66) (i := 0) hK rfl ⟨_, rfl⟩ dX12_canBe_66 ?_
        refine V.iload_n (pc := 67) (i := 2) hK rfl dX12_canBe_67 ?_
        obtain ⟨z2, hz2, h⟩ := v_bdS h
        refine V.cV (pc := 68) (ci := 12) hK (c_X12_needOf E hL N _ _ hz2) Y_X12_needOf cv_RX12_509 (by decide) rfl (hL.1 79 _ ls_79) dX12_canBe_68 (by decide) rfl (Nat.le_of_ble_eq_true rfl) ?_
        refine V.iconst (pc := 71) (v := -1) hK (by decide) dX12_canBe_71 ?_
        obtain ⟨z3, hz3, h⟩ := v_bdS h
        refine V.cV (pc := 72) (ci := 12) hK (c_X12_fits E hL N _ _ _ _ hz3) Y_X12_fits cv_RX12_512 (by decide) rfl (hL.1 79 _ ls_79) dX12_canBe_72 (by decide) rfl (Nat.le_of_ble_eq_true rfl) ?_
        refine V.if_eq (pc := 75) (tgt := 86) hK dX12_canBe_75 (by decide) (fun c => ?_) (fun c => ?_)
        · rw [if_pos c] at h
          refine V.iconst (pc := 86) (v := -1) hK (by decide) dX12_canBe_86 ?_
          refine V.pick [0, 1] (l := [(0, _), (1, _)]) rfl ?_
          exact w_X12_canBe_L87 hL hO N _ _ _ h
        · rw [if_neg c] at h
          refine V.aload_n (pc := 78) (i := 0) hK rfl ⟨_, rfl⟩ dX12_canBe_78 ?_
          refine V.iload_n (pc := 79) (i := 2) hK rfl dX12_canBe_79 ?_
          obtain ⟨z4, hz4, h⟩ := v_bdS h
          refine V.cV (pc := 80) (ci := 12) hK (c_X12_needOf E hL N _ _ hz4) Y_X12_needOf cv_RX12_509 (by decide) rfl (hL.1 79 _ ls_79) dX12_canBe_80 (by decide) rfl (Nat.le_of_ble_eq_true rfl) ?_
          refine V.goto (pc := 83) (tgt := 87) hK dX12_canBe_83 (by decide) ?_
          refine V.pick [0, 1] (l := [(0, _), (1, _)]) rfl ?_
          exact w_X12_canBe_L87 hL hO N _ _ _ h
    · rw [if_neg c] at h
      refine V.aload_n (pc := 32) (i := 0) hK rfl ⟨_, rfl⟩ dX12_canBe_32 ?_
      refine V.getR (pc := 33) hK fl_RX12_181 rfl (hL.1 79 _ ls_79) (hL.2 79 76 136 rfl) dX12_canBe_33 ?_
      refine V.iload_n (pc := 36) (i := 3) hK rfl dX12_canBe_36 ?_
      refine V.iconst (pc := 37) (v := -1) hK (by decide) dX12_canBe_37 ?_
      obtain ⟨hb, h⟩ := v_ckS h
      refine V.iast (pc := 38) hK (hL.1 136 _ ls_136) (v_ibS hb) dX12_canBe_38 ?_
      refine V.nmM (fun M5 eM5 => ?_)
      have h := v_lt eM5 h
      refine V.iinc (pc := 39) (i := 3) (v := 1) (lv' := [(0, _), (1, _), (2, _), (3, _)]) hK rfl (by decide) (by decide) rfl dX12_canBe_39 ?_
      refine V.goto (pc := 42) (tgt := 25) hK dX12_canBe_42 (by decide) ?_
      refine V.pick [0, 1, 2, 3] (l := [(0, _), (1, _), (2, _), (3, _)]) rfl ?_
      exact ih _ _ _ _ h
set_option maxHeartbeats 4000000 in
set_option maxRecDepth 100000 in
theorem w_X12_canBe_L2 {E : v_E} {X : v_X} {sh : v_S} {P : v_P} {out : Int32 × v_M} (hL : v_Lay sh P) (hO : v_O E X cX12_canBe RX12 6 3 (some .boolean) "canBe" (v_Q1 (some (.int out.1)) sh P out.2)) (N : Nat) (n : Nat) : ∀ (x1 : Int32) (x2 : Int32) (x3 : Int32) (M : v_M), f_X12_canBe_L2 N n x1 x2 x3 M = some out → V E X (0, 0) 2 [(0, v_rf E 79), (1, .int x1), (2, .int x2), (3, .int x3)] [] sh P M := by
  have hK := hO.1
  induction n with
  | zero => intro x1 x2 x3 M h; rw [f_X12_canBe_L2] at h; cases h
  | succ n ih =>
    intro x1 x2 x3 M h
    rw [f_X12_canBe_L2] at h
    refine V.iload_n (pc := 2) (i := 3) hK rfl dX12_canBe_2 ?_
    refine V.aload_n (pc := 3) (i := 0) hK rfl ⟨_, rfl⟩ dX12_canBe_3 ?_
    refine V.getI (pc := 4) hK fl_RX12_473 rfl (hL.1 79 _ ls_79) dX12_canBe_4 ?_
    refine V.icmp_ge (pc := 7) (tgt := 23) hK dX12_canBe_7 (by decide) (fun c => ?_) (fun c => ?_)
    · rw [if_pos c] at h
      refine V.iconst (pc := 23) (v := 0) hK (by decide) dX12_canBe_23 ?_
      refine V.istore_n (pc := 24) (i := 3) (lv' := [(0, _), (1, _), (2, _), (3, _)]) hK (by decide) rfl dX12_canBe_24 ?_
      refine V.pick [0, 1, 2, 3] (l := [(0, _), (1, _), (2, _), (3, _)]) rfl ?_
      exact w_X12_canBe_L25 hL hO N N _ _ _ _ h
    · rw [if_neg c] at h
      refine V.aload_n (pc := 10) (i := 0) hK rfl ⟨_, rfl⟩ dX12_canBe_10 ?_
      refine V.getR (pc := 11) hK fl_RX12_153 rfl (hL.1 79 _ ls_79) (hL.2 79 67 127 rfl) dX12_canBe_11 ?_
      refine V.iload_n (pc := 14) (i := 3) hK rfl dX12_canBe_14 ?_
      refine V.iconst (pc := 15) (v := 0) hK (by decide) dX12_canBe_15 ?_
      obtain ⟨hb, h⟩ := v_ckS h
      refine V.iast (pc := 16) hK (hL.1 127 _ ls_127) (v_ibS hb) dX12_canBe_16 ?_
      refine V.nmM (fun M1 eM1 => ?_)
      have h := v_lt eM1 h
      refine V.iinc (pc := 17) (i := 3) (v := 1) (lv' := [(0, _), (1, _), (2, _), (3, _)]) hK rfl (by decide) (by decide) rfl dX12_canBe_17 ?_
      refine V.goto (pc := 20) (tgt := 2) hK dX12_canBe_20 (by decide) ?_
      refine V.pick [0, 1, 2, 3] (l := [(0, _), (1, _), (2, _), (3, _)]) rfl ?_
      exact ih _ _ _ _ h
set_option maxHeartbeats 4000000 in
set_option maxRecDepth 100000 in
theorem c_X12_canBe (E : v_E) {sh : v_S} {P : v_P} (hL : v_Lay sh P) (N : Nat) (x1 : Int32) (x2 : Int32) (M : v_M) {out : Int32 × v_M} (h : f_X12_canBe N x1 x2 M = some out) : v_Ct E 3 yX12_canBe cX12_canBe 6 (some .boolean) 0 0 [v_rf E 79, .int x1, .int x2] sh P M (v_Q1 (some (.int out.1)) sh P out.2) := by
  refine v_Ct.of (by decide +kernel) (Nat.le_of_ble_eq_true rfl) (fun X hO => ?_)
  have hK : v_K E X cX12_canBe RX12 6 3 := hO.1
  have hO : v_O E X cX12_canBe RX12 6 3 (some .boolean) "canBe" (v_Q1 (some (.int out.1)) sh P out.2) := hO
  show V E X (0, 0) 0 [(0, v_rf E 79), (1, .int x1), (2, .int x2)] [] sh P M
  unfold f_X12_canBe at h
  refine V.iconst (pc := 0) (v := 0) hK (by decide) dX12_canBe_0 ?_
  refine V.istore_n (pc := 1) (i := 3) (lv' := [(0, _), (1, _), (2, _), (3, _)]) hK (by decide) rfl dX12_canBe_1 ?_
  refine V.pick [0, 1, 2, 3] (l := [(0, _), (1, _), (2, _), (3, _)]) rfl ?_
  exact w_X12_canBe_L2 hL hO N N _ _ _ _ h
