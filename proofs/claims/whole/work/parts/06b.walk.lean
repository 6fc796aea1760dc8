set_option maxHeartbeats 4000000 in
set_option maxRecDepth 100000 in
theorem c_X11_feed (E : v_E) {sh : v_S} {P : v_P} (hL : v_Lay sh P) (N : Nat) (x1 : Int32) (x2 : Int32) (x3 : Int32) (x4 : Int32) (x5 : Int32) (M : v_M) {out : Int32 × v_M} (h : f_X11_feed N x1 x2 x3 x4 x5 M = some out) : v_Ct E 1 yX11_feed cX11_feed 7 (some .int) 0 0 [v_rf E 0, .int x1, .int x2, .int x3, .int x4, .int x5] sh P M (v_Q1 (some (.int out.1)) sh P out.2) := by
  refine v_Ct.of (by decide +kernel) (Nat.le_of_ble_eq_true rfl) (fun X hO => ?_)
  have hK : v_K E X cX11_feed RX11 7 1 := hO.1
  have hO : v_O E X cX11_feed RX11 7 1 (some .int) "feed" (v_Q1 (some (.int out.1)) sh P out.2) := hO
  show V E X (0, 0) 0 [(0, v_rf E 0), (1, .int x1), (2, .int x2), (3, .int x3), (4, .int x4), (5, .int x5)] [] sh P M
  unfold f_X11_feed at h
  refine V.aload_n (pc := 0) (i := 0) hK rfl ⟨_, rfl⟩ dX11_feed_0 ?_
  refine V.getR (pc := 1) hK fl_RX11_47 rfl (hL.1 0 _ ls_0) (hL.2 0 6 35 rfl) dX11_feed_1 ?_
  refine V.getR (pc := 4) hK fl_RX11_216 rfl (hL.1 35 _ ls_35) (hL.2 35 0 36 rfl) dX11_feed_4 ?_
  refine V.astore (pc := 7) (i := 6) (lv' := [(0, _), (1, _), (2, _), (3, _), (4, _), (5, _), (6, _)]) hK ⟨_, rfl⟩ (by decide) rfl dX11_feed_7 ?_
  refine V.aload (pc := 9) (i := 6) hK rfl ⟨_, rfl⟩ dX11_feed_9 ?_
  refine V.getI (pc := 11) hK fl_RX11_220 rfl (hL.1 36 _ ls_36) dX11_feed_11 ?_
  refine V.bipush (pc := 14) (v := 20) hK (by decide) dX11_feed_14 ?_
  refine V.iadd (pc := 16) hK dX11_feed_16 ?_
  refine V.sipush (pc := 17) (v := 400) hK (by decide) dX11_feed_17 ?_
  refine V.icmp_le (pc := 20) (tgt := 25) hK dX11_feed_20 (by decide) (fun c => ?_) (fun c => ?_)
  · rw [if_pos c] at h
    refine V.aload (pc := 25) (i := 6) hK rfl ⟨_, rfl⟩ dX11_feed_25 ?_
    refine V.iload_n (pc := 27) (i := 1) hK rfl dX11_feed_27 ?_
    obtain ⟨z1, hz1, h⟩ := v_bdS h
    refine V.cVv (pc := 28) (ci := 9) hK (c_X9_put E hL N _ _ hz1) Y_X9_put cv_RX11_225 (by decide) rfl (hL.1 36 _ ls_36) dX11_feed_28 (by decide) rfl (Nat.le_of_ble_eq_true rfl) ?_
    refine V.aload (pc := 31) (i := 6) hK rfl ⟨_, rfl⟩ dX11_feed_31 ?_
    refine V.iload_n (pc := 33) (i := 2) hK rfl dX11_feed_33 ?_
    obtain ⟨z2, hz2, h⟩ := v_bdS h
    refine V.cVv (pc := 34) (ci := 9) hK (c_X9_put E hL N _ _ hz2) Y_X9_put cv_RX11_225 (by decide) rfl (hL.1 36 _ ls_36) dX11_feed_34 (by decide) rfl (Nat.le_of_ble_eq_true rfl) ?_
    refine V.aload (pc := 37) (i := 6) hK rfl ⟨_, rfl⟩ dX11_feed_37 ?_
    refine V.iload_n (pc := 39) (i := 3) hK rfl dX11_feed_39 ?_
    obtain ⟨z3, hz3, h⟩ := v_bdS h
    refine V.cVv (pc := 40) (ci := 9) hK (c_X9_put E hL N _ _ hz3) Y_X9_put cv_RX11_225 (by decide) rfl (hL.1 36 _ ls_36) dX11_feed_40 (by decide) rfl (Nat.le_of_ble_eq_true rfl) ?_
    refine V.aload (pc := 43) (i := 6) hK rfl ⟨_, rfl⟩ dX11_feed_43 ?_
    refine V.iload (pc := 45) (i := 4) hK rfl dX11_feed_45 ?_
    obtain ⟨z4, hz4, h⟩ := v_bdS h
    refine V.cVv (pc := 47) (ci := 9) hK (c_X9_put E hL N _ _ hz4) Y_X9_put cv_RX11_225 (by decide) rfl (hL.1 36 _ ls_36) dX11_feed_47 (by decide) rfl (Nat.le_of_ble_eq_true rfl) ?_
    refine V.aload (pc := 50) (i := 6) hK rfl ⟨_, rfl⟩ dX11_feed_50 ?_
    refine V.iload (pc := 52) (i := 5) hK rfl dX11_feed_52 ?_
    obtain ⟨z5, hz5, h⟩ := v_bdS h
    refine V.cVv (pc := 54) (ci := 9) hK (c_X9_put E hL N _ _ hz5) Y_X9_put cv_RX11_225 (by decide) rfl (hL.1 36 _ ls_36) dX11_feed_54 (by decide) rfl (Nat.le_of_ble_eq_true rfl) ?_
    refine V.aload (pc := 57) (i := 6) hK rfl ⟨_, rfl⟩ dX11_feed_57 ?_
    refine V.getI (pc := 59) hK fl_RX11_220 rfl (hL.1 36 _ ls_36) dX11_feed_59 ?_
    exact V.iret (pc := 62) hO dX11_feed_62 (v_finI h)
  · rw [if_neg c] at h
    refine V.iconst (pc := 23) (v := -1) hK (by decide) dX11_feed_23 ?_
    exact V.iret (pc := 24) hO dX11_feed_24 (v_finI h)
set_option maxHeartbeats 4000000 in
set_option maxRecDepth 100000 in
theorem w_X11_noneAfter_L81 {E : v_E} {X : v_X} {sh : v_S} {P : v_P} {out : Int32 × v_M} (hL : v_Lay sh P) (hO : v_O E X cX11_noneAfter RX11 15 1 (some .int) "noneAfter" (v_Q1 (some (.int out.1)) sh P out.2)) (N : Nat) (k9 : Int32 → Int32 → Int64 → Int32 → Int32 → v_M → Option (Int32 × v_M)) (hk9 : ∀ (x1 : Int32) (x2 : Int32) (l3 : Int64) (x5 : Int32) (x6 : Int32) (M : v_M), k9 x1 x2 l3 x5 x6 M = some out → V E X (0, 0) 9 [(1, .int x1), (2, .int x2), (3, .long l3), (5, .int x5), (6, .int x6)] [] sh P M) (x1 : Int32) (x2 : Int32) (l3 : Int64) (x5 : Int32) (x6 : Int32) (l7 : Int64) (l0 : Int64) (M : v_M) (h : f_X11_noneAfter_L81 N k9 x1 x2 l3 x5 x6 l7 l0 M = some out) : V E X (0, 0) 81 [(1, .int x1), (2, .int x2), (3, .long l3), (5, .int x5), (6, .int x6), (7, .long l7)] [.long l0] sh P M := by
  have hK := hO.1
  unfold f_X11_noneAfter_L81 at h
  refine V.lstore (pc := 81) (i := 11) (lv' := [(1, _), (2, _), (3, _), (5, _), (6, _), (7, _), (11, _)]) hK (by decide) rfl dX11_noneAfter_81 ?_
  refine V.lconst (pc := 83) (v := 1) hK (by decide) dX11_noneAfter_83 ?_
  refine V.lload (pc := 84) (i := 11) hK rfl dX11_noneAfter_84 ?_
  refine V.iload (pc := 86) (i := 5) hK rfl dX11_noneAfter_86 ?_
  refine V.i2l (pc := 88) hK dX11_noneAfter_88 ?_
  refine V.lmin (pc := 89) hK tw_1077 tw_lmins tw_mi tw_lminc dX11_noneAfter_89 (by decide) (Nat.le_of_ble_eq_true rfl) ?_
  refine V.lmax (pc := 92) hK tw_1080 tw_lmaxs tw_mi tw_lmaxc dX11_noneAfter_92 (by decide) (Nat.le_of_ble_eq_true rfl) ?_
  refine V.topl (fun y1 ey1 => ?_)
  have h := v_lt ey1 h
  refine V.lstore (pc := 95) (i := 13) (lv' := [(1, _), (2, _), (3, _), (5, _), (6, _), (7, _), (11, _), (13, _)]) hK (by decide) rfl dX11_noneAfter_95 ?_
  refine V.lload_n (pc := 97) (i := 3) hK rfl dX11_noneAfter_97 ?_
  refine V.lload (pc := 98) (i := 13) hK rfl dX11_noneAfter_98 ?_
  refine V.lload (pc := 100) (i := 7) hK rfl dX11_noneAfter_100 ?_
  refine V.lmul (pc := 102) hK dX11_noneAfter_102 ?_
  refine V.lsub (pc := 103) hK dX11_noneAfter_103 ?_
  refine V.topl (fun y2 ey2 => ?_)
  have h := v_lt ey2 h
  refine V.lstore_n (pc := 104) (i := 3) (lv' := [(1, _), (2, _), (3, _), (5, _), (6, _), (7, _), (11, _), (13, _)]) hK (by decide) rfl dX11_noneAfter_104 ?_
  refine V.iload (pc := 105) (i := 5) hK rfl dX11_noneAfter_105 ?_
  refine V.lload (pc := 107) (i := 13) hK rfl dX11_noneAfter_107 ?_
  refine V.l2i (pc := 109) hK dX11_noneAfter_109 ?_
  refine V.isub (pc := 110) hK dX11_noneAfter_110 ?_
  refine V.topi (fun y3 ey3 => ?_)
  have h := v_lt ey3 h
  refine V.istore (pc := 111) (i := 5) (lv' := [(1, _), (2, _), (3, _), (5, _), (6, _), (7, _), (11, _), (13, _)]) hK (by decide) rfl dX11_noneAfter_111 ?_
  refine V.iinc (pc := 113) (i := 6) (v := 1) (lv' := [(1, _), (2, _), (3, _), (5, _), (6, _), (7, _), (11, _), (13, _)]) hK rfl (by decide) (by decide) rfl dX11_noneAfter_113 ?_
  refine V.goto (pc := 116) (tgt := 9) hK dX11_noneAfter_116 (by decide) ?_
  refine V.pick [1, 2, 3, 5, 6] (l := [(1, _), (2, _), (3, _), (5, _), (6, _)]) rfl ?_
  exact hk9 _ _ _ _ _ _ h
set_option maxHeartbeats 4000000 in
set_option maxRecDepth 100000 in
theorem w_X11_noneAfter_L9 {E : v_E} {X : v_X} {sh : v_S} {P : v_P} {out : Int32 × v_M} (hL : v_Lay sh P) (hO : v_O E X cX11_noneAfter RX11 15 1 (some .int) "noneAfter" (v_Q1 (some (.int out.1)) sh P out.2)) (N : Nat) (n : Nat) : ∀ (x1 : Int32) (x2 : Int32) (l3 : Int64) (x5 : Int32) (x6 : Int32) (M : v_M), f_X11_noneAfter_L9 N n x1 x2 l3 x5 x6 M = some out → V E X (0, 0) 9 [(1, .int x1), (2, .int x2), (3, .long l3), (5, .int x5), (6, .int x6)] [] sh P M := by
  have hK := hO.1
  induction n with
  | zero => intro x1 x2 l3 x5 x6 M h; rw [f_X11_noneAfter_L9] at h; cases h
  | succ n ih =>
    intro x1 x2 l3 x5 x6 M h
    rw [f_X11_noneAfter_L9] at h
    refine V.iload (pc := 9) (i := 6) hK rfl dX11_noneAfter_9 ?_
    refine V.iload_n (pc := 11) (i := 2) hK rfl dX11_noneAfter_11 ?_
    refine V.icmp_ge (pc := 12) (tgt := 119) hK dX11_noneAfter_12 (by decide) (fun c => ?_) (fun c => ?_)
    · rw [if_pos c] at h
      refine V.lload_n (pc := 119) (i := 3) hK rfl dX11_noneAfter_119 ?_
      refine V.l2i (pc := 120) hK dX11_noneAfter_120 ?_
      exact V.iret (pc := 121) hO dX11_noneAfter_121 (v_finI h)
    · rw [if_neg c] at h
      refine V.iload (pc := 15) (i := 5) hK rfl dX11_noneAfter_15 ?_
      refine V.if_le (pc := 17) (tgt := 119) hK dX11_noneAfter_17 (by decide) (fun c => ?_) (fun c => ?_)
      · rw [if_pos c] at h
        refine V.lload_n (pc := 119) (i := 3) hK rfl dX11_noneAfter_119 ?_
        refine V.l2i (pc := 120) hK dX11_noneAfter_120 ?_
        exact V.iret (pc := 121) hO dX11_noneAfter_121 (v_finI h)
      · rw [if_neg c] at h
        refine V.lload_n (pc := 20) (i := 3) hK rfl dX11_noneAfter_20 ?_
        refine V.lconst (pc := 21) (v := 0) hK (by decide) dX11_noneAfter_21 ?_
        refine V.lcmp (pc := 22) hK dX11_noneAfter_22 ?_
        refine V.if_le (pc := 23) (tgt := 119) hK dX11_noneAfter_23 (by decide) (fun c => ?_) (fun c => ?_)
        · rw [if_pos c] at h
          refine V.lload_n (pc := 119) (i := 3) hK rfl dX11_noneAfter_119 ?_
          refine V.l2i (pc := 120) hK dX11_noneAfter_120 ?_
          exact V.iret (pc := 121) hO dX11_noneAfter_121 (v_finI h)
        · rw [if_neg c] at h
          refine V.iload_n (pc := 26) (i := 1) hK rfl dX11_noneAfter_26 ?_
          refine V.if_le (pc := 27) (tgt := 119) hK dX11_noneAfter_27 (by decide) (fun c => ?_) (fun c => ?_)
          · rw [if_pos c] at h
            refine V.lload_n (pc := 119) (i := 3) hK rfl dX11_noneAfter_119 ?_
            refine V.l2i (pc := 120) hK dX11_noneAfter_120 ?_
            exact V.iret (pc := 121) hO dX11_noneAfter_121 (v_finI h)
          · rw [if_neg c] at h
            refine V.lload_n (pc := 30) (i := 3) hK rfl dX11_noneAfter_30 ?_
            refine V.iload_n (pc := 31) (i := 1) hK rfl dX11_noneAfter_31 ?_
            refine V.i2l (pc := 32) hK dX11_noneAfter_32 ?_
            refine V.lmul (pc := 33) hK dX11_noneAfter_33 ?_
            refine V.ldc2 (pc := 34) hK tw_1076 dX11_noneAfter_34 ?_
            refine V.ladd (pc := 37) hK dX11_noneAfter_37 ?_
            refine V.lconst (pc := 38) (v := 1) hK (by decide) dX11_noneAfter_38 ?_
            refine V.lsub (pc := 39) hK dX11_noneAfter_39 ?_
            refine V.ldc2 (pc := 40) hK tw_1076 dX11_noneAfter_40 ?_
            obtain ⟨hb, h⟩ := v_ckS h
            refine V.ldiv (pc := 43) hK (v_nzlS hb) dX11_noneAfter_43 ?_
            refine V.topl (fun y1 ey1 => ?_)
            have h := v_lt ey1 h
            refine V.lstore (pc := 44) (i := 7) (lv' := [(1, _), (2, _), (3, _), (5, _), (6, _), (7, _)]) hK (by decide) rfl dX11_noneAfter_44 ?_
            refine V.lload (pc := 46) (i := 7) hK rfl dX11_noneAfter_46 ?_
            refine V.lconst (pc := 48) (v := 1) hK (by decide) dX11_noneAfter_48 ?_
            refine V.lsub (pc := 49) hK dX11_noneAfter_49 ?_
            refine V.ldc2 (pc := 50) hK tw_1076 dX11_noneAfter_50 ?_
            refine V.lmul (pc := 53) hK dX11_noneAfter_53 ?_
            refine V.iload_n (pc := 54) (i := 1) hK rfl dX11_noneAfter_54 ?_
            refine V.i2l (pc := 55) hK dX11_noneAfter_55 ?_
            obtain ⟨hb, h⟩ := v_ckS h
            refine V.ldiv (pc := 56) hK (v_nzlS hb) dX11_noneAfter_56 ?_
            refine V.lconst (pc := 57) (v := 1) hK (by decide) dX11_noneAfter_57 ?_
            refine V.ladd (pc := 58) hK dX11_noneAfter_58 ?_
            refine V.topl (fun y2 ey2 => ?_)
            have h := v_lt ey2 h
            refine V.lstore (pc := 59) (i := 9) (lv' := [(1, _), (2, _), (3, _), (5, _), (6, _), (7, _), (9, _)]) hK (by decide) rfl dX11_noneAfter_59 ?_
            refine V.lload (pc := 61) (i := 7) hK rfl dX11_noneAfter_61 ?_
            refine V.lconst (pc := 63) (v := 0) hK (by decide) dX11_noneAfter_63 ?_
            refine V.lcmp (pc := 64) hK dX11_noneAfter_64 ?_
            refine V.if_le (pc := 65) (tgt := 80) hK dX11_noneAfter_65 (by decide) (fun c => ?_) (fun c => ?_)
            · rw [if_pos c] at h
              refine V.lconst (pc := 80) (v := 1) hK (by decide) dX11_noneAfter_80 ?_
              refine V.pick [1, 2, 3, 5, 6, 7] (l := [(1, _), (2, _), (3, _), (5, _), (6, _), (7, _)]) rfl ?_
              exact w_X11_noneAfter_L81 hL hO N _ ih _ _ _ _ _ _ _ _ h
            · rw [if_neg c] at h
              refine V.lload_n (pc := 68) (i := 3) hK rfl dX11_noneAfter_68 ?_
              refine V.lload (pc := 69) (i := 9) hK rfl dX11_noneAfter_69 ?_
              refine V.lsub (pc := 71) hK dX11_noneAfter_71 ?_
              refine V.lload (pc := 72) (i := 7) hK rfl dX11_noneAfter_72 ?_
              obtain ⟨hb, h⟩ := v_ckS h
              refine V.ldiv (pc := 74) hK (v_nzlS hb) dX11_noneAfter_74 ?_
              refine V.lconst (pc := 75) (v := 1) hK (by decide) dX11_noneAfter_75 ?_
              refine V.ladd (pc := 76) hK dX11_noneAfter_76 ?_
              refine V.goto (pc := 77) (tgt := 81) hK dX11_noneAfter_77 (by decide) ?_
              refine V.pick [1, 2, 3, 5, 6, 7] (l := [(1, _), (2, _), (3, _), (5, _), (6, _), (7, _)]) rfl ?_
              exact w_X11_noneAfter_L81 hL hO N _ ih _ _ _ _ _ _ _ _ h
set_option maxHeartbeats 4000000 in
set_option maxRecDepth 100000 in
theorem c_X11_noneAfter (E : v_E) {sh : v_S} {P : v_P} (hL : v_Lay sh P) (N : Nat) (x0 : Int32) (x1 : Int32) (x2 : Int32) (M : v_M) {out : Int32 × v_M} (h : f_X11_noneAfter N x0 x1 x2 M = some out) : v_Ct E 1 yX11_noneAfter cX11_noneAfter 15 (some .int) 0 0 [.int x0, .int x1, .int x2] sh P M (v_Q1 (some (.int out.1)) sh P out.2) := by
  refine v_Ct.of (by decide +kernel) (Nat.le_of_ble_eq_true rfl) (fun X hO => ?_)
  have hK : v_K E X cX11_noneAfter RX11 15 1 := hO.1
  have hO : v_O E X cX11_noneAfter RX11 15 1 (some .int) "noneAfter" (v_Q1 (some (.int out.1)) sh P out.2) := hO
  show V E X (0, 0) 0 [(0, .int x0), (1, .int x1), (2, .int x2)] [] sh P M
  unfold f_X11_noneAfter at h
  refine V.iload_n (pc := 0) (i := 0) hK rfl dX11_noneAfter_0 ?_
  refine V.i2l (pc := 1) hK dX11_noneAfter_1 ?_
  refine V.topl (fun y1 ey1 => ?_)
  have h := v_lt ey1 h
  refine V.lstore_n (pc := 2) (i := 3) (lv' := [(0, _), (1, _), (2, _), (3, _)]) hK (by decide) rfl dX11_noneAfter_2 ?_
  refine V.iload_n (pc := 3) (i := 2) hK rfl dX11_noneAfter_3 ?_
  refine V.istore (pc := 4) (i := 5) (lv' := [(0, _), (1, _), (2, _), (3, _), (5, _)]) hK (by decide) rfl dX11_noneAfter_4 ?_
  refine V.iconst (pc := 6) (v := 0) hK (by decide) dX11_noneAfter_6 ?_
  refine V.istore (pc := 7) (i := 6) (lv' := [(0, _), (1, _), (2, _), (3, _), (5, _), (6, _)]) hK (by decide) rfl dX11_noneAfter_7 ?_
  refine V.pick [1, 2, 3, 5, 6] (l := [(1, _), (2, _), (3, _), (5, _), (6, _)]) rfl ?_
  exact w_X11_noneAfter_L9 hL hO N N _ _ _ _ _ _ h
set_option maxHeartbeats 4000000 in
set_option maxRecDepth 100000 in
theorem c_X11_count (E : v_E) {sh : v_S} {P : v_P} (hL : v_Lay sh P) (N : Nat) (x1 : Int32) (M : v_M) {out : Int32 × v_M} (h : f_X11_count N x1 M = some out) : v_Ct E 0 yX11_count cX11_count 2 (some .int) 0 0 [v_rf E 0, .int x1] sh P M (v_Q1 (some (.int out.1)) sh P out.2) := by
  refine v_Ct.of (by decide +kernel) (Nat.le_of_ble_eq_true rfl) (fun X hO => ?_)
  have hK : v_K E X cX11_count RX11 2 0 := hO.1
  have hO : v_O E X cX11_count RX11 2 0 (some .int) "count" (v_Q1 (some (.int out.1)) sh P out.2) := hO
  show V E X (0, 0) 0 [(0, v_rf E 0), (1, .int x1)] [] sh P M
  unfold f_X11_count at h
  refine V.iload_n (pc := 0) (i := 1) hK rfl dX11_count_0 ?_
  by_cases c0 : x1 = (0 : Int32)
  · rw [if_pos c0] at h
    refine V.tableIn (pc := 1) (off := 51) (tgt := 52) hK dX11_count_1 (by rw [c0]; decide) (by rw [c0]; decide) (by rw [c0]; decide) (by decide) ?_
    refine V.aload_n (pc := 52) (i := 0) hK rfl ⟨_, rfl⟩ dX11_count_52 ?_
    refine V.getI (pc := 53) hK fl_RX11_7 rfl (hL.1 0 _ ls_0) dX11_count_53 ?_
    exact V.iret (pc := 56) hO dX11_count_56 (v_finI h)
  · rw [if_neg c0] at h
    by_cases c1 : x1 = (1 : Int32)
    · rw [if_pos c1] at h
      refine V.tableIn (pc := 1) (off := 56) (tgt := 57) hK dX11_count_1 (by rw [c1]; decide) (by rw [c1]; decide) (by rw [c1]; decide) (by decide) ?_
      refine V.aload_n (pc := 57) (i := 0) hK rfl ⟨_, rfl⟩ dX11_count_57 ?_
      refine V.getR (pc := 58) hK fl_RX11_19 rfl (hL.1 0 _ ls_0) (hL.2 0 2 1 rfl) dX11_count_58 ?_
      refine V.getI (pc := 61) hK fl_RX11_360 rfl (hL.1 1 _ ls_1) dX11_count_61 ?_
      exact V.iret (pc := 64) hO dX11_count_64 (v_finI h)
    · rw [if_neg c1] at h
      by_cases c2 : x1 = (2 : Int32)
      · rw [if_pos c2] at h
        refine V.tableIn (pc := 1) (off := 64) (tgt := 65) hK dX11_count_1 (by rw [c2]; decide) (by rw [c2]; decide) (by rw [c2]; decide) (by decide) ?_
        refine V.aload_n (pc := 65) (i := 0) hK rfl ⟨_, rfl⟩ dX11_count_65 ?_
        refine V.getR (pc := 66) hK fl_RX11_26 rfl (hL.1 0 _ ls_0) (hL.2 0 3 11 rfl) dX11_count_66 ?_
        refine V.getI (pc := 69) hK fl_RX11_355 rfl (hL.1 11 _ ls_11) dX11_count_69 ?_
        exact V.iret (pc := 72) hO dX11_count_72 (v_finI h)
      · rw [if_neg c2] at h
        by_cases c3 : x1 = (3 : Int32)
        · rw [if_pos c3] at h
          refine V.tableIn (pc := 1) (off := 72) (tgt := 73) hK dX11_count_1 (by rw [c3]; decide) (by rw [c3]; decide) (by rw [c3]; decide) (by decide) ?_
          refine V.aload_n (pc := 73) (i := 0) hK rfl ⟨_, rfl⟩ dX11_count_73 ?_
          refine V.getR (pc := 74) hK fl_RX11_40 rfl (hL.1 0 _ ls_0) (hL.2 0 5 29 rfl) dX11_count_74 ?_
          refine V.getI (pc := 77) hK fl_RX11_191 rfl (hL.1 29 _ ls_29) dX11_count_77 ?_
          exact V.iret (pc := 80) hO dX11_count_80 (v_finI h)
        · rw [if_neg c3] at h
          by_cases c4 : x1 = (4 : Int32)
          · rw [if_pos c4] at h
            refine V.tableIn (pc := 1) (off := 80) (tgt := 81) hK dX11_count_1 (by rw [c4]; decide) (by rw [c4]; decide) (by rw [c4]; decide) (by decide) ?_
            refine V.aload_n (pc := 81) (i := 0) hK rfl ⟨_, rfl⟩ dX11_count_81 ?_
            refine V.getI (pc := 82) hK fl_RX11_13 rfl (hL.1 0 _ ls_0) dX11_count_82 ?_
            exact V.iret (pc := 85) hO dX11_count_85 (v_finI h)
          · rw [if_neg c4] at h
            by_cases c5 : x1 = (5 : Int32)
            · rw [if_pos c5] at h
              refine V.tableIn (pc := 1) (off := 85) (tgt := 86) hK dX11_count_1 (by rw [c5]; decide) (by rw [c5]; decide) (by rw [c5]; decide) (by decide) ?_
              refine V.aload_n (pc := 86) (i := 0) hK rfl ⟨_, rfl⟩ dX11_count_86 ?_
              refine V.getR (pc := 87) hK fl_RX11_67 rfl (hL.1 0 _ ls_0) (hL.2 0 9 52 rfl) dX11_count_87 ?_
              refine V.getI (pc := 90) hK fl_RX11_283 rfl (hL.1 52 _ ls_52) dX11_count_90 ?_
              exact V.iret (pc := 93) hO dX11_count_93 (v_finI h)
            · rw [if_neg c5] at h
              by_cases c6 : x1 = (6 : Int32)
              · rw [if_pos c6] at h
                refine V.tableIn (pc := 1) (off := 93) (tgt := 94) hK dX11_count_1 (by rw [c6]; decide) (by rw [c6]; decide) (by rw [c6]; decide) (by decide) ?_
                refine V.aload_n (pc := 94) (i := 0) hK rfl ⟨_, rfl⟩ dX11_count_94 ?_
                refine V.getR (pc := 95) hK fl_RX11_67 rfl (hL.1 0 _ ls_0) (hL.2 0 9 52 rfl) dX11_count_95 ?_
                refine V.getI (pc := 98) hK fl_RX11_287 rfl (hL.1 52 _ ls_52) dX11_count_98 ?_
                exact V.iret (pc := 101) hO dX11_count_101 (v_finI h)
              · rw [if_neg c6] at h
                by_cases c7 : x1 = (7 : Int32)
                · rw [if_pos c7] at h
                  refine V.tableIn (pc := 1) (off := 101) (tgt := 102) hK dX11_count_1 (by rw [c7]; decide) (by rw [c7]; decide) (by rw [c7]; decide) (by decide) ?_
                  refine V.aload_n (pc := 102) (i := 0) hK rfl ⟨_, rfl⟩ dX11_count_102 ?_
                  refine V.getR (pc := 103) hK fl_RX11_81 rfl (hL.1 0 _ ls_0) (hL.2 0 11 71 rfl) dX11_count_103 ?_
                  refine V.getI (pc := 106) hK fl_RX11_313 rfl (hL.1 71 _ ls_71) dX11_count_106 ?_
                  exact V.iret (pc := 109) hO dX11_count_109 (v_finI h)
                · rw [if_neg c7] at h
                  by_cases c8 : x1 = (8 : Int32)
                  · rw [if_pos c8] at h
                    refine V.tableIn (pc := 1) (off := 109) (tgt := 110) hK dX11_count_1 (by rw [c8]; decide) (by rw [c8]; decide) (by rw [c8]; decide) (by decide) ?_
                    refine V.aload_n (pc := 110) (i := 0) hK rfl ⟨_, rfl⟩ dX11_count_110 ?_
                    refine V.getR (pc := 111) hK fl_RX11_47 rfl (hL.1 0 _ ls_0) (hL.2 0 6 35 rfl) dX11_count_111 ?_
                    refine V.getR (pc := 114) hK fl_RX11_216 rfl (hL.1 35 _ ls_35) (hL.2 35 0 36 rfl) dX11_count_114 ?_
                    refine V.getI (pc := 117) hK fl_RX11_220 rfl (hL.1 36 _ ls_36) dX11_count_117 ?_
                    exact V.iret (pc := 120) hO dX11_count_120 (v_finI h)
                  · rw [if_neg c8] at h
                    refine V.tableOut (pc := 1) (tgt := 121) hK dX11_count_1 (v_tout (fun i i1 i2 => ?_)) (by decide) ?_
                    · rcases (show i = 0 ∨ i = 1 ∨ i = 2 ∨ i = 3 ∨ i = 4 ∨ i = 5 ∨ i = 6 ∨ i = 7 ∨ i = 8 by omega) with rfl | rfl | rfl | rfl | rfl | rfl | rfl | rfl | rfl
                      · exact v_tne (by decide) c0
                      · exact v_tne (by decide) c1
                      · exact v_tne (by decide) c2
                      · exact v_tne (by decide) c3
                      · exact v_tne (by decide) c4
                      · exact v_tne (by decide) c5
                      · exact v_tne (by decide) c6
                      · exact v_tne (by decide) c7
                      · exact v_tne (by decide) c8
                    · refine V.iconst (pc := 121) (v := -1) hK (by decide) dX11_count_121 ?_
                      exact V.iret (pc := 122) hO dX11_count_122 (v_finI h)
set_option maxHeartbeats 4000000 in
set_option maxRecDepth 100000 in
theorem c_X11_within (E : v_E) {sh : v_S} {P : v_P} (hL : v_Lay sh P) (N : Nat) (x0 : Int32) (x1 : Int32) (x2 : Int32) (M : v_M) {out : Int32 × v_M} (h : f_X11_within N x0 x1 x2 M = some out) : v_Ct E 0 yX11_within cX11_within 3 (some .boolean) 0 0 [.int x0, .int x1, .int x2] sh P M (v_Q1 (some (.int out.1)) sh P out.2) := by
  refine v_Ct.of (by decide +kernel) (Nat.le_of_ble_eq_true rfl) (fun X hO => ?_)
  have hK : v_K E X cX11_within RX11 3 0 := hO.1
  have hO : v_O E X cX11_within RX11 3 0 (some .boolean) "within" (v_Q1 (some (.int out.1)) sh P out.2) := hO
  show V E X (0, 0) 0 [(0, .int x0), (1, .int x1), (2, .int x2)] [] sh P M
  unfold f_X11_within at h
  refine V.iload_n (pc := 0) (i := 0) hK rfl dX11_within_0 ?_
  refine V.iload_n (pc := 1) (i := 1) hK rfl dX11_within_1 ?_
  refine V.icmp_lt (pc := 2) (tgt := 14) hK dX11_within_2 (by decide) (fun c => ?_) (fun c => ?_)
  · rw [if_pos c] at h
    refine V.iconst (pc := 14) (v := 0) hK (by decide) dX11_within_14 ?_
    obtain ⟨hb, h⟩ := v_ckS h
    exact V.zret (pc := 15) hO (v_z01 hb) dX11_within_15 (v_finI h)
  · rw [if_neg c] at h
    refine V.iload_n (pc := 5) (i := 0) hK rfl dX11_within_5 ?_
    refine V.iload_n (pc := 6) (i := 2) hK rfl dX11_within_6 ?_
    refine V.icmp_gt (pc := 7) (tgt := 14) hK dX11_within_7 (by decide) (fun c => ?_) (fun c => ?_)
    · rw [if_pos c] at h
      refine V.iconst (pc := 14) (v := 0) hK (by decide) dX11_within_14 ?_
      obtain ⟨hb, h⟩ := v_ckS h
      exact V.zret (pc := 15) hO (v_z01 hb) dX11_within_15 (v_finI h)
    · rw [if_neg c] at h
      refine V.iconst (pc := 10) (v := 1) hK (by decide) dX11_within_10 ?_
      refine V.goto (pc := 11) (tgt := 15) hK dX11_within_11 (by decide) ?_
      obtain ⟨hb, h⟩ := v_ckS h
      exact V.zret (pc := 15) hO (v_z01 hb) dX11_within_15 (v_finI h)
set_option maxHeartbeats 4000000 in
set_option maxRecDepth 100000 in
theorem c_X11_asNumber (E : v_E) {sh : v_S} {P : v_P} (hL : v_Lay sh P) (N : Nat) (x0 : Int32) (M : v_M) {out : Int32 × v_M} (h : f_X11_asNumber N x0 M = some out) : v_Ct E 0 yX11_asNumber cX11_asNumber 1 (some .int) 0 0 [.int x0] sh P M (v_Q1 (some (.int out.1)) sh P out.2) := by
  refine v_Ct.of (by decide +kernel) (Nat.le_of_ble_eq_true rfl) (fun X hO => ?_)
  have hK : v_K E X cX11_asNumber RX11 1 0 := hO.1
  have hO : v_O E X cX11_asNumber RX11 1 0 (some .int) "asNumber" (v_Q1 (some (.int out.1)) sh P out.2) := hO
  show V E X (0, 0) 0 [(0, .int x0)] [] sh P M
  unfold f_X11_asNumber at h
  refine V.iload_n (pc := 0) (i := 0) hK rfl dX11_asNumber_0 ?_
  refine V.if_eq (pc := 1) (tgt := 8) hK dX11_asNumber_1 (by decide) (fun c => ?_) (fun c => ?_)
  · rw [if_pos c] at h
    refine V.iconst (pc := 8) (v := 0) hK (by decide) dX11_asNumber_8 ?_
    exact V.iret (pc := 9) hO dX11_asNumber_9 (v_finI h)
  · rw [if_neg c] at h
    refine V.iconst (pc := 4) (v := 1) hK (by decide) dX11_asNumber_4 ?_
    refine V.goto (pc := 5) (tgt := 9) hK dX11_asNumber_5 (by decide) ?_
    exact V.iret (pc := 9) hO dX11_asNumber_9 (v_finI h)
set_option maxHeartbeats 4000000 in
set_option maxRecDepth 100000 in
theorem c_X11_swap (E : v_E) {sh : v_S} {P : v_P} (hL : v_Lay sh P) (N : Nat) (r0 n0 : Nat) (hr0 : sh[r0]? = some (1, n0)) (x1 : Int32) (x2 : Int32) (M : v_M) {out : Int32 × v_M} (h : f_X11_swap N r0 n0 x1 x2 M = some out) : v_Ct E 1 yX11_swap cX11_swap 4 (some .int) 0 0 [v_rf E r0, .int x1, .int x2] sh P M (v_Q1 (some (.int out.1)) sh P out.2) := by
  refine v_Ct.of (by decide +kernel) (Nat.le_of_ble_eq_true rfl) (fun X hO => ?_)
  have hK : v_K E X cX11_swap RX11 4 1 := hO.1
  have hO : v_O E X cX11_swap RX11 4 1 (some .int) "swap" (v_Q1 (some (.int out.1)) sh P out.2) := hO
  show V E X (0, 0) 0 [(0, v_rf E r0), (1, .int x1), (2, .int x2)] [] sh P M
  unfold f_X11_swap at h
  refine V.iload_n (pc := 0) (i := 1) hK rfl dX11_swap_0 ?_
  refine V.iconst (pc := 1) (v := 0) hK (by decide) dX11_swap_1 ?_
  refine V.aload_n (pc := 2) (i := 0) hK rfl ⟨_, rfl⟩ dX11_swap_2 ?_
  refine V.alen (pc := 3) hK hr0 (by decide) rfl dX11_swap_3 ?_
  refine V.iconst (pc := 4) (v := 1) hK (by decide) dX11_swap_4 ?_
  refine V.isub (pc := 5) hK dX11_swap_5 ?_
  obtain ⟨z1, hz1, h⟩ := v_bdS h
  refine V.cS (pc := 6) hK (c_X11_within E hL N _ _ _ _ hz1) Y_X11_within cs_RX11_93 dX11_swap_6 (by decide) rfl (Nat.le_of_ble_eq_true rfl) ?_
  refine V.if_ne (pc := 9) (tgt := 16) hK dX11_swap_9 (by decide) (fun c => ?_) (fun c => ?_)
  · rw [if_neg c] at h
    refine V.aload_n (pc := 16) (i := 0) hK rfl ⟨_, rfl⟩ dX11_swap_16 ?_
    refine V.iload_n (pc := 17) (i := 1) hK rfl dX11_swap_17 ?_
    obtain ⟨hb, h⟩ := v_ckS h
    refine V.iald (pc := 18) hK hr0 (v_ibS hb) dX11_swap_18 ?_
    refine V.topi (fun y2 ey2 => ?_)
    have h := v_lt ey2 h
    refine V.istore_n (pc := 19) (i := 3) (lv' := [(0, _), (1, _), (2, _), (3, _)]) hK (by decide) rfl dX11_swap_19 ?_
    refine V.aload_n (pc := 20) (i := 0) hK rfl ⟨_, rfl⟩ dX11_swap_20 ?_
    refine V.iload_n (pc := 21) (i := 1) hK rfl dX11_swap_21 ?_
    refine V.iload_n (pc := 22) (i := 2) hK rfl dX11_swap_22 ?_
    obtain ⟨hb, h⟩ := v_ckS h
    refine V.iast (pc := 23) hK hr0 (v_ibS hb) dX11_swap_23 ?_
    refine V.nmM (fun M3 eM3 => ?_)
    have h := v_lt eM3 h
    refine V.iload_n (pc := 24) (i := 3) hK rfl dX11_swap_24 ?_
    exact V.iret (pc := 25) hO dX11_swap_25 (v_finI h)
  · rw [if_pos c] at h
    refine V.sipush (pc := 12) (v := -1000) hK (by decide) dX11_swap_12 ?_
    exact V.iret (pc := 15) hO dX11_swap_15 (v_finI h)
set_option maxHeartbeats 4000000 in
set_option maxRecDepth 100000 in
theorem c_X11_hasPart (E : v_E) {sh : v_S} {P : v_P} (hL : v_Lay sh P) (N : Nat) (x1 : Int32) (M : v_M) {out : Int32 × v_M} (h : f_X11_hasPart N x1 M = some out) : v_Ct E 1 yX11_hasPart cX11_hasPart 2 (some .boolean) 0 0 [v_rf E 0, .int x1] sh P M (v_Q1 (some (.int out.1)) sh P out.2) := by
  refine v_Ct.of (by decide +kernel) (Nat.le_of_ble_eq_true rfl) (fun X hO => ?_)
  have hK : v_K E X cX11_hasPart RX11 2 1 := hO.1
  have hO : v_O E X cX11_hasPart RX11 2 1 (some .boolean) "hasPart" (v_Q1 (some (.int out.1)) sh P out.2) := hO
  show V E X (0, 0) 0 [(0, v_rf E 0), (1, .int x1)] [] sh P M
  unfold f_X11_hasPart at h
  refine V.iload_n (pc := 0) (i := 1) hK rfl dX11_hasPart_0 ?_
  refine V.iconst (pc := 1) (v := 0) hK (by decide) dX11_hasPart_1 ?_
  refine V.aload_n (pc := 2) (i := 0) hK rfl ⟨_, rfl⟩ dX11_hasPart_2 ?_
  refine V.getR (pc := 3) hK fl_RX11_19 rfl (hL.1 0 _ ls_0) (hL.2 0 2 1 rfl) dX11_hasPart_3 ?_
  refine V.getI (pc := 6) hK fl_RX11_360 rfl (hL.1 1 _ ls_1) dX11_hasPart_6 ?_
  refine V.iconst (pc := 9) (v := 1) hK (by decide) dX11_hasPart_9 ?_
  refine V.isub (pc := 10) hK dX11_hasPart_10 ?_
  obtain ⟨z1, hz1, h⟩ := v_bdS h
  refine V.cS (pc := 11) hK (c_X11_within E hL N _ _ _ _ hz1) Y_X11_within cs_RX11_93 dX11_hasPart_11 (by decide) rfl (Nat.le_of_ble_eq_true rfl) ?_
  obtain ⟨hb, h⟩ := v_ckS h
  exact V.zret (pc := 14) hO (v_z01 hb) dX11_hasPart_14 (v_finI h)
set_option maxHeartbeats 4000000 in
set_option maxRecDepth 100000 in
theorem c_X11_hasMachine (E : v_E) {sh : v_S} {P : v_P} (hL : v_Lay sh P) (N : Nat) (x1 : Int32) (M : v_M) {out : Int32 × v_M} (h : f_X11_hasMachine N x1 M = some out) : v_Ct E 1 yX11_hasMachine cX11_hasMachine 2 (some .boolean) 0 0 [v_rf E 0, .int x1] sh P M (v_Q1 (some (.int out.1)) sh P out.2) := by
  refine v_Ct.of (by decide +kernel) (Nat.le_of_ble_eq_true rfl) (fun X hO => ?_)
  have hK : v_K E X cX11_hasMachine RX11 2 1 := hO.1
  have hO : v_O E X cX11_hasMachine RX11 2 1 (some .boolean) "hasMachine" (v_Q1 (some (.int out.1)) sh P out.2) := hO
  show V E X (0, 0) 0 [(0, v_rf E 0), (1, .int x1)] [] sh P M
  unfold f_X11_hasMachine at h
  refine V.iload_n (pc := 0) (i := 1) hK rfl dX11_hasMachine_0 ?_
  refine V.iconst (pc := 1) (v := 0) hK (by decide) dX11_hasMachine_1 ?_
  refine V.aload_n (pc := 2) (i := 0) hK rfl ⟨_, rfl⟩ dX11_hasMachine_2 ?_
  refine V.getR (pc := 3) hK fl_RX11_26 rfl (hL.1 0 _ ls_0) (hL.2 0 3 11 rfl) dX11_hasMachine_3 ?_
  refine V.getI (pc := 6) hK fl_RX11_355 rfl (hL.1 11 _ ls_11) dX11_hasMachine_6 ?_
  refine V.iconst (pc := 9) (v := 1) hK (by decide) dX11_hasMachine_9 ?_
  refine V.isub (pc := 10) hK dX11_hasMachine_10 ?_
  obtain ⟨z1, hz1, h⟩ := v_bdS h
  refine V.cS (pc := 11) hK (c_X11_within E hL N _ _ _ _ hz1) Y_X11_within cs_RX11_93 dX11_hasMachine_11 (by decide) rfl (Nat.le_of_ble_eq_true rfl) ?_
  obtain ⟨hb, h⟩ := v_ckS h
  exact V.zret (pc := 14) hO (v_z01 hb) dX11_hasMachine_14 (v_finI h)
set_option maxHeartbeats 4000000 in
set_option maxRecDepth 100000 in
theorem c_X11_hasPartOf (E : v_E) {sh : v_S} {P : v_P} (hL : v_Lay sh P) (N : Nat) (x1 : Int32) (x2 : Int32) (M : v_M) {out : Int32 × v_M} (h : f_X11_hasPartOf N x1 x2 M = some out) : v_Ct E 2 yX11_hasPartOf cX11_hasPartOf 3 (some .boolean) 0 0 [v_rf E 0, .int x1, .int x2] sh P M (v_Q1 (some (.int out.1)) sh P out.2) := by
  refine v_Ct.of (by decide +kernel) (Nat.le_of_ble_eq_true rfl) (fun X hO => ?_)
  have hK : v_K E X cX11_hasPartOf RX11 3 2 := hO.1
  have hO : v_O E X cX11_hasPartOf RX11 3 2 (some .boolean) "hasPartOf" (v_Q1 (some (.int out.1)) sh P out.2) := hO
  show V E X (0, 0) 0 [(0, v_rf E 0), (1, .int x1), (2, .int x2)] [] sh P M
  unfold f_X11_hasPartOf at h
  refine V.aload_n (pc := 0) (i := 0) hK rfl ⟨_, rfl⟩ dX11_hasPartOf_0 ?_
  refine V.iload_n (pc := 1) (i := 1) hK rfl dX11_hasPartOf_1 ?_
  obtain ⟨z1, hz1, h⟩ := v_bdS h
  refine V.cV (pc := 2) (ci := 11) hK (c_X11_hasMachine E hL N _ _ hz1) Y_X11_hasMachine cv_RX11_150 (by decide) rfl (hL.1 0 _ ls_0) dX11_hasPartOf_2 (by decide) rfl (Nat.le_of_ble_eq_true rfl) ?_
  refine V.if_eq (pc := 5) (tgt := 20) hK dX11_hasPartOf_5 (by decide) (fun c => ?_) (fun c => ?_)
  · rw [if_pos c] at h
    refine V.iconst (pc := 20) (v := 0) hK (by decide) dX11_hasPartOf_20 ?_
    obtain ⟨hb, h⟩ := v_ckS h
    exact V.zret (pc := 21) hO (v_z01 hb) dX11_hasPartOf_21 (v_finI h)
  · rw [if_neg c] at h
    refine V.aload_n (pc := 8) (i := 0) hK rfl ⟨_, rfl⟩ dX11_hasPartOf_8 ?_
    refine V.iload_n (pc := 9) (i := 2) hK rfl dX11_hasPartOf_9 ?_
    obtain ⟨z2, hz2, h⟩ := v_bdS h
    refine V.cV (pc := 10) (ci := 11) hK (c_X11_hasPart E hL N _ _ hz2) Y_X11_hasPart cv_RX11_185 (by decide) rfl (hL.1 0 _ ls_0) dX11_hasPartOf_10 (by decide) rfl (Nat.le_of_ble_eq_true rfl) ?_
    refine V.if_eq (pc := 13) (tgt := 20) hK dX11_hasPartOf_13 (by decide) (fun c => ?_) (fun c => ?_)
    · rw [if_pos c] at h
      refine V.iconst (pc := 20) (v := 0) hK (by decide) dX11_hasPartOf_20 ?_
      obtain ⟨hb, h⟩ := v_ckS h
      exact V.zret (pc := 21) hO (v_z01 hb) dX11_hasPartOf_21 (v_finI h)
    · rw [if_neg c] at h
      refine V.iconst (pc := 16) (v := 1) hK (by decide) dX11_hasPartOf_16 ?_
      refine V.goto (pc := 17) (tgt := 21) hK dX11_hasPartOf_17 (by decide) ?_
      obtain ⟨hb, h⟩ := v_ckS h
      exact V.zret (pc := 21) hO (v_z01 hb) dX11_hasPartOf_21 (v_finI h)
set_option maxHeartbeats 4000000 in
set_option maxRecDepth 100000 in
theorem c_X12_in (E : v_E) {sh : v_S} {P : v_P} (hL : v_Lay sh P) (N : Nat) (l0 : Int64) (l2 : Int64) (l4 : Int64) (M : v_M) {out : Int32 × v_M} (h : f_X12_in N l0 l2 l4 M = some out) : v_Ct E 0 yX12_in cX12_in 6 (some .boolean) 0 0 [.long l0, .long l2, .long l4] sh P M (v_Q1 (some (.int out.1)) sh P out.2) := by
  refine v_Ct.of (by decide +kernel) (Nat.le_of_ble_eq_true rfl) (fun X hO => ?_)
  have hK : v_K E X cX12_in RX12 6 0 := hO.1
  have hO : v_O E X cX12_in RX12 6 0 (some .boolean) "in" (v_Q1 (some (.int out.1)) sh P out.2) := hO
  show V E X (0, 0) 0 [(0, .long l0), (2, .long l2), (4, .long l4)] [] sh P M
  unfold f_X12_in at h
  refine V.lload_n (pc := 0) (i := 0) hK rfl dX12_in_0 ?_
  refine V.lload_n (pc := 1) (i := 2) hK rfl dX12_in_1 ?_
  refine V.lcmp (pc := 2) hK dX12_in_2 ?_
  refine V.if_lt (pc := 3) (tgt := 17) hK dX12_in_3 (by decide) (fun c => ?_) (fun c => ?_)
  · rw [if_pos c] at h
    refine V.iconst (pc := 17) (v := 0) hK (by decide) dX12_in_17 ?_
    obtain ⟨hb, h⟩ := v_ckS h
    exact V.zret (pc := 18) hO (v_z01 hb) dX12_in_18 (v_finI h)
  · rw [if_neg c] at h
    refine V.lload_n (pc := 6) (i := 0) hK rfl dX12_in_6 ?_
    refine V.lload (pc := 7) (i := 4) hK rfl dX12_in_7 ?_
    refine V.lcmp (pc := 9) hK dX12_in_9 ?_
    refine V.if_gt (pc := 10) (tgt := 17) hK dX12_in_10 (by decide) (fun c => ?_) (fun c => ?_)
    · rw [if_pos c] at h
      refine V.iconst (pc := 17) (v := 0) hK (by decide) dX12_in_17 ?_
      obtain ⟨hb, h⟩ := v_ckS h
      exact V.zret (pc := 18) hO (v_z01 hb) dX12_in_18 (v_finI h)
    · rw [if_neg c] at h
      refine V.iconst (pc := 13) (v := 1) hK (by decide) dX12_in_13 ?_
      refine V.goto (pc := 14) (tgt := 18) hK dX12_in_14 (by decide) ?_
      obtain ⟨hb, h⟩ := v_ckS h
      exact V.zret (pc := 18) hO (v_z01 hb) dX12_in_18 (v_finI h)
set_option maxHeartbeats 4000000 in
set_option maxRecDepth 100000 in
theorem c_X12_isDay (E : v_E) {sh : v_S} {P : v_P} (hL : v_Lay sh P) (N : Nat) (x0 : Int32) (M : v_M) {out : Int32 × v_M} (h : f_X12_isDay N x0 M = some out) : v_Ct E 1 yX12_isDay cX12_isDay 1 (some .boolean) 0 0 [.int x0] sh P M (v_Q1 (some (.int out.1)) sh P out.2) := by
  refine v_Ct.of (by decide +kernel) (Nat.le_of_ble_eq_true rfl) (fun X hO => ?_)
  have hK : v_K E X cX12_isDay RX12 1 1 := hO.1
  have hO : v_O E X cX12_isDay RX12 1 1 (some .boolean) "isDay" (v_Q1 (some (.int out.1)) sh P out.2) := hO
  show V E X (0, 0) 0 [(0, .int x0)] [] sh P M
  unfold f_X12_isDay at h
  refine V.iload_n (pc := 0) (i := 0) hK rfl dX12_isDay_0 ?_
  refine V.i2l (pc := 1) hK dX12_isDay_1 ?_
  refine V.lconst (pc := 2) (v := 0) hK (by decide) dX12_isDay_2 ?_
  refine V.ldc2 (pc := 3) hK tw_1404 dX12_isDay_3 ?_
  obtain ⟨z1, hz1, h⟩ := v_bdS h
  refine V.cS (pc := 6) hK (c_X12_in E hL N _ _ _ _ hz1) Y_X12_in cs_RX12_229 dX12_isDay_6 (by decide) rfl (Nat.le_of_ble_eq_true rfl) ?_
  obtain ⟨hb, h⟩ := v_ckS h
  exact V.zret (pc := 9) hO (v_z01 hb) dX12_isDay_9 (v_finI h)
set_option maxHeartbeats 4000000 in
set_option maxRecDepth 100000 in
theorem c_X12_clock (E : v_E) {sh : v_S} {P : v_P} (hL : v_Lay sh P) (N : Nat) (x1 : Int32) (M : v_M) {out : Int32 × v_M} (h : f_X12_clock N x1 M = some out) : v_Ct E 1 yX12_clock cX12_clock 2 (some .boolean) 0 0 [v_rf E 79, .int x1] sh P M (v_Q1 (some (.int out.1)) sh P out.2) := by
  refine v_Ct.of (by decide +kernel) (Nat.le_of_ble_eq_true rfl) (fun X hO => ?_)
  have hK : v_K E X cX12_clock RX12 2 1 := hO.1
  have hO : v_O E X cX12_clock RX12 2 1 (some .boolean) "clock" (v_Q1 (some (.int out.1)) sh P out.2) := hO
  show V E X (0, 0) 0 [(0, v_rf E 79), (1, .int x1)] [] sh P M
  unfold f_X12_clock at h
  refine V.iload_n (pc := 0) (i := 1) hK rfl dX12_clock_0 ?_
  refine V.i2l (pc := 1) hK dX12_clock_1 ?_
  refine V.aload_n (pc := 2) (i := 0) hK rfl ⟨_, rfl⟩ dX12_clock_2 ?_
  refine V.getI (pc := 3) hK fl_RX12_233 rfl (hL.1 79 _ ls_79) dX12_clock_3 ?_
  refine V.i2l (pc := 6) hK dX12_clock_6 ?_
  refine V.ldc2 (pc := 7) hK tw_1404 dX12_clock_7 ?_
  obtain ⟨z1, hz1, h⟩ := v_bdS h
  refine V.cS (pc := 10) hK (c_X12_in E hL N _ _ _ _ hz1) Y_X12_in cs_RX12_229 dX12_clock_10 (by decide) rfl (Nat.le_of_ble_eq_true rfl) ?_
  refine V.if_ne (pc := 13) (tgt := 18) hK dX12_clock_13 (by decide) (fun c => ?_) (fun c => ?_)
  · rw [if_neg c] at h
    refine V.aload_n (pc := 18) (i := 0) hK rfl ⟨_, rfl⟩ dX12_clock_18 ?_
    refine V.iload_n (pc := 19) (i := 1) hK rfl dX12_clock_19 ?_
    refine V.putI (pc := 20) hK fl_RX12_233 rfl rfl ⟨rfl, rfl⟩ (hL.1 79 _ ls_79) dX12_clock_20 ?_
    refine V.nmM (fun M2 eM2 => ?_)
    have h := v_lt eM2 h
    refine V.iconst (pc := 23) (v := 1) hK (by decide) dX12_clock_23 ?_
    obtain ⟨hb, h⟩ := v_ckS h
    exact V.zret (pc := 24) hO (v_z01 hb) dX12_clock_24 (v_finI h)
  · rw [if_pos c] at h
    refine V.iconst (pc := 16) (v := 0) hK (by decide) dX12_clock_16 ?_
    obtain ⟨hb, h⟩ := v_ckS h
    exact V.zret (pc := 17) hO (v_z01 hb) dX12_clock_17 (v_finI h)
set_option maxHeartbeats 4000000 in
set_option maxRecDepth 100000 in
theorem c_X12_isPart (E : v_E) {sh : v_S} {P : v_P} (hL : v_Lay sh P) (N : Nat) (x1 : Int32) (M : v_M) {out : Int32 × v_M} (h : f_X12_isPart N x1 M = some out) : v_Ct E 1 yX12_isPart cX12_isPart 2 (some .boolean) 0 0 [v_rf E 79, .int x1] sh P M (v_Q1 (some (.int out.1)) sh P out.2) := by
  refine v_Ct.of (by decide +kernel) (Nat.le_of_ble_eq_true rfl) (fun X hO => ?_)
  have hK : v_K E X cX12_isPart RX12 2 1 := hO.1
  have hO : v_O E X cX12_isPart RX12 2 1 (some .boolean) "isPart" (v_Q1 (some (.int out.1)) sh P out.2) := hO
  show V E X (0, 0) 0 [(0, v_rf E 79), (1, .int x1)] [] sh P M
  unfold f_X12_isPart at h
  refine V.iload_n (pc := 0) (i := 1) hK rfl dX12_isPart_0 ?_
  refine V.i2l (pc := 1) hK dX12_isPart_1 ?_
  refine V.lconst (pc := 2) (v := 0) hK (by decide) dX12_isPart_2 ?_
  refine V.aload_n (pc := 3) (i := 0) hK rfl ⟨_, rfl⟩ dX12_isPart_3 ?_
  refine V.getI (pc := 4) hK fl_RX12_236 rfl (hL.1 79 _ ls_79) dX12_isPart_4 ?_
  refine V.iconst (pc := 7) (v := 1) hK (by decide) dX12_isPart_7 ?_
  refine V.isub (pc := 8) hK dX12_isPart_8 ?_
  refine V.i2l (pc := 9) hK dX12_isPart_9 ?_
  obtain ⟨z1, hz1, h⟩ := v_bdS h
  refine V.cS (pc := 10) hK (c_X12_in E hL N _ _ _ _ hz1) Y_X12_in cs_RX12_229 dX12_isPart_10 (by decide) rfl (Nat.le_of_ble_eq_true rfl) ?_
  obtain ⟨hb, h⟩ := v_ckS h
  exact V.zret (pc := 13) hO (v_z01 hb) dX12_isPart_13 (v_finI h)
set_option maxHeartbeats 4000000 in
set_option maxRecDepth 100000 in
theorem c_X12_isMachine (E : v_E) {sh : v_S} {P : v_P} (hL : v_Lay sh P) (N : Nat) (x1 : Int32) (M : v_M) {out : Int32 × v_M} (h : f_X12_isMachine N x1 M = some out) : v_Ct E 1 yX12_isMachine cX12_isMachine 2 (some .boolean) 0 0 [v_rf E 79, .int x1] sh P M (v_Q1 (some (.int out.1)) sh P out.2) := by
  refine v_Ct.of (by decide +kernel) (Nat.le_of_ble_eq_true rfl) (fun X hO => ?_)
  have hK : v_K E X cX12_isMachine RX12 2 1 := hO.1
  have hO : v_O E X cX12_isMachine RX12 2 1 (some .boolean) "isMachine" (v_Q1 (some (.int out.1)) sh P out.2) := hO
  show V E X (0, 0) 0 [(0, v_rf E 79), (1, .int x1)] [] sh P M
  unfold f_X12_isMachine at h
  refine V.iload_n (pc := 0) (i := 1) hK rfl dX12_isMachine_0 ?_
  refine V.i2l (pc := 1) hK dX12_isMachine_1 ?_
  refine V.lconst (pc := 2) (v := 0) hK (by decide) dX12_isMachine_2 ?_
  refine V.aload_n (pc := 3) (i := 0) hK rfl ⟨_, rfl⟩ dX12_isMachine_3 ?_
  refine V.getI (pc := 4) hK fl_RX12_239 rfl (hL.1 79 _ ls_79) dX12_isMachine_4 ?_
  refine V.iconst (pc := 7) (v := 1) hK (by decide) dX12_isMachine_7 ?_
  refine V.isub (pc := 8) hK dX12_isMachine_8 ?_
  refine V.i2l (pc := 9) hK dX12_isMachine_9 ?_
  obtain ⟨z1, hz1, h⟩ := v_bdS h
  refine V.cS (pc := 10) hK (c_X12_in E hL N _ _ _ _ hz1) Y_X12_in cs_RX12_229 dX12_isMachine_10 (by decide) rfl (Nat.le_of_ble_eq_true rfl) ?_
  obtain ⟨hb, h⟩ := v_ckS h
  exact V.zret (pc := 13) hO (v_z01 hb) dX12_isMachine_13 (v_finI h)
set_option maxHeartbeats 4000000 in
set_option maxRecDepth 100000 in
theorem c_X12_isDriven (E : v_E) {sh : v_S} {P : v_P} (hL : v_Lay sh P) (N : Nat) (x1 : Int32) (x2 : Int32) (M : v_M) {out : Int32 × v_M} (h : f_X12_isDriven N x1 x2 M = some out) : v_Ct E 2 yX12_isDriven cX12_isDriven 3 (some .boolean) 0 0 [v_rf E 79, .int x1, .int x2] sh P M (v_Q1 (some (.int out.1)) sh P out.2) := by
  refine v_Ct.of (by decide +kernel) (Nat.le_of_ble_eq_true rfl) (fun X hO => ?_)
  have hK : v_K E X cX12_isDriven RX12 3 2 := hO.1
  have hO : v_O E X cX12_isDriven RX12 3 2 (some .boolean) "isDriven" (v_Q1 (some (.int out.1)) sh P out.2) := hO
  show V E X (0, 0) 0 [(0, v_rf E 79), (1, .int x1), (2, .int x2)] [] sh P M
  unfold f_X12_isDriven at h
  refine V.iload_n (pc := 0) (i := 1) hK rfl dX12_isDriven_0 ?_
  refine V.if_ne (pc := 1) (tgt := 22) hK dX12_isDriven_1 (by decide) (fun c => ?_) (fun c => ?_)
  · rw [if_neg c] at h
    refine V.aload_n (pc := 22) (i := 0) hK rfl ⟨_, rfl⟩ dX12_isDriven_22 ?_
    refine V.getI (pc := 23) hK fl_RX12_236 rfl (hL.1 79 _ ls_79) dX12_isDriven_23 ?_
    refine V.if_le (pc := 26) (tgt := 69) hK dX12_isDriven_26 (by decide) (fun c => ?_) (fun c => ?_)
    · rw [if_pos c] at h
      refine V.iconst (pc := 69) (v := 0) hK (by decide) dX12_isDriven_69 ?_
      obtain ⟨hb, h⟩ := v_ckS h
      exact V.zret (pc := 70) hO (v_z01 hb) dX12_isDriven_70 (v_finI h)
    · rw [if_neg c] at h
      refine V.aload_n (pc := 29) (i := 0) hK rfl ⟨_, rfl⟩ dX12_isDriven_29 ?_
      refine V.iload_n (pc := 30) (i := 2) hK rfl dX12_isDriven_30 ?_
      obtain ⟨z1, hz1, h⟩ := v_bdS h
      refine V.cV (pc := 31) (ci := 12) hK (c_X12_isPart E hL N _ _ hz1) Y_X12_isPart cv_RX12_242 (by decide) rfl (hL.1 79 _ ls_79) dX12_isDriven_31 (by decide) rfl (Nat.le_of_ble_eq_true rfl) ?_
      refine V.if_eq (pc := 34) (tgt := 69) hK dX12_isDriven_34 (by decide) (fun c => ?_) (fun c => ?_)
      · rw [if_pos c] at h
        refine V.iconst (pc := 69) (v := 0) hK (by decide) dX12_isDriven_69 ?_
        obtain ⟨hb, h⟩ := v_ckS h
        exact V.zret (pc := 70) hO (v_z01 hb) dX12_isDriven_70 (v_finI h)
      · rw [if_neg c] at h
        refine V.iload_n (pc := 37) (i := 1) hK rfl dX12_isDriven_37 ?_
        refine V.iconst (pc := 38) (v := 5) hK (by decide) dX12_isDriven_38 ?_
        refine V.icmp_ne (pc := 39) (tgt := 55) hK dX12_isDriven_39 (by decide) (fun c => ?_) (fun c => ?_)
        · rw [if_neg c] at h
          refine V.aload_n (pc := 55) (i := 0) hK rfl ⟨_, rfl⟩ dX12_isDriven_55 ?_
          refine V.getR (pc := 56) hK fl_RX12_9 rfl (hL.1 79 _ ls_79) (hL.2 79 4 80 rfl) dX12_isDriven_56 ?_
          refine V.iload_n (pc := 59) (i := 2) hK rfl dX12_isDriven_59 ?_
          obtain ⟨hb, h⟩ := v_ckS h
          refine V.iald (pc := 60) hK (hL.1 80 _ ls_80) (v_ibS hb) dX12_isDriven_60 ?_
          refine V.iconst (pc := 61) (v := 2) hK (by decide) dX12_isDriven_61 ?_
          refine V.icmp_gt (pc := 62) (tgt := 69) hK dX12_isDriven_62 (by decide) (fun c => ?_) (fun c => ?_)
          · rw [if_pos c] at h
            refine V.iconst (pc := 69) (v := 0) hK (by decide) dX12_isDriven_69 ?_
            obtain ⟨hb, h⟩ := v_ckS h
            exact V.zret (pc := 70) hO (v_z01 hb) dX12_isDriven_70 (v_finI h)
          · rw [if_neg c] at h
            refine V.iconst (pc := 65) (v := 1) hK (by decide) dX12_isDriven_65 ?_
            refine V.goto (pc := 66) (tgt := 70) hK dX12_isDriven_66 (by decide) ?_
            obtain ⟨hb, h⟩ := v_ckS h
            exact V.zret (pc := 70) hO (v_z01 hb) dX12_isDriven_70 (v_finI h)
        · rw [if_pos c] at h
          refine V.aload_n (pc := 42) (i := 0) hK rfl ⟨_, rfl⟩ dX12_isDriven_42 ?_
          refine V.getR (pc := 43) hK fl_RX12_9 rfl (hL.1 79 _ ls_79) (hL.2 79 4 80 rfl) dX12_isDriven_43 ?_
          refine V.iload_n (pc := 46) (i := 2) hK rfl dX12_isDriven_46 ?_
          obtain ⟨hb, h⟩ := v_ckS h
          refine V.iald (pc := 47) hK (hL.1 80 _ ls_80) (v_ibS hb) dX12_isDriven_47 ?_
          refine V.iconst (pc := 48) (v := 2) hK (by decide) dX12_isDriven_48 ?_
          refine V.icmp_ne (pc := 49) (tgt := 69) hK dX12_isDriven_49 (by decide) (fun c => ?_) (fun c => ?_)
          · rw [if_neg c] at h
            refine V.iconst (pc := 69) (v := 0) hK (by decide) dX12_isDriven_69 ?_
            obtain ⟨hb, h⟩ := v_ckS h
            exact V.zret (pc := 70) hO (v_z01 hb) dX12_isDriven_70 (v_finI h)
          · rw [if_pos c] at h
            refine V.goto (pc := 52) (tgt := 65) hK dX12_isDriven_52 (by decide) ?_
            refine V.iconst (pc := 65) (v := 1) hK (by decide) dX12_isDriven_65 ?_
            refine V.goto (pc := 66) (tgt := 70) hK dX12_isDriven_66 (by decide) ?_
            obtain ⟨hb, h⟩ := v_ckS h
            exact V.zret (pc := 70) hO (v_z01 hb) dX12_isDriven_70 (v_finI h)
  · rw [if_pos c] at h
    refine V.aload_n (pc := 4) (i := 0) hK rfl ⟨_, rfl⟩ dX12_isDriven_4 ?_
    refine V.getI (pc := 5) hK fl_RX12_236 rfl (hL.1 79 _ ls_79) dX12_isDriven_5 ?_
    refine V.if_ne (pc := 8) (tgt := 20) hK dX12_isDriven_8 (by decide) (fun c => ?_) (fun c => ?_)
    · rw [if_neg c] at h
      refine V.iconst (pc := 20) (v := 0) hK (by decide) dX12_isDriven_20 ?_
      obtain ⟨hb, h⟩ := v_ckS h
      exact V.zret (pc := 21) hO (v_z01 hb) dX12_isDriven_21 (v_finI h)
    · rw [if_pos c] at h
      refine V.iload_n (pc := 11) (i := 2) hK rfl dX12_isDriven_11 ?_
      refine V.iconst (pc := 12) (v := -1) hK (by decide) dX12_isDriven_12 ?_
      refine V.icmp_ne (pc := 13) (tgt := 20) hK dX12_isDriven_13 (by decide) (fun c => ?_) (fun c => ?_)
      · rw [if_neg c] at h
        refine V.iconst (pc := 20) (v := 0) hK (by decide) dX12_isDriven_20 ?_
        obtain ⟨hb, h⟩ := v_ckS h
        exact V.zret (pc := 21) hO (v_z01 hb) dX12_isDriven_21 (v_finI h)
      · rw [if_pos c] at h
        refine V.iconst (pc := 16) (v := 1) hK (by decide) dX12_isDriven_16 ?_
        refine V.goto (pc := 17) (tgt := 21) hK dX12_isDriven_17 (by decide) ?_
        obtain ⟨hb, h⟩ := v_ckS h
        exact V.zret (pc := 21) hO (v_z01 hb) dX12_isDriven_21 (v_finI h)
set_option maxHeartbeats 4000000 in
set_option maxRecDepth 100000 in
theorem c_X12_part (E : v_E) {sh : v_S} {P : v_P} (hL : v_Lay sh P) (N : Nat) (x1 : Int32) (x2 : Int32) (x3 : Int32) (x4 : Int32) (x5 : Int32) (x6 : Int32) (x7 : Int32) (M : v_M) {out : Int32 × v_M} (h : f_X12_part N x1 x2 x3 x4 x5 x6 x7 M = some out) : v_Ct E 3 yX12_part cX12_part 8 (some .int) 0 0 [v_rf E 79, .int x1, .int x2, .int x3, .int x4, .int x5, .int x6, .int x7] sh P M (v_Q1 (some (.int out.1)) sh P out.2) := by
  refine v_Ct.of (by decide +kernel) (Nat.le_of_ble_eq_true rfl) (fun X hO => ?_)
  have hK : v_K E X cX12_part RX12 8 3 := hO.1
  have hO : v_O E X cX12_part RX12 8 3 (some .int) "part" (v_Q1 (some (.int out.1)) sh P out.2) := hO
  show V E X (0, 0) 0 [(0, v_rf E 79), (1, .int x1), (2, .int x2), (3, .int x3), (4, .int x4), (5, .int x5), (6, .int x6), (7, .int x7)] [] sh P M
  unfold f_X12_part at h
  refine V.aload_n (pc := 0) (i := 0) hK rfl ⟨_, rfl⟩ dX12_part_0 ?_
  refine V.getI (pc := 1) hK fl_RX12_236 rfl (hL.1 79 _ ls_79) dX12_part_1 ?_
  refine V.bipush (pc := 4) (v := 24) hK (by decide) dX12_part_4 ?_
  refine V.icmp_eq (pc := 6) (tgt := 104) hK dX12_part_6 (by decide) (fun c => ?_) (fun c => ?_)
  · rw [if_pos c] at h
    refine V.iconst (pc := 104) (v := -1) hK (by decide) dX12_part_104 ?_
    exact V.iret (pc := 105) hO dX12_part_105 (v_finI h)
  · rw [if_neg c] at h
    refine V.iload_n (pc := 9) (i := 1) hK rfl dX12_part_9 ?_
    refine V.i2l (pc := 10) hK dX12_part_10 ?_
    refine V.lconst (pc := 11) (v := 0) hK (by decide) dX12_part_11 ?_
    refine V.ldc2 (pc := 12) hK tw_1412 dX12_part_12 ?_
    obtain ⟨z1, hz1, h⟩ := v_bdS h
    refine V.cS (pc := 15) hK (c_X12_in E hL N _ _ _ _ hz1) Y_X12_in cs_RX12_229 dX12_part_15 (by decide) rfl (Nat.le_of_ble_eq_true rfl) ?_
    refine V.if_eq (pc := 18) (tgt := 104) hK dX12_part_18 (by decide) (fun c => ?_) (fun c => ?_)
    · rw [if_pos c] at h
      refine V.iconst (pc := 104) (v := -1) hK (by decide) dX12_part_104 ?_
      exact V.iret (pc := 105) hO dX12_part_105 (v_finI h)
    · rw [if_neg c] at h
      refine V.aload_n (pc := 21) (i := 0) hK rfl ⟨_, rfl⟩ dX12_part_21 ?_
      refine V.iload_n (pc := 22) (i := 1) hK rfl dX12_part_22 ?_
      refine V.iload_n (pc := 23) (i := 2) hK rfl dX12_part_23 ?_
      obtain ⟨z2, hz2, h⟩ := v_bdS h
      refine V.cV (pc := 24) (ci := 12) hK (c_X12_isDriven E hL N _ _ _ hz2) Y_X12_isDriven cv_RX12_248 (by decide) rfl (hL.1 79 _ ls_79) dX12_part_24 (by decide) rfl (Nat.le_of_ble_eq_true rfl) ?_
      refine V.if_eq (pc := 27) (tgt := 104) hK dX12_part_27 (by decide) (fun c => ?_) (fun c => ?_)
      · rw [if_pos c] at h
        refine V.iconst (pc := 104) (v := -1) hK (by decide) dX12_part_104 ?_
        exact V.iret (pc := 105) hO dX12_part_105 (v_finI h)
      · rw [if_neg c] at h
        refine V.iload_n (pc := 30) (i := 3) hK rfl dX12_part_30 ?_
        refine V.i2l (pc := 31) hK dX12_part_31 ?_
        refine V.lconst (pc := 32) (v := 0) hK (by decide) dX12_part_32 ?_
        refine V.ldc2 (pc := 33) hK tw_1421 dX12_part_33 ?_
        obtain ⟨z3, hz3, h⟩ := v_bdS h
        refine V.cS (pc := 36) hK (c_X12_in E hL N _ _ _ _ hz3) Y_X12_in cs_RX12_229 dX12_part_36 (by decide) rfl (Nat.le_of_ble_eq_true rfl) ?_
        refine V.if_eq (pc := 39) (tgt := 104) hK dX12_part_39 (by decide) (fun c => ?_) (fun c => ?_)
        · rw [if_pos c] at h
          refine V.iconst (pc := 104) (v := -1) hK (by decide) dX12_part_104 ?_
          exact V.iret (pc := 105) hO dX12_part_105 (v_finI h)
        · rw [if_neg c] at h
          refine V.iload (pc := 42) (i := 4) hK rfl dX12_part_42 ?_
          refine V.i2l (pc := 44) hK dX12_part_44 ?_
          refine V.ldc2 (pc := 45) hK tw_1422 dX12_part_45 ?_
          refine V.ldc2 (pc := 48) hK tw_1421 dX12_part_48 ?_
          obtain ⟨z4, hz4, h⟩ := v_bdS h
          refine V.cS (pc := 51) hK (c_X12_in E hL N _ _ _ _ hz4) Y_X12_in cs_RX12_229 dX12_part_51 (by decide) rfl (Nat.le_of_ble_eq_true rfl) ?_
          refine V.if_eq (pc := 54) (tgt := 104) hK dX12_part_54 (by decide) (fun c => ?_) (fun c => ?_)
          · rw [if_pos c] at h
            refine V.iconst (pc := 104) (v := -1) hK (by decide) dX12_part_104 ?_
            exact V.iret (pc := 105) hO dX12_part_105 (v_finI h)
          · rw [if_neg c] at h
            refine V.iload (pc := 57) (i := 4) hK rfl dX12_part_57 ?_
            refine V.bipush (pc := 59) (v := 10) hK (by decide) dX12_part_59 ?_
            obtain ⟨hb, h⟩ := v_ckS h
            refine V.irem (pc := 61) hK (v_nzS hb) dX12_part_61 ?_
            refine V.if_eq (pc := 62) (tgt := 104) hK dX12_part_62 (by decide) (fun c => ?_) (fun c => ?_)
            · rw [if_pos c] at h
              refine V.iconst (pc := 104) (v := -1) hK (by decide) dX12_part_104 ?_
              exact V.iret (pc := 105) hO dX12_part_105 (v_finI h)
            · rw [if_neg c] at h
              refine V.iload (pc := 65) (i := 5) hK rfl dX12_part_65 ?_
              refine V.i2l (pc := 67) hK dX12_part_67 ?_
              refine V.lconst (pc := 68) (v := 0) hK (by decide) dX12_part_68 ?_
              refine V.ldc2 (pc := 69) hK tw_1423 dX12_part_69 ?_
              obtain ⟨z5, hz5, h⟩ := v_bdS h
              refine V.cS (pc := 72) hK (c_X12_in E hL N _ _ _ _ hz5) Y_X12_in cs_RX12_229 dX12_part_72 (by decide) rfl (Nat.le_of_ble_eq_true rfl) ?_
              refine V.if_eq (pc := 75) (tgt := 104) hK dX12_part_75 (by decide) (fun c => ?_) (fun c => ?_)
              · rw [if_pos c] at h
                refine V.iconst (pc := 104) (v := -1) hK (by decide) dX12_part_104 ?_
                exact V.iret (pc := 105) hO dX12_part_105 (v_finI h)
              · rw [if_neg c] at h
                refine V.iload (pc := 78) (i := 6) hK rfl dX12_part_78 ?_
                refine V.i2l (pc := 80) hK dX12_part_80 ?_
                refine V.lconst (pc := 81) (v := 0) hK (by decide) dX12_part_81 ?_
                refine V.ldc2 (pc := 82) hK tw_1423 dX12_part_82 ?_
                obtain ⟨z6, hz6, h⟩ := v_bdS h
                refine V.cS (pc := 85) hK (c_X12_in E hL N _ _ _ _ hz6) Y_X12_in cs_RX12_229 dX12_part_85 (by decide) rfl (Nat.le_of_ble_eq_true rfl) ?_
                refine V.if_eq (pc := 88) (tgt := 104) hK dX12_part_88 (by decide) (fun c => ?_) (fun c => ?_)
                · rw [if_pos c] at h
                  refine V.iconst (pc := 104) (v := -1) hK (by decide) dX12_part_104 ?_
                  exact V.iret (pc := 105) hO dX12_part_105 (v_finI h)
                · rw [if_neg c] at h
                  refine V.iload (pc := 91) (i := 7) hK rfl dX12_part_91 ?_
                  refine V.i2l (pc := 93) hK dX12_part_93 ?_
                  refine V.lconst (pc := 94) (v := 0) hK (by decide) dX12_part_94 ?_
                  refine V.ldc2 (pc := 95) hK tw_1423 dX12_part_95 ?_
                  obtain ⟨z7, hz7, h⟩ := v_bdS h
                  refine V.cS (pc := 98) hK (c_X12_in E hL N _ _ _ _ hz7) Y_X12_in cs_RX12_229 dX12_part_98 (by decide) rfl (Nat.le_of_ble_eq_true rfl) ?_
                  refine V.if_ne (pc := 101) (tgt := 106) hK dX12_part_101 (by decide) (fun c => ?_) (fun c => ?_)
                  · rw [if_neg c] at h
                    refine V.aload_n (pc := 106) (i := 0) hK rfl ⟨_, rfl⟩ dX12_part_106 ?_
                    refine V.getR (pc := 107) hK fl_RX12_9 rfl (hL.1 79 _ ls_79) (hL.2 79 4 80 rfl) dX12_part_107 ?_
                    refine V.aload_n (pc := 110) (i := 0) hK rfl ⟨_, rfl⟩ dX12_part_110 ?_
                    refine V.getI (pc := 111) hK fl_RX12_236 rfl (hL.1 79 _ ls_79) dX12_part_111 ?_
                    refine V.iload_n (pc := 114) (i := 1) hK rfl dX12_part_114 ?_
                    obtain ⟨hb, h⟩ := v_ckS h
                    refine V.iast (pc := 115) hK (hL.1 80 _ ls_80) (v_ibS hb) dX12_part_115 ?_
                    refine V.nmM (fun M8 eM8 => ?_)
                    have h := v_lt eM8 h
                    refine V.aload_n (pc := 116) (i := 0) hK rfl ⟨_, rfl⟩ dX12_part_116 ?_
                    refine V.getR (pc := 117) hK fl_RX12_13 rfl (hL.1 79 _ ls_79) (hL.2 79 5 81 rfl) dX12_part_117 ?_
                    refine V.aload_n (pc := 120) (i := 0) hK rfl ⟨_, rfl⟩ dX12_part_120 ?_
                    refine V.getI (pc := 121) hK fl_RX12_236 rfl (hL.1 79 _ ls_79) dX12_part_121 ?_
                    refine V.iload_n (pc := 124) (i := 2) hK rfl dX12_part_124 ?_
                    obtain ⟨hb, h⟩ := v_ckS h
                    refine V.iast (pc := 125) hK (hL.1 81 _ ls_81) (v_ibS hb) dX12_part_125 ?_
                    refine V.nmM (fun M9 eM9 => ?_)
                    have h := v_lt eM9 h
                    refine V.aload_n (pc := 126) (i := 0) hK rfl ⟨_, rfl⟩ dX12_part_126 ?_
                    refine V.getR (pc := 127) hK fl_RX12_16 rfl (hL.1 79 _ ls_79) (hL.2 79 6 82 rfl) dX12_part_127 ?_
                    refine V.aload_n (pc := 130) (i := 0) hK rfl ⟨_, rfl⟩ dX12_part_130 ?_
                    refine V.getI (pc := 131) hK fl_RX12_236 rfl (hL.1 79 _ ls_79) dX12_part_131 ?_
                    refine V.iload_n (pc := 134) (i := 3) hK rfl dX12_part_134 ?_
                    obtain ⟨hb, h⟩ := v_ckS h
                    refine V.iast (pc := 135) hK (hL.1 82 _ ls_82) (v_ibS hb) dX12_part_135 ?_
                    refine V.nmM (fun M10 eM10 => ?_)
                    have h := v_lt eM10 h
                    refine V.aload_n (pc := 136) (i := 0) hK rfl ⟨_, rfl⟩ dX12_part_136 ?_
                    refine V.getR (pc := 137) hK fl_RX12_19 rfl (hL.1 79 _ ls_79) (hL.2 79 7 83 rfl) dX12_part_137 ?_
                    refine V.aload_n (pc := 140) (i := 0) hK rfl ⟨_, rfl⟩ dX12_part_140 ?_
                    refine V.getI (pc := 141) hK fl_RX12_236 rfl (hL.1 79 _ ls_79) dX12_part_141 ?_
                    refine V.iload (pc := 144) (i := 4) hK rfl dX12_part_144 ?_
                    obtain ⟨hb, h⟩ := v_ckS h
                    refine V.iast (pc := 146) hK (hL.1 83 _ ls_83) (v_ibS hb) dX12_part_146 ?_
                    refine V.nmM (fun M11 eM11 => ?_)
                    have h := v_lt eM11 h
                    refine V.aload_n (pc := 147) (i := 0) hK rfl ⟨_, rfl⟩ dX12_part_147 ?_
                    refine V.getR (pc := 148) hK fl_RX12_22 rfl (hL.1 79 _ ls_79) (hL.2 79 8 84 rfl) dX12_part_148 ?_
                    refine V.aload_n (pc := 151) (i := 0) hK rfl ⟨_, rfl⟩ dX12_part_151 ?_
                    refine V.getI (pc := 152) hK fl_RX12_236 rfl (hL.1 79 _ ls_79) dX12_part_152 ?_
                    refine V.iload (pc := 155) (i := 5) hK rfl dX12_part_155 ?_
                    obtain ⟨hb, h⟩ := v_ckS h
                    refine V.iast (pc := 157) hK (hL.1 84 _ ls_84) (v_ibS hb) dX12_part_157 ?_
                    refine V.nmM (fun M12 eM12 => ?_)
                    have h := v_lt eM12 h
                    refine V.aload_n (pc := 158) (i := 0) hK rfl ⟨_, rfl⟩ dX12_part_158 ?_
                    refine V.getR (pc := 159) hK fl_RX12_25 rfl (hL.1 79 _ ls_79) (hL.2 79 9 85 rfl) dX12_part_159 ?_
                    refine V.aload_n (pc := 162) (i := 0) hK rfl ⟨_, rfl⟩ dX12_part_162 ?_
                    refine V.getI (pc := 163) hK fl_RX12_236 rfl (hL.1 79 _ ls_79) dX12_part_163 ?_
                    refine V.iload (pc := 166) (i := 6) hK rfl dX12_part_166 ?_
                    obtain ⟨hb, h⟩ := v_ckS h
                    refine V.iast (pc := 168) hK (hL.1 85 _ ls_85) (v_ibS hb) dX12_part_168 ?_
                    refine V.nmM (fun M13 eM13 => ?_)
                    have h := v_lt eM13 h
                    refine V.aload_n (pc := 169) (i := 0) hK rfl ⟨_, rfl⟩ dX12_part_169 ?_
                    refine V.getR (pc := 170) hK fl_RX12_28 rfl (hL.1 79 _ ls_79) (hL.2 79 10 86 rfl) dX12_part_170 ?_
                    refine V.aload_n (pc := 173) (i := 0) hK rfl ⟨_, rfl⟩ dX12_part_173 ?_
                    refine V.getI (pc := 174) hK fl_RX12_236 rfl (hL.1 79 _ ls_79) dX12_part_174 ?_
                    refine V.iload (pc := 177) (i := 7) hK rfl dX12_part_177 ?_
                    obtain ⟨hb, h⟩ := v_ckS h
                    refine V.iast (pc := 179) hK (hL.1 86 _ ls_86) (v_ibS hb) dX12_part_179 ?_
                    refine V.nmM (fun M14 eM14 => ?_)
                    have h := v_lt eM14 h
                    refine V.aload_n (pc := 180) (i := 0) hK rfl ⟨_, rfl⟩ dX12_part_180 ?_
                    refine V.getR (pc := 181) hK fl_RX12_31 rfl (hL.1 79 _ ls_79) (hL.2 79 11 87 rfl) dX12_part_181 ?_
                    refine V.aload_n (pc := 184) (i := 0) hK rfl ⟨_, rfl⟩ dX12_part_184 ?_
                    refine V.getI (pc := 185) hK fl_RX12_236 rfl (hL.1 79 _ ls_79) dX12_part_185 ?_
                    refine V.iconst (pc := 188) (v := 0) hK (by decide) dX12_part_188 ?_
                    obtain ⟨hb, h⟩ := v_ckS h
                    refine V.iast (pc := 189) hK (hL.1 87 _ ls_87) (v_ibS hb) dX12_part_189 ?_
                    refine V.nmM (fun M15 eM15 => ?_)
                    have h := v_lt eM15 h
                    refine V.aload_n (pc := 190) (i := 0) hK rfl ⟨_, rfl⟩ dX12_part_190 ?_
                    refine V.dup (pc := 191) hK rfl dX12_part_191 ?_
                    refine V.getI (pc := 192) hK fl_RX12_236 rfl (hL.1 79 _ ls_79) dX12_part_192 ?_
                    refine V.iconst (pc := 195) (v := 1) hK (by decide) dX12_part_195 ?_
                    refine V.iadd (pc := 196) hK dX12_part_196 ?_
                    refine V.putI (pc := 197) hK fl_RX12_236 rfl rfl ⟨rfl, rfl⟩ (hL.1 79 _ ls_79) dX12_part_197 ?_
                    refine V.nmM (fun M16 eM16 => ?_)
                    have h := v_lt eM16 h
                    refine V.aload_n (pc := 200) (i := 0) hK rfl ⟨_, rfl⟩ dX12_part_200 ?_
                    refine V.getI (pc := 201) hK fl_RX12_236 rfl (hL.1 79 _ ls_79) dX12_part_201 ?_
                    refine V.iconst (pc := 204) (v := 1) hK (by decide) dX12_part_204 ?_
                    refine V.isub (pc := 205) hK dX12_part_205 ?_
                    exact V.iret (pc := 206) hO dX12_part_206 (v_finI h)
                  · rw [if_pos c] at h
                    refine V.iconst (pc := 104) (v := -1) hK (by decide) dX12_part_104 ?_
                    exact V.iret (pc := 105) hO dX12_part_105 (v_finI h)
set_option maxHeartbeats 4000000 in
set_option maxRecDepth 100000 in
theorem c_X12_clears (E : v_E) {sh : v_S} {P : v_P} (hL : v_Lay sh P) (N : Nat) (x1 : Int32) (x2 : Int32) (M : v_M) {out : Int32 × v_M} (h : f_X12_clears N x1 x2 M = some out) : v_Ct E 0 yX12_clears cX12_clears 3 none 0 0 [v_rf E 79, .int x1, .int x2] sh P M (v_Q1 (none) sh P out.2) := by
  refine v_Ct.of (by decide +kernel) (Nat.le_of_ble_eq_true rfl) (fun X hO => ?_)
  have hK : v_K E X cX12_clears RX12 3 0 := hO.1
  have hO : v_O E X cX12_clears RX12 3 0 none "clears" (v_Q1 (none) sh P out.2) := hO
  show V E X (0, 0) 0 [(0, v_rf E 79), (1, .int x1), (2, .int x2)] [] sh P M
  unfold f_X12_clears at h
  refine V.aload_n (pc := 0) (i := 0) hK rfl ⟨_, rfl⟩ dX12_clears_0 ?_
  refine V.getR (pc := 1) hK fl_RX12_34 rfl (hL.1 79 _ ls_79) (hL.2 79 12 88 rfl) dX12_clears_1 ?_
  refine V.bipush (pc := 4) (v := 24) hK (by decide) dX12_clears_4 ?_
  refine V.iload_n (pc := 6) (i := 1) hK rfl dX12_clears_6 ?_
  refine V.imul (pc := 7) hK dX12_clears_7 ?_
  refine V.iload_n (pc := 8) (i := 2) hK rfl dX12_clears_8 ?_
  refine V.iadd (pc := 9) hK dX12_clears_9 ?_
  refine V.iconst (pc := 10) (v := 0) hK (by decide) dX12_clears_10 ?_
  obtain ⟨hb, h⟩ := v_ckS h
  refine V.iast (pc := 11) hK (hL.1 88 _ ls_88) (v_ibS hb) dX12_clears_11 ?_
  refine V.nmM (fun M1 eM1 => ?_)
  have h := v_lt eM1 h
  refine V.aload_n (pc := 12) (i := 0) hK rfl ⟨_, rfl⟩ dX12_clears_12 ?_
  refine V.getR (pc := 13) hK fl_RX12_37 rfl (hL.1 79 _ ls_79) (hL.2 79 13 89 rfl) dX12_clears_13 ?_
  refine V.bipush (pc := 16) (v := 24) hK (by decide) dX12_clears_16 ?_
  refine V.iload_n (pc := 18) (i := 1) hK rfl dX12_clears_18 ?_
  refine V.imul (pc := 19) hK dX12_clears_19 ?_
  refine V.iload_n (pc := 20) (i := 2) hK rfl dX12_clears_20 ?_
  refine V.iadd (pc := 21) hK dX12_clears_21 ?_
  refine V.iconst (pc := 22) (v := 0) hK (by decide) dX12_clears_22 ?_
  obtain ⟨hb, h⟩ := v_ckS h
  refine V.iast (pc := 23) hK (hL.1 89 _ ls_89) (v_ibS hb) dX12_clears_23 ?_
  refine V.nmM (fun M2 eM2 => ?_)
  have h := v_lt eM2 h
  refine V.aload_n (pc := 24) (i := 0) hK rfl ⟨_, rfl⟩ dX12_clears_24 ?_
  refine V.getR (pc := 25) hK fl_RX12_40 rfl (hL.1 79 _ ls_79) (hL.2 79 14 90 rfl) dX12_clears_25 ?_
  refine V.bipush (pc := 28) (v := 24) hK (by decide) dX12_clears_28 ?_
  refine V.iload_n (pc := 30) (i := 1) hK rfl dX12_clears_30 ?_
  refine V.imul (pc := 31) hK dX12_clears_31 ?_
  refine V.iload_n (pc := 32) (i := 2) hK rfl dX12_clears_32 ?_
  refine V.iadd (pc := 33) hK dX12_clears_33 ?_
  refine V.iconst (pc := 34) (v := 0) hK (by decide) dX12_clears_34 ?_
  obtain ⟨hb, h⟩ := v_ckS h
  refine V.iast (pc := 35) hK (hL.1 90 _ ls_90) (v_ibS hb) dX12_clears_35 ?_
  refine V.nmM (fun M3 eM3 => ?_)
  have h := v_lt eM3 h
  refine V.aload_n (pc := 36) (i := 0) hK rfl ⟨_, rfl⟩ dX12_clears_36 ?_
  refine V.getR (pc := 37) hK fl_RX12_43 rfl (hL.1 79 _ ls_79) (hL.2 79 15 91 rfl) dX12_clears_37 ?_
  refine V.bipush (pc := 40) (v := 24) hK (by decide) dX12_clears_40 ?_
  refine V.iload_n (pc := 42) (i := 1) hK rfl dX12_clears_42 ?_
  refine V.imul (pc := 43) hK dX12_clears_43 ?_
  refine V.iload_n (pc := 44) (i := 2) hK rfl dX12_clears_44 ?_
  refine V.iadd (pc := 45) hK dX12_clears_45 ?_
  refine V.iconst (pc := 46) (v := 0) hK (by decide) dX12_clears_46 ?_
  obtain ⟨hb, h⟩ := v_ckS h
  refine V.iast (pc := 47) hK (hL.1 91 _ ls_91) (v_ibS hb) dX12_clears_47 ?_
  refine V.nmM (fun M4 eM4 => ?_)
  have h := v_lt eM4 h
  exact V.vret (pc := 48) hO dX12_clears_48 (v_finV h)
set_option maxHeartbeats 4000000 in
set_option maxRecDepth 100000 in
theorem w_X12_turn_L82 {E : v_E} {X : v_X} {sh : v_S} {P : v_P} {out : Int32 × v_M} (hL : v_Lay sh P) (hO : v_O E X cX12_turn RX12 7 2 (some .int) "turn" (v_Q1 (some (.int out.1)) sh P out.2)) (N : Nat) (x3 : Int32) (x4 : Int32) (x5 : Int32) (t0 : Int32) (M : v_M) (h : f_X12_turn_L82 N x3 x4 x5 t0 M = some out) : V E X (0, 0) 82 [(0, v_rf E 79), (3, .int x3), (4, .int x4), (5, .int x5)] [.int t0] sh P M := by
  have hK := hO.1
  unfold f_X12_turn_L82 at h
  refine V.istore (pc := 82) (i := 6) (lv' := [(0, _), (3, _), (4, _), (5, _), (6, _)]) hK (by decide) rfl dX12_turn_82 ?_
  refine V.iload_n (pc := 84) (i := 3) hK rfl dX12_turn_84 ?_
  refine V.if_ne (pc := 85) (tgt := 100) hK dX12_turn_85 (by decide) (fun c => ?_) (fun c => ?_)
  · rw [if_neg c] at h
    refine V.aload_n (pc := 100) (i := 0) hK rfl ⟨_, rfl⟩ dX12_turn_100 ?_
    refine V.getR (pc := 101) hK fl_RX12_37 rfl (hL.1 79 _ ls_79) (hL.2 79 13 89 rfl) dX12_turn_101 ?_
    refine V.iload (pc := 104) (i := 5) hK rfl dX12_turn_104 ?_
    refine V.iload (pc := 106) (i := 4) hK rfl dX12_turn_106 ?_
    obtain ⟨hb, h⟩ := v_ckS h
    refine V.iast (pc := 108) hK (hL.1 89 _ ls_89) (v_ibS hb) dX12_turn_108 ?_
    refine V.nmM (fun M1 eM1 => ?_)
    have h := v_lt eM1 h
    refine V.iload (pc := 109) (i := 6) hK rfl dX12_turn_109 ?_
    exact V.iret (pc := 111) hO dX12_turn_111 (v_finI h)
  · rw [if_pos c] at h
    refine V.aload_n (pc := 88) (i := 0) hK rfl ⟨_, rfl⟩ dX12_turn_88 ?_
    refine V.getR (pc := 89) hK fl_RX12_34 rfl (hL.1 79 _ ls_79) (hL.2 79 12 88 rfl) dX12_turn_89 ?_
    refine V.iload (pc := 92) (i := 5) hK rfl dX12_turn_92 ?_
    refine V.iload (pc := 94) (i := 4) hK rfl dX12_turn_94 ?_
    obtain ⟨hb, h⟩ := v_ckS h
    refine V.iast (pc := 96) hK (hL.1 88 _ ls_88) (v_ibS hb) dX12_turn_96 ?_
    refine V.nmM (fun M2 eM2 => ?_)
    have h := v_lt eM2 h
    refine V.goto (pc := 97) (tgt := 109) hK dX12_turn_97 (by decide) ?_
    refine V.iload (pc := 109) (i := 6) hK rfl dX12_turn_109 ?_
    exact V.iret (pc := 111) hO dX12_turn_111 (v_finI h)
set_option maxHeartbeats 4000000 in
set_option maxRecDepth 100000 in
theorem w_X12_turn_L40 {E : v_E} {X : v_X} {sh : v_S} {P : v_P} {out : Int32 × v_M} (hL : v_Lay sh P) (hO : v_O E X cX12_turn RX12 7 2 (some .int) "turn" (v_Q1 (some (.int out.1)) sh P out.2)) (N : Nat) (x1 : Int32) (x2 : Int32) (x3 : Int32) (x4 : Int32) (l0 : Int64) (l1 : Int64) (M : v_M) (h : f_X12_turn_L40 N x1 x2 x3 x4 l0 l1 M = some out) : V E X (0, 0) 40 [(0, v_rf E 79), (1, .int x1), (2, .int x2), (3, .int x3), (4, .int x4)] [.long l0, .long l1] sh P M := by
  have hK := hO.1
  unfold f_X12_turn_L40 at h
  refine V.ldc2 (pc := 40) hK tw_1421 dX12_turn_40 ?_
  obtain ⟨z1, hz1, h⟩ := v_bdS h
  refine V.cS (pc := 43) hK (c_X12_in E hL N _ _ _ _ hz1) Y_X12_in cs_RX12_229 dX12_turn_43 (by decide) rfl (Nat.le_of_ble_eq_true rfl) ?_
  refine V.if_ne (pc := 46) (tgt := 53) hK dX12_turn_46 (by decide) (fun c => ?_) (fun c => ?_)
  · rw [if_neg c] at h
    refine V.bipush (pc := 53) (v := 24) hK (by decide) dX12_turn_53 ?_
    refine V.iload_n (pc := 55) (i := 1) hK rfl dX12_turn_55 ?_
    refine V.imul (pc := 56) hK dX12_turn_56 ?_
    refine V.iload_n (pc := 57) (i := 2) hK rfl dX12_turn_57 ?_
    refine V.iadd (pc := 58) hK dX12_turn_58 ?_
    refine V.topi (fun y2 ey2 => ?_)
    have h := v_lt ey2 h
    refine V.istore (pc := 59) (i := 5) (lv' := [(0, _), (1, _), (2, _), (3, _), (4, _), (5, _)]) hK (by decide) rfl dX12_turn_59 ?_
    refine V.iload_n (pc := 61) (i := 3) hK rfl dX12_turn_61 ?_
    refine V.if_ne (pc := 62) (tgt := 75) hK dX12_turn_62 (by decide) (fun c => ?_) (fun c => ?_)
    · rw [if_neg c] at h
      refine V.aload_n (pc := 75) (i := 0) hK rfl ⟨_, rfl⟩ dX12_turn_75 ?_
      refine V.getR (pc := 76) hK fl_RX12_37 rfl (hL.1 79 _ ls_79) (hL.2 79 13 89 rfl) dX12_turn_76 ?_
      refine V.iload (pc := 79) (i := 5) hK rfl dX12_turn_79 ?_
      obtain ⟨hb, h⟩ := v_ckS h
      refine V.iald (pc := 81) hK (hL.1 89 _ ls_89) (v_ibS hb) dX12_turn_81 ?_
      refine V.pick [0, 3, 4, 5] (l := [(0, _), (3, _), (4, _), (5, _)]) rfl ?_
      exact w_X12_turn_L82 hL hO N _ _ _ _ _ h
    · rw [if_pos c] at h
      refine V.aload_n (pc := 65) (i := 0) hK rfl ⟨_, rfl⟩ dX12_turn_65 ?_
      refine V.getR (pc := 66) hK fl_RX12_34 rfl (hL.1 79 _ ls_79) (hL.2 79 12 88 rfl) dX12_turn_66 ?_
      refine V.iload (pc := 69) (i := 5) hK rfl dX12_turn_69 ?_
      obtain ⟨hb, h⟩ := v_ckS h
      refine V.iald (pc := 71) hK (hL.1 88 _ ls_88) (v_ibS hb) dX12_turn_71 ?_
      refine V.goto (pc := 72) (tgt := 82) hK dX12_turn_72 (by decide) ?_
      refine V.pick [0, 3, 4, 5] (l := [(0, _), (3, _), (4, _), (5, _)]) rfl ?_
      exact w_X12_turn_L82 hL hO N _ _ _ _ _ h
  · rw [if_pos c] at h
    refine V.sipush (pc := 49) (v := -1000) hK (by decide) dX12_turn_49 ?_
    exact V.iret (pc := 52) hO dX12_turn_52 (v_finI h)
set_option maxHeartbeats 4000000 in
set_option maxRecDepth 100000 in
theorem c_X12_turn (E : v_E) {sh : v_S} {P : v_P} (hL : v_Lay sh P) (N : Nat) (x1 : Int32) (x2 : Int32) (x3 : Int32) (x4 : Int32) (M : v_M) {out : Int32 × v_M} (h : f_X12_turn N x1 x2 x3 x4 M = some out) : v_Ct E 2 yX12_turn cX12_turn 7 (some .int) 0 0 [v_rf E 79, .int x1, .int x2, .int x3, .int x4] sh P M (v_Q1 (some (.int out.1)) sh P out.2) := by
  refine v_Ct.of (by decide +kernel) (Nat.le_of_ble_eq_true rfl) (fun X hO => ?_)
  have hK : v_K E X cX12_turn RX12 7 2 := hO.1
  have hO : v_O E X cX12_turn RX12 7 2 (some .int) "turn" (v_Q1 (some (.int out.1)) sh P out.2) := hO
  show V E X (0, 0) 0 [(0, v_rf E 79), (1, .int x1), (2, .int x2), (3, .int x3), (4, .int x4)] [] sh P M
  unfold f_X12_turn at h
  refine V.aload_n (pc := 0) (i := 0) hK rfl ⟨_, rfl⟩ dX12_turn_0 ?_
  refine V.iload_n (pc := 1) (i := 1) hK rfl dX12_turn_1 ?_
  obtain ⟨z1, hz1, h⟩ := v_bdS h
  refine V.cV (pc := 2) (ci := 12) hK (c_X12_isMachine E hL N _ _ hz1) Y_X12_isMachine cv_RX12_262 (by decide) rfl (hL.1 79 _ ls_79) dX12_turn_2 (by decide) rfl (Nat.le_of_ble_eq_true rfl) ?_
  refine V.if_eq (pc := 5) (tgt := 49) hK dX12_turn_5 (by decide) (fun c => ?_) (fun c => ?_)
  · rw [if_pos c] at h
    refine V.sipush (pc := 49) (v := -1000) hK (by decide) dX12_turn_49 ?_
    exact V.iret (pc := 52) hO dX12_turn_52 (v_finI h)
  · rw [if_neg c] at h
    refine V.aload_n (pc := 8) (i := 0) hK rfl ⟨_, rfl⟩ dX12_turn_8 ?_
    refine V.iload_n (pc := 9) (i := 2) hK rfl dX12_turn_9 ?_
    obtain ⟨z2, hz2, h⟩ := v_bdS h
    refine V.cV (pc := 10) (ci := 12) hK (c_X12_isPart E hL N _ _ hz2) Y_X12_isPart cv_RX12_242 (by decide) rfl (hL.1 79 _ ls_79) dX12_turn_10 (by decide) rfl (Nat.le_of_ble_eq_true rfl) ?_
    refine V.if_eq (pc := 13) (tgt := 49) hK dX12_turn_13 (by decide) (fun c => ?_) (fun c => ?_)
    · rw [if_pos c] at h
      refine V.sipush (pc := 49) (v := -1000) hK (by decide) dX12_turn_49 ?_
      exact V.iret (pc := 52) hO dX12_turn_52 (v_finI h)
    · rw [if_neg c] at h
      refine V.iload_n (pc := 16) (i := 3) hK rfl dX12_turn_16 ?_
      refine V.i2l (pc := 17) hK dX12_turn_17 ?_
      refine V.lconst (pc := 18) (v := 0) hK (by decide) dX12_turn_18 ?_
      refine V.lconst (pc := 19) (v := 1) hK (by decide) dX12_turn_19 ?_
      obtain ⟨z3, hz3, h⟩ := v_bdS h
      refine V.cS (pc := 20) hK (c_X12_in E hL N _ _ _ _ hz3) Y_X12_in cs_RX12_229 dX12_turn_20 (by decide) rfl (Nat.le_of_ble_eq_true rfl) ?_
      refine V.if_eq (pc := 23) (tgt := 49) hK dX12_turn_23 (by decide) (fun c => ?_) (fun c => ?_)
      · rw [if_pos c] at h
        refine V.sipush (pc := 49) (v := -1000) hK (by decide) dX12_turn_49 ?_
        exact V.iret (pc := 52) hO dX12_turn_52 (v_finI h)
      · rw [if_neg c] at h
        refine V.iload (pc := 26) (i := 4) hK rfl dX12_turn_26 ?_
        refine V.i2l (pc := 28) hK dX12_turn_28 ?_
        refine V.iload_n (pc := 29) (i := 3) hK rfl dX12_turn_29 ?_
        refine V.if_ne (pc := 30) (tgt := 37) hK dX12_turn_30 (by decide) (fun c => ?_) (fun c => ?_)
        · rw [if_neg c] at h
          refine V.ldc2 (pc := 37) hK tw_1440 dX12_turn_37 ?_
          refine V.pick [0, 1, 2, 3, 4] (l := [(0, _), (1, _), (2, _), (3, _), (4, _)]) rfl ?_
          exact w_X12_turn_L40 hL hO N _ _ _ _ _ _ _ h
        · rw [if_pos c] at h
          refine V.lconst (pc := 33) (v := 0) hK (by decide) dX12_turn_33 ?_
          refine V.goto (pc := 34) (tgt := 40) hK dX12_turn_34 (by decide) ?_
          refine V.pick [0, 1, 2, 3, 4] (l := [(0, _), (1, _), (2, _), (3, _), (4, _)]) rfl ?_
          exact w_X12_turn_L40 hL hO N _ _ _ _ _ _ _ h
set_option maxHeartbeats 4000000 in
set_option maxRecDepth 100000 in
theorem c_X12_anew (E : v_E) {sh : v_S} {P : v_P} (hL : v_Lay sh P) (N : Nat) (x1 : Int32) (x2 : Int32) (M : v_M) {out : Int32 × v_M} (h : f_X12_anew N x1 x2 M = some out) : v_Ct E 2 yX12_anew cX12_anew 4 (some .int) 0 0 [v_rf E 79, .int x1, .int x2] sh P M (v_Q1 (some (.int out.1)) sh P out.2) := by
  refine v_Ct.of (by decide +kernel) (Nat.le_of_ble_eq_true rfl) (fun X hO => ?_)
  have hK : v_K E X cX12_anew RX12 4 2 := hO.1
  have hO : v_O E X cX12_anew RX12 4 2 (some .int) "anew" (v_Q1 (some (.int out.1)) sh P out.2) := hO
  show V E X (0, 0) 0 [(0, v_rf E 79), (1, .int x1), (2, .int x2)] [] sh P M
  unfold f_X12_anew at h
  refine V.aload_n (pc := 0) (i := 0) hK rfl ⟨_, rfl⟩ dX12_anew_0 ?_
  refine V.iload_n (pc := 1) (i := 1) hK rfl dX12_anew_1 ?_
  obtain ⟨z1, hz1, h⟩ := v_bdS h
  refine V.cV (pc := 2) (ci := 12) hK (c_X12_isMachine E hL N _ _ hz1) Y_X12_isMachine cv_RX12_262 (by decide) rfl (hL.1 79 _ ls_79) dX12_anew_2 (by decide) rfl (Nat.le_of_ble_eq_true rfl) ?_
  refine V.if_eq (pc := 5) (tgt := 26) hK dX12_anew_5 (by decide) (fun c => ?_) (fun c => ?_)
  · rw [if_pos c] at h
    refine V.iconst (pc := 26) (v := -1) hK (by decide) dX12_anew_26 ?_
    exact V.iret (pc := 27) hO dX12_anew_27 (v_finI h)
  · rw [if_neg c] at h
    refine V.aload_n (pc := 8) (i := 0) hK rfl ⟨_, rfl⟩ dX12_anew_8 ?_
    refine V.iload_n (pc := 9) (i := 2) hK rfl dX12_anew_9 ?_
    obtain ⟨z2, hz2, h⟩ := v_bdS h
    refine V.cV (pc := 10) (ci := 12) hK (c_X12_isPart E hL N _ _ hz2) Y_X12_isPart cv_RX12_242 (by decide) rfl (hL.1 79 _ ls_79) dX12_anew_10 (by decide) rfl (Nat.le_of_ble_eq_true rfl) ?_
    refine V.if_eq (pc := 13) (tgt := 26) hK dX12_anew_13 (by decide) (fun c => ?_) (fun c => ?_)
    · rw [if_pos c] at h
      refine V.iconst (pc := 26) (v := -1) hK (by decide) dX12_anew_26 ?_
      exact V.iret (pc := 27) hO dX12_anew_27 (v_finI h)
    · rw [if_neg c] at h
      refine V.aload_n (pc := 16) (i := 0) hK rfl ⟨_, rfl⟩ dX12_anew_16 ?_
      refine V.getR (pc := 17) hK fl_RX12_9 rfl (hL.1 79 _ ls_79) (hL.2 79 4 80 rfl) dX12_anew_17 ?_
      refine V.iload_n (pc := 20) (i := 2) hK rfl dX12_anew_20 ?_
      obtain ⟨hb, h⟩ := v_ckS h
      refine V.iald (pc := 21) hK (hL.1 80 _ ls_80) (v_ibS hb) dX12_anew_21 ?_
      refine V.iconst (pc := 22) (v := 1) hK (by decide) dX12_anew_22 ?_
      refine V.icmp_eq (pc := 23) (tgt := 28) hK dX12_anew_23 (by decide) (fun c => ?_) (fun c => ?_)
      · rw [if_pos c] at h
        refine V.aload_n (pc := 28) (i := 0) hK rfl ⟨_, rfl⟩ dX12_anew_28 ?_
        refine V.getR (pc := 29) hK fl_RX12_40 rfl (hL.1 79 _ ls_79) (hL.2 79 14 90 rfl) dX12_anew_29 ?_
        refine V.bipush (pc := 32) (v := 24) hK (by decide) dX12_anew_32 ?_
        refine V.iload_n (pc := 34) (i := 1) hK rfl dX12_anew_34 ?_
        refine V.imul (pc := 35) hK dX12_anew_35 ?_
        refine V.iload_n (pc := 36) (i := 2) hK rfl dX12_anew_36 ?_
        refine V.iadd (pc := 37) hK dX12_anew_37 ?_
        obtain ⟨hb, h⟩ := v_ckS h
        refine V.iald (pc := 38) hK (hL.1 90 _ ls_90) (v_ibS hb) dX12_anew_38 ?_
        refine V.topi (fun y3 ey3 => ?_)
        have h := v_lt ey3 h
        refine V.istore_n (pc := 39) (i := 3) (lv' := [(0, _), (1, _), (2, _), (3, _)]) hK (by decide) rfl dX12_anew_39 ?_
        refine V.aload_n (pc := 40) (i := 0) hK rfl ⟨_, rfl⟩ dX12_anew_40 ?_
        refine V.getR (pc := 41) hK fl_RX12_40 rfl (hL.1 79 _ ls_79) (hL.2 79 14 90 rfl) dX12_anew_41 ?_
        refine V.bipush (pc := 44) (v := 24) hK (by decide) dX12_anew_44 ?_
        refine V.iload_n (pc := 46) (i := 1) hK rfl dX12_anew_46 ?_
        refine V.imul (pc := 47) hK dX12_anew_47 ?_
        refine V.iload_n (pc := 48) (i := 2) hK rfl dX12_anew_48 ?_
        refine V.iadd (pc := 49) hK dX12_anew_49 ?_
        refine V.iconst (pc := 50) (v := 0) hK (by decide) dX12_anew_50 ?_
        obtain ⟨hb, h⟩ := v_ckS h
        refine V.iast (pc := 51) hK (hL.1 90 _ ls_90) (v_ibS hb) dX12_anew_51 ?_
        refine V.nmM (fun M4 eM4 => ?_)
        have h := v_lt eM4 h
        refine V.iload_n (pc := 52) (i := 3) hK rfl dX12_anew_52 ?_
        exact V.iret (pc := 53) hO dX12_anew_53 (v_finI h)
      · rw [if_neg c] at h
        refine V.iconst (pc := 26) (v := -1) hK (by decide) dX12_anew_26 ?_
        exact V.iret (pc := 27) hO dX12_anew_27 (v_finI h)
set_option maxHeartbeats 4000000 in
set_option maxRecDepth 100000 in
theorem w_X12_takes_L2 {E : v_E} {X : v_X} {sh : v_S} {P : v_P} {out : Int32 × v_M} (hL : v_Lay sh P) (hO : v_O E X cX12_takes RX12 4 0 none "takes" (v_Q1 (none) sh P out.2)) (N : Nat) (n : Nat) : ∀ (x1 : Int32) (x2 : Int32) (M : v_M), f_X12_takes_L2 N n x1 x2 M = some out → V E X (0, 0) 2 [(0, v_rf E 79), (1, .int x1), (2, .int x2)] [] sh P M := by
  have hK := hO.1
  induction n with
  | zero => intro x1 x2 M h; rw [f_X12_takes_L2] at h; cases h
  | succ n ih =>
    intro x1 x2 M h
    rw [f_X12_takes_L2] at h
    refine V.iload_n (pc := 2) (i := 2) hK rfl dX12_takes_2 ?_
    refine V.aload_n (pc := 3) (i := 0) hK rfl ⟨_, rfl⟩ dX12_takes_3 ?_
    refine V.getI (pc := 4) hK fl_RX12_236 rfl (hL.1 79 _ ls_79) dX12_takes_4 ?_
    refine V.icmp_ge (pc := 7) (tgt := 102) hK dX12_takes_7 (by decide) (fun c => ?_) (fun c => ?_)
    · rw [if_pos c] at h
      exact V.vret (pc := 102) hO dX12_takes_102 (v_finV h)
    · rw [if_neg c] at h
      refine V.bipush (pc := 10) (v := 24) hK (by decide) dX12_takes_10 ?_
      refine V.iload_n (pc := 12) (i := 1) hK rfl dX12_takes_12 ?_
      refine V.imul (pc := 13) hK dX12_takes_13 ?_
      refine V.iload_n (pc := 14) (i := 2) hK rfl dX12_takes_14 ?_
      refine V.iadd (pc := 15) hK dX12_takes_15 ?_
      refine V.topi (fun y1 ey1 => ?_)
      have h := v_lt ey1 h
      refine V.istore_n (pc := 16) (i := 3) (lv' := [(0, _), (1, _), (2, _), (3, _)]) hK (by decide) rfl dX12_takes_16 ?_
      refine V.aload_n (pc := 17) (i := 0) hK rfl ⟨_, rfl⟩ dX12_takes_17 ?_
      refine V.getR (pc := 18) hK fl_RX12_52 rfl (hL.1 79 _ ls_79) (hL.2 79 18 94 rfl) dX12_takes_18 ?_
      refine V.iload_n (pc := 21) (i := 2) hK rfl dX12_takes_21 ?_
      refine V.aload_n (pc := 22) (i := 0) hK rfl ⟨_, rfl⟩ dX12_takes_22 ?_
      refine V.getR (pc := 23) hK fl_RX12_16 rfl (hL.1 79 _ ls_79) (hL.2 79 6 82 rfl) dX12_takes_23 ?_
      refine V.iload_n (pc := 26) (i := 2) hK rfl dX12_takes_26 ?_
      obtain ⟨hb, h⟩ := v_ckS h
      refine V.iald (pc := 27) hK (hL.1 82 _ ls_82) (v_ibS hb) dX12_takes_27 ?_
      obtain ⟨hb, h⟩ := v_ckS h
      refine V.iast (pc := 28) hK (hL.1 94 _ ls_94) (v_ibS hb) dX12_takes_28 ?_
      refine V.nmM (fun M2 eM2 => ?_)
      have h := v_lt eM2 h
      refine V.aload_n (pc := 29) (i := 0) hK rfl ⟨_, rfl⟩ dX12_takes_29 ?_
      refine V.getR (pc := 30) hK fl_RX12_55 rfl (hL.1 79 _ ls_79) (hL.2 79 19 95 rfl) dX12_takes_30 ?_
      refine V.iload_n (pc := 33) (i := 2) hK rfl dX12_takes_33 ?_
      refine V.aload_n (pc := 34) (i := 0) hK rfl ⟨_, rfl⟩ dX12_takes_34 ?_
      refine V.getR (pc := 35) hK fl_RX12_28 rfl (hL.1 79 _ ls_79) (hL.2 79 10 86 rfl) dX12_takes_35 ?_
      refine V.iload_n (pc := 38) (i := 2) hK rfl dX12_takes_38 ?_
      obtain ⟨hb, h⟩ := v_ckS h
      refine V.iald (pc := 39) hK (hL.1 86 _ ls_86) (v_ibS hb) dX12_takes_39 ?_
      refine V.aload_n (pc := 40) (i := 0) hK rfl ⟨_, rfl⟩ dX12_takes_40 ?_
      refine V.getR (pc := 41) hK fl_RX12_37 rfl (hL.1 79 _ ls_79) (hL.2 79 13 89 rfl) dX12_takes_41 ?_
      refine V.iload_n (pc := 44) (i := 3) hK rfl dX12_takes_44 ?_
      obtain ⟨hb, h⟩ := v_ckS h
      refine V.iald (pc := 45) hK (hL.1 89 _ ls_89) (v_ibS hb) dX12_takes_45 ?_
      refine V.iadd (pc := 46) hK dX12_takes_46 ?_
      obtain ⟨hb, h⟩ := v_ckS h
      refine V.iast (pc := 47) hK (hL.1 95 _ ls_95) (v_ibS hb) dX12_takes_47 ?_
      refine V.nmM (fun M3 eM3 => ?_)
      have h := v_lt eM3 h
      refine V.aload_n (pc := 48) (i := 0) hK rfl ⟨_, rfl⟩ dX12_takes_48 ?_
      refine V.getR (pc := 49) hK fl_RX12_58 rfl (hL.1 79 _ ls_79) (hL.2 79 20 96 rfl) dX12_takes_49 ?_
      refine V.iload_n (pc := 52) (i := 2) hK rfl dX12_takes_52 ?_
      refine V.aload_n (pc := 53) (i := 0) hK rfl ⟨_, rfl⟩ dX12_takes_53 ?_
      refine V.getR (pc := 54) hK fl_RX12_25 rfl (hL.1 79 _ ls_79) (hL.2 79 9 85 rfl) dX12_takes_54 ?_
      refine V.iload_n (pc := 57) (i := 2) hK rfl dX12_takes_57 ?_
      obtain ⟨hb, h⟩ := v_ckS h
      refine V.iald (pc := 58) hK (hL.1 85 _ ls_85) (v_ibS hb) dX12_takes_58 ?_
      obtain ⟨hb, h⟩ := v_ckS h
      refine V.iast (pc := 59) hK (hL.1 96 _ ls_96) (v_ibS hb) dX12_takes_59 ?_
      refine V.nmM (fun M4 eM4 => ?_)
      have h := v_lt eM4 h
      refine V.aload_n (pc := 60) (i := 0) hK rfl ⟨_, rfl⟩ dX12_takes_60 ?_
      refine V.getR (pc := 61) hK fl_RX12_61 rfl (hL.1 79 _ ls_79) (hL.2 79 21 97 rfl) dX12_takes_61 ?_
      refine V.iload_n (pc := 64) (i := 2) hK rfl dX12_takes_64 ?_
      refine V.aload_n (pc := 65) (i := 0) hK rfl ⟨_, rfl⟩ dX12_takes_65 ?_
      refine V.getR (pc := 66) hK fl_RX12_34 rfl (hL.1 79 _ ls_79) (hL.2 79 12 88 rfl) dX12_takes_66 ?_
      refine V.iload_n (pc := 69) (i := 3) hK rfl dX12_takes_69 ?_
      obtain ⟨hb, h⟩ := v_ckS h
      refine V.iald (pc := 70) hK (hL.1 88 _ ls_88) (v_ibS hb) dX12_takes_70 ?_
      obtain ⟨hb, h⟩ := v_ckS h
      refine V.iast (pc := 71) hK (hL.1 97 _ ls_97) (v_ibS hb) dX12_takes_71 ?_
      refine V.nmM (fun M5 eM5 => ?_)
      have h := v_lt eM5 h
      refine V.aload_n (pc := 72) (i := 0) hK rfl ⟨_, rfl⟩ dX12_takes_72 ?_
      refine V.getR (pc := 73) hK fl_RX12_64 rfl (hL.1 79 _ ls_79) (hL.2 79 22 98 rfl) dX12_takes_73 ?_
      refine V.iload_n (pc := 76) (i := 2) hK rfl dX12_takes_76 ?_
      refine V.aload_n (pc := 77) (i := 0) hK rfl ⟨_, rfl⟩ dX12_takes_77 ?_
      refine V.getR (pc := 78) hK fl_RX12_40 rfl (hL.1 79 _ ls_79) (hL.2 79 14 90 rfl) dX12_takes_78 ?_
      refine V.iload_n (pc := 81) (i := 3) hK rfl dX12_takes_81 ?_
      obtain ⟨hb, h⟩ := v_ckS h
      refine V.iald (pc := 82) hK (hL.1 90 _ ls_90) (v_ibS hb) dX12_takes_82 ?_
      obtain ⟨hb, h⟩ := v_ckS h
      refine V.iast (pc := 83) hK (hL.1 98 _ ls_98) (v_ibS hb) dX12_takes_83 ?_
      refine V.nmM (fun M6 eM6 => ?_)
      have h := v_lt eM6 h
      refine V.aload_n (pc := 84) (i := 0) hK rfl ⟨_, rfl⟩ dX12_takes_84 ?_
      refine V.getR (pc := 85) hK fl_RX12_67 rfl (hL.1 79 _ ls_79) (hL.2 79 23 99 rfl) dX12_takes_85 ?_
      refine V.iload_n (pc := 88) (i := 2) hK rfl dX12_takes_88 ?_
      refine V.aload_n (pc := 89) (i := 0) hK rfl ⟨_, rfl⟩ dX12_takes_89 ?_
      refine V.getR (pc := 90) hK fl_RX12_43 rfl (hL.1 79 _ ls_79) (hL.2 79 15 91 rfl) dX12_takes_90 ?_
      refine V.iload_n (pc := 93) (i := 3) hK rfl dX12_takes_93 ?_
      obtain ⟨hb, h⟩ := v_ckS h
      refine V.iald (pc := 94) hK (hL.1 91 _ ls_91) (v_ibS hb) dX12_takes_94 ?_
      obtain ⟨hb, h⟩ := v_ckS h
      refine V.iast (pc := 95) hK (hL.1 99 _ ls_99) (v_ibS hb) dX12_takes_95 ?_
      refine V.nmM (fun M7 eM7 => ?_)
      have h := v_lt eM7 h
      refine V.iinc (pc := 96) (i := 2) (v := 1) (lv' := [(0, _), (1, _), (2, _), (3, _)]) hK rfl (by decide) (by decide) rfl dX12_takes_96 ?_
      refine V.goto (pc := 99) (tgt := 2) hK dX12_takes_99 (by decide) ?_
      refine V.pick [0, 1, 2] (l := [(0, _), (1, _), (2, _)]) rfl ?_
      exact ih _ _ _ h
set_option maxHeartbeats 4000000 in
set_option maxRecDepth 100000 in
theorem c_X12_takes (E : v_E) {sh : v_S} {P : v_P} (hL : v_Lay sh P) (N : Nat) (x1 : Int32) (M : v_M) {out : Int32 × v_M} (h : f_X12_takes N x1 M = some out) : v_Ct E 0 yX12_takes cX12_takes 4 none 0 0 [v_rf E 79, .int x1] sh P M (v_Q1 (none) sh P out.2) := by
  refine v_Ct.of (by decide +kernel) (Nat.le_of_ble_eq_true rfl) (fun X hO => ?_)
  have hK : v_K E X cX12_takes RX12 4 0 := hO.1
  have hO : v_O E X cX12_takes RX12 4 0 none "takes" (v_Q1 (none) sh P out.2) := hO
  show V E X (0, 0) 0 [(0, v_rf E 79), (1, .int x1)] [] sh P M
  unfold f_X12_takes at h
  refine V.iconst (pc := 0) (v := 0) hK (by decide) dX12_takes_0 ?_
  refine V.istore_n (pc := 1) (i := 2) (lv' := [(0, _), (1, _), (2, _)]) hK (by decide) rfl dX12_takes_1 ?_
  refine V.pick [0, 1, 2] (l := [(0, _), (1, _), (2, _)]) rfl ?_
  exact w_X12_takes_L2 hL hO N N _ _ _ h
set_option maxHeartbeats 4000000 in
set_option maxRecDepth 100000 in
theorem w_X12_lets_L212 {E : v_E} {X : v_X} {sh : v_S} {P : v_P} {out : Int32 × v_M} (hL : v_Lay sh P) (hO : v_O E X cX12_lets RX12 7 0 (some .boolean) "lets" (v_Q1 (some (.int out.1)) sh P out.2)) (N : Nat) (k5 : Int32 → Int32 → Int32 → Int32 → v_M → Option (Int32 × v_M)) (hk5 : ∀ (x1 : Int32) (x2 : Int32) (x3 : Int32) (x4 : Int32) (M : v_M), k5 x1 x2 x3 x4 M = some out → V E X (0, 0) 5 [(0, v_rf E 79), (1, .int x1), (2, .int x2), (3, .int x3), (4, .int x4)] [] sh P M) (x1 : Int32) (x2 : Int32) (x4 : Int32) (t0 : Int32) (M : v_M) (h : f_X12_lets_L212 N k5 x1 x2 x4 t0 M = some out) : V E X (0, 0) 212 [(0, v_rf E 79), (1, .int x1), (2, .int x2), (4, .int x4)] [.int t0] sh P M := by
  have hK := hO.1
  unfold f_X12_lets_L212 at h
  refine V.istore_n (pc := 212) (i := 3) (lv' := [(0, _), (1, _), (2, _), (3, _), (4, _)]) hK (by decide) rfl dX12_lets_212 ?_
  refine V.iinc (pc := 213) (i := 4) (v := 1) (lv' := [(0, _), (1, _), (2, _), (3, _), (4, _)]) hK rfl (by decide) (by decide) rfl dX12_lets_213 ?_
  refine V.goto (pc := 216) (tgt := 5) hK dX12_lets_216 (by decide) ?_
  refine V.pick [0, 1, 2, 3, 4] (l := [(0, _), (1, _), (2, _), (3, _), (4, _)]) rfl ?_
  exact hk5 _ _ _ _ _ h
set_option maxHeartbeats 4000000 in
set_option maxRecDepth 100000 in
theorem w_X12_lets_L211 {E : v_E} {X : v_X} {sh : v_S} {P : v_P} {out : Int32 × v_M} (hL : v_Lay sh P) (hO : v_O E X cX12_lets RX12 7 0 (some .boolean) "lets" (v_Q1 (some (.int out.1)) sh P out.2)) (N : Nat) (k5 : Int32 → Int32 → Int32 → Int32 → v_M → Option (Int32 × v_M)) (hk5 : ∀ (x1 : Int32) (x2 : Int32) (x3 : Int32) (x4 : Int32) (M : v_M), k5 x1 x2 x3 x4 M = some out → V E X (0, 0) 5 [(0, v_rf E 79), (1, .int x1), (2, .int x2), (3, .int x3), (4, .int x4)] [] sh P M) (x1 : Int32) (x2 : Int32) (x4 : Int32) (M : v_M) (h : f_X12_lets_L211 N k5 x1 x2 x4 M = some out) : V E X (0, 0) 211 [(0, v_rf E 79), (1, .int x1), (2, .int x2), (4, .int x4)] [] sh P M := by
  have hK := hO.1
  unfold f_X12_lets_L211 at h
  refine V.iconst (pc := 211) (v := 0) hK (by decide) dX12_lets_211 ?_
  refine V.pick [0, 1, 2, 4] (l := [(0, _), (1, _), (2, _), (4, _)]) rfl ?_
  exact w_X12_lets_L212 hL hO N _ hk5 _ _ _ _ _ h
set_option maxHeartbeats 4000000 in
set_option maxRecDepth 100000 in
theorem w_X12_lets_L207 {E : v_E} {X : v_X} {sh : v_S} {P : v_P} {out : Int32 × v_M} (hL : v_Lay sh P) (hO : v_O E X cX12_lets RX12 7 0 (some .boolean) "lets" (v_Q1 (some (.int out.1)) sh P out.2)) (N : Nat) (k5 : Int32 → Int32 → Int32 → Int32 → v_M → Option (Int32 × v_M)) (hk5 : ∀ (x1 : Int32) (x2 : Int32) (x3 : Int32) (x4 : Int32) (M : v_M), k5 x1 x2 x3 x4 M = some out → V E X (0, 0) 5 [(0, v_rf E 79), (1, .int x1), (2, .int x2), (3, .int x3), (4, .int x4)] [] sh P M) (x1 : Int32) (x2 : Int32) (x4 : Int32) (M : v_M) (h : f_X12_lets_L207 N k5 x1 x2 x4 M = some out) : V E X (0, 0) 207 [(0, v_rf E 79), (1, .int x1), (2, .int x2), (4, .int x4)] [] sh P M := by
  have hK := hO.1
  unfold f_X12_lets_L207 at h
  refine V.iconst (pc := 207) (v := 1) hK (by decide) dX12_lets_207 ?_
  refine V.goto (pc := 208) (tgt := 212) hK dX12_lets_208 (by decide) ?_
  refine V.pick [0, 1, 2, 4] (l := [(0, _), (1, _), (2, _), (4, _)]) rfl ?_
  exact w_X12_lets_L212 hL hO N _ hk5 _ _ _ _ _ h
set_option maxHeartbeats 4000000 in
set_option maxRecDepth 100000 in
theorem w_X12_lets_L163 {E : v_E} {X : v_X} {sh : v_S} {P : v_P} {out : Int32 × v_M} (hL : v_Lay sh P) (hO : v_O E X cX12_lets RX12 7 0 (some .boolean) "lets" (v_Q1 (some (.int out.1)) sh P out.2)) (N : Nat) (k5 : Int32 → Int32 → Int32 → Int32 → v_M → Option (Int32 × v_M)) (hk5 : ∀ (x1 : Int32) (x2 : Int32) (x3 : Int32) (x4 : Int32) (M : v_M), k5 x1 x2 x3 x4 M = some out → V E X (0, 0) 5 [(0, v_rf E 79), (1, .int x1), (2, .int x2), (3, .int x3), (4, .int x4)] [] sh P M) (x1 : Int32) (x2 : Int32) (x3 : Int32) (x4 : Int32) (t0 : Int32) (t1 : Int32) (M : v_M) (h : f_X12_lets_L163 N k5 x1 x2 x3 x4 t0 t1 M = some out) : V E X (0, 0) 163 [(0, v_rf E 79), (1, .int x1), (2, .int x2), (3, .int x3), (4, .int x4)] [.int t0, .int t1, v_rf E 99] sh P M := by
  have hK := hO.1
  unfold f_X12_lets_L163 at h
  obtain ⟨hb, h⟩ := v_ckS h
  refine V.iast (pc := 163) hK (hL.1 99 _ ls_99) (v_ibS hb) dX12_lets_163 ?_
  refine V.nmM (fun M1 eM1 => ?_)
  have h := v_lt eM1 h
  refine V.iload_n (pc := 164) (i := 3) hK rfl dX12_lets_164 ?_
  refine V.if_eq (pc := 165) (tgt := 211) hK dX12_lets_165 (by decide) (fun c => ?_) (fun c => ?_)
  · rw [if_pos c] at h
    refine V.pick [0, 1, 2, 4] (l := [(0, _), (1, _), (2, _), (4, _)]) rfl ?_
    exact w_X12_lets_L211 hL hO N _ hk5 _ _ _ _ h
  · rw [if_neg c] at h
    refine V.aload_n (pc := 168) (i := 0) hK rfl ⟨_, rfl⟩ dX12_lets_168 ?_
    refine V.getR (pc := 169) hK fl_RX12_70 rfl (hL.1 79 _ ls_79) (hL.2 79 24 100 rfl) dX12_lets_169 ?_
    refine V.iload (pc := 172) (i := 4) hK rfl dX12_lets_172 ?_
    obtain ⟨hb, h⟩ := v_ckS h
    refine V.iald (pc := 174) hK (hL.1 100 _ ls_100) (v_ibS hb) dX12_lets_174 ?_
    refine V.aload_n (pc := 175) (i := 0) hK rfl ⟨_, rfl⟩ dX12_lets_175 ?_
    refine V.getR (pc := 176) hK fl_RX12_22 rfl (hL.1 79 _ ls_79) (hL.2 79 8 84 rfl) dX12_lets_176 ?_
    refine V.iload (pc := 179) (i := 4) hK rfl dX12_lets_179 ?_
    obtain ⟨hb, h⟩ := v_ckS h
    refine V.iald (pc := 181) hK (hL.1 84 _ ls_84) (v_ibS hb) dX12_lets_181 ?_
    refine V.icmp_le (pc := 182) (tgt := 207) hK dX12_lets_182 (by decide) (fun c => ?_) (fun c => ?_)
    · rw [if_pos c] at h
      refine V.pick [0, 1, 2, 4] (l := [(0, _), (1, _), (2, _), (4, _)]) rfl ?_
      exact w_X12_lets_L207 hL hO N _ hk5 _ _ _ _ h
    · rw [if_neg c] at h
      refine V.aload_n (pc := 185) (i := 0) hK rfl ⟨_, rfl⟩ dX12_lets_185 ?_
      refine V.getR (pc := 186) hK fl_RX12_9 rfl (hL.1 79 _ ls_79) (hL.2 79 4 80 rfl) dX12_lets_186 ?_
      refine V.iload (pc := 189) (i := 4) hK rfl dX12_lets_189 ?_
      obtain ⟨hb, h⟩ := v_ckS h
      refine V.iald (pc := 191) hK (hL.1 80 _ ls_80) (v_ibS hb) dX12_lets_191 ?_
      refine V.iconst (pc := 192) (v := 1) hK (by decide) dX12_lets_192 ?_
      refine V.icmp_ne (pc := 193) (tgt := 211) hK dX12_lets_193 (by decide) (fun c => ?_) (fun c => ?_)
      · rw [if_neg c] at h
        refine V.pick [0, 1, 2, 4] (l := [(0, _), (1, _), (2, _), (4, _)]) rfl ?_
        exact w_X12_lets_L211 hL hO N _ hk5 _ _ _ _ h
      · rw [if_pos c] at h
        refine V.aload_n (pc := 196) (i := 0) hK rfl ⟨_, rfl⟩ dX12_lets_196 ?_
        refine V.getR (pc := 197) hK fl_RX12_58 rfl (hL.1 79 _ ls_79) (hL.2 79 20 96 rfl) dX12_lets_197 ?_
        refine V.iload (pc := 200) (i := 4) hK rfl dX12_lets_200 ?_
        obtain ⟨hb, h⟩ := v_ckS h
        refine V.iald (pc := 202) hK (hL.1 96 _ ls_96) (v_ibS hb) dX12_lets_202 ?_
        refine V.iload_n (pc := 203) (i := 2) hK rfl dX12_lets_203 ?_
        refine V.icmp_gt (pc := 204) (tgt := 211) hK dX12_lets_204 (by decide) (fun c => ?_) (fun c => ?_)
        · rw [if_pos c] at h
          refine V.pick [0, 1, 2, 4] (l := [(0, _), (1, _), (2, _), (4, _)]) rfl ?_
          exact w_X12_lets_L211 hL hO N _ hk5 _ _ _ _ h
        · rw [if_neg c] at h
          refine V.pick [0, 1, 2, 4] (l := [(0, _), (1, _), (2, _), (4, _)]) rfl ?_
          exact w_X12_lets_L207 hL hO N _ hk5 _ _ _ _ h
set_option maxHeartbeats 4000000 in
set_option maxRecDepth 100000 in
theorem w_X12_lets_L136 {E : v_E} {X : v_X} {sh : v_S} {P : v_P} {out : Int32 × v_M} (hL : v_Lay sh P) (hO : v_O E X cX12_lets RX12 7 0 (some .boolean) "lets" (v_Q1 (some (.int out.1)) sh P out.2)) (N : Nat) (k5 : Int32 → Int32 → Int32 → Int32 → v_M → Option (Int32 × v_M)) (hk5 : ∀ (x1 : Int32) (x2 : Int32) (x3 : Int32) (x4 : Int32) (M : v_M), k5 x1 x2 x3 x4 M = some out → V E X (0, 0) 5 [(0, v_rf E 79), (1, .int x1), (2, .int x2), (3, .int x3), (4, .int x4)] [] sh P M) (x1 : Int32) (x2 : Int32) (x3 : Int32) (x4 : Int32) (t0 : Int32) (M : v_M) (h : f_X12_lets_L136 N k5 x1 x2 x3 x4 t0 M = some out) : V E X (0, 0) 136 [(0, v_rf E 79), (1, .int x1), (2, .int x2), (3, .int x3), (4, .int x4)] [.int t0] sh P M := by
  have hK := hO.1
  unfold f_X12_lets_L136 at h
  refine V.aload_n (pc := 136) (i := 0) hK rfl ⟨_, rfl⟩ dX12_lets_136 ?_
  refine V.getR (pc := 137) hK fl_RX12_64 rfl (hL.1 79 _ ls_79) (hL.2 79 22 98 rfl) dX12_lets_137 ?_
  refine V.iload (pc := 140) (i := 4) hK rfl dX12_lets_140 ?_
  obtain ⟨hb, h⟩ := v_ckS h
  refine V.iald (pc := 142) hK (hL.1 98 _ ls_98) (v_ibS hb) dX12_lets_142 ?_
  refine V.isub (pc := 143) hK dX12_lets_143 ?_
  refine V.topi (fun y1 ey1 => ?_)
  have h := v_lt ey1 h
  refine V.istore (pc := 144) (i := 6) (lv' := [(0, _), (1, _), (2, _), (3, _), (4, _), (6, _)]) hK (by decide) rfl dX12_lets_144 ?_
  refine V.aload_n (pc := 146) (i := 0) hK rfl ⟨_, rfl⟩ dX12_lets_146 ?_
  refine V.getR (pc := 147) hK fl_RX12_67 rfl (hL.1 79 _ ls_79) (hL.2 79 23 99 rfl) dX12_lets_147 ?_
  refine V.iload (pc := 150) (i := 4) hK rfl dX12_lets_150 ?_
  refine V.iload (pc := 152) (i := 6) hK rfl dX12_lets_152 ?_
  refine V.if_ge (pc := 154) (tgt := 161) hK dX12_lets_154 (by decide) (fun c => ?_) (fun c => ?_)
  · rw [if_pos c] at h
    refine V.iload (pc := 161) (i := 6) hK rfl dX12_lets_161 ?_
    refine V.pick [0, 1, 2, 3, 4] (l := [(0, _), (1, _), (2, _), (3, _), (4, _)]) rfl ?_
    exact w_X12_lets_L163 hL hO N _ hk5 _ _ _ _ _ _ _ h
  · rw [if_neg c] at h
    refine V.iconst (pc := 157) (v := 0) hK (by decide) dX12_lets_157 ?_
    refine V.goto (pc := 158) (tgt := 163) hK dX12_lets_158 (by decide) ?_
    refine V.pick [0, 1, 2, 3, 4] (l := [(0, _), (1, _), (2, _), (3, _), (4, _)]) rfl ?_
    exact w_X12_lets_L163 hL hO N _ hk5 _ _ _ _ _ _ _ h
set_option maxHeartbeats 4000000 in
set_option maxRecDepth 100000 in
theorem w_X12_lets_L101 {E : v_E} {X : v_X} {sh : v_S} {P : v_P} {out : Int32 × v_M} (hL : v_Lay sh P) (hO : v_O E X cX12_lets RX12 7 0 (some .boolean) "lets" (v_Q1 (some (.int out.1)) sh P out.2)) (N : Nat) (k5 : Int32 → Int32 → Int32 → Int32 → v_M → Option (Int32 × v_M)) (hk5 : ∀ (x1 : Int32) (x2 : Int32) (x3 : Int32) (x4 : Int32) (M : v_M), k5 x1 x2 x3 x4 M = some out → V E X (0, 0) 5 [(0, v_rf E 79), (1, .int x1), (2, .int x2), (3, .int x3), (4, .int x4)] [] sh P M) (x1 : Int32) (x2 : Int32) (x3 : Int32) (x4 : Int32) (t0 : Int32) (t1 : Int32) (M : v_M) (h : f_X12_lets_L101 N k5 x1 x2 x3 x4 t0 t1 M = some out) : V E X (0, 0) 101 [(0, v_rf E 79), (1, .int x1), (2, .int x2), (3, .int x3), (4, .int x4)] [.int t0, .int t1, v_rf E 100] sh P M := by
  have hK := hO.1
  unfold f_X12_lets_L101 at h
  obtain ⟨hb, h⟩ := v_ckS h
  refine V.iast (pc := 101) hK (hL.1 100 _ ls_100) (v_ibS hb) dX12_lets_101 ?_
  refine V.nmM (fun M1 eM1 => ?_)
  have h := v_lt eM1 h
  refine V.aload_n (pc := 102) (i := 0) hK rfl ⟨_, rfl⟩ dX12_lets_102 ?_
  refine V.getR (pc := 103) hK fl_RX12_70 rfl (hL.1 79 _ ls_79) (hL.2 79 24 100 rfl) dX12_lets_103 ?_
  refine V.iload (pc := 106) (i := 4) hK rfl dX12_lets_106 ?_
  obtain ⟨hb, h⟩ := v_ckS h
  refine V.iald (pc := 108) hK (hL.1 100 _ ls_100) (v_ibS hb) dX12_lets_108 ?_
  refine V.aload_n (pc := 109) (i := 0) hK rfl ⟨_, rfl⟩ dX12_lets_109 ?_
  refine V.getR (pc := 110) hK fl_RX12_22 rfl (hL.1 79 _ ls_79) (hL.2 79 8 84 rfl) dX12_lets_110 ?_
  refine V.iload (pc := 113) (i := 4) hK rfl dX12_lets_113 ?_
  obtain ⟨hb, h⟩ := v_ckS h
  refine V.iald (pc := 115) hK (hL.1 84 _ ls_84) (v_ibS hb) dX12_lets_115 ?_
  refine V.icmp_ge (pc := 116) (tgt := 129) hK dX12_lets_116 (by decide) (fun c => ?_) (fun c => ?_)
  · rw [if_pos c] at h
    refine V.aload_n (pc := 129) (i := 0) hK rfl ⟨_, rfl⟩ dX12_lets_129 ?_
    refine V.getR (pc := 130) hK fl_RX12_22 rfl (hL.1 79 _ ls_79) (hL.2 79 8 84 rfl) dX12_lets_130 ?_
    refine V.iload (pc := 133) (i := 4) hK rfl dX12_lets_133 ?_
    obtain ⟨hb, h⟩ := v_ckS h
    refine V.iald (pc := 135) hK (hL.1 84 _ ls_84) (v_ibS hb) dX12_lets_135 ?_
    refine V.pick [0, 1, 2, 3, 4] (l := [(0, _), (1, _), (2, _), (3, _), (4, _)]) rfl ?_
    exact w_X12_lets_L136 hL hO N _ hk5 _ _ _ _ _ _ h
  · rw [if_neg c] at h
    refine V.aload_n (pc := 119) (i := 0) hK rfl ⟨_, rfl⟩ dX12_lets_119 ?_
    refine V.getR (pc := 120) hK fl_RX12_70 rfl (hL.1 79 _ ls_79) (hL.2 79 24 100 rfl) dX12_lets_120 ?_
    refine V.iload (pc := 123) (i := 4) hK rfl dX12_lets_123 ?_
    obtain ⟨hb, h⟩ := v_ckS h
    refine V.iald (pc := 125) hK (hL.1 100 _ ls_100) (v_ibS hb) dX12_lets_125 ?_
    refine V.goto (pc := 126) (tgt := 136) hK dX12_lets_126 (by decide) ?_
    refine V.pick [0, 1, 2, 3, 4] (l := [(0, _), (1, _), (2, _), (3, _), (4, _)]) rfl ?_
    exact w_X12_lets_L136 hL hO N _ hk5 _ _ _ _ _ _ h
set_option maxHeartbeats 4000000 in
set_option maxRecDepth 100000 in
theorem w_X12_lets_L51 {E : v_E} {X : v_X} {sh : v_S} {P : v_P} {out : Int32 × v_M} (hL : v_Lay sh P) (hO : v_O E X cX12_lets RX12 7 0 (some .boolean) "lets" (v_Q1 (some (.int out.1)) sh P out.2)) (N : Nat) (k5 : Int32 → Int32 → Int32 → Int32 → v_M → Option (Int32 × v_M)) (hk5 : ∀ (x1 : Int32) (x2 : Int32) (x3 : Int32) (x4 : Int32) (M : v_M), k5 x1 x2 x3 x4 M = some out → V E X (0, 0) 5 [(0, v_rf E 79), (1, .int x1), (2, .int x2), (3, .int x3), (4, .int x4)] [] sh P M) (x1 : Int32) (x2 : Int32) (x3 : Int32) (x4 : Int32) (t0 : Int32) (M : v_M) (h : f_X12_lets_L51 N k5 x1 x2 x3 x4 t0 M = some out) : V E X (0, 0) 51 [(0, v_rf E 79), (1, .int x1), (2, .int x2), (3, .int x3), (4, .int x4)] [.int t0] sh P M := by
  have hK := hO.1
  unfold f_X12_lets_L51 at h
  refine V.istore (pc := 51) (i := 5) (lv' := [(0, _), (1, _), (2, _), (3, _), (4, _), (5, _)]) hK (by decide) rfl dX12_lets_51 ?_
  refine V.aload_n (pc := 53) (i := 0) hK rfl ⟨_, rfl⟩ dX12_lets_53 ?_
  refine V.getR (pc := 54) hK fl_RX12_70 rfl (hL.1 79 _ ls_79) (hL.2 79 24 100 rfl) dX12_lets_54 ?_
  refine V.iload (pc := 57) (i := 4) hK rfl dX12_lets_57 ?_
  refine V.iload (pc := 59) (i := 4) hK rfl dX12_lets_59 ?_
  refine V.if_ne (pc := 61) (tgt := 68) hK dX12_lets_61 (by decide) (fun c => ?_) (fun c => ?_)
  · rw [if_neg c] at h
    refine V.iload (pc := 68) (i := 5) hK rfl dX12_lets_68 ?_
    refine V.if_gt (pc := 70) (tgt := 77) hK dX12_lets_70 (by decide) (fun c => ?_) (fun c => ?_)
    · rw [if_pos c] at h
      refine V.iload (pc := 77) (i := 5) hK rfl dX12_lets_77 ?_
      refine V.aload_n (pc := 79) (i := 0) hK rfl ⟨_, rfl⟩ dX12_lets_79 ?_
      refine V.getR (pc := 80) hK fl_RX12_19 rfl (hL.1 79 _ ls_79) (hL.2 79 7 83 rfl) dX12_lets_80 ?_
      refine V.iload (pc := 83) (i := 4) hK rfl dX12_lets_83 ?_
      obtain ⟨hb, h⟩ := v_ckS h
      refine V.iald (pc := 85) hK (hL.1 83 _ ls_83) (v_ibS hb) dX12_lets_85 ?_
      refine V.bipush (pc := 86) (v := 10) hK (by decide) dX12_lets_86 ?_
      obtain ⟨hb, h⟩ := v_ckS h
      refine V.idiv (pc := 88) hK (v_nzS hb) dX12_lets_88 ?_
      refine V.imul (pc := 89) hK dX12_lets_89 ?_
      refine V.aload_n (pc := 90) (i := 0) hK rfl ⟨_, rfl⟩ dX12_lets_90 ?_
      refine V.getR (pc := 91) hK fl_RX12_19 rfl (hL.1 79 _ ls_79) (hL.2 79 7 83 rfl) dX12_lets_91 ?_
      refine V.iload (pc := 94) (i := 4) hK rfl dX12_lets_94 ?_
      obtain ⟨hb, h⟩ := v_ckS h
      refine V.iald (pc := 96) hK (hL.1 83 _ ls_83) (v_ibS hb) dX12_lets_96 ?_
      refine V.bipush (pc := 97) (v := 10) hK (by decide) dX12_lets_97 ?_
      obtain ⟨hb, h⟩ := v_ckS h
      refine V.irem (pc := 99) hK (v_nzS hb) dX12_lets_99 ?_
      obtain ⟨hb, h⟩ := v_ckS h
      refine V.idiv (pc := 100) hK (v_nzS hb) dX12_lets_100 ?_
      refine V.pick [0, 1, 2, 3, 4] (l := [(0, _), (1, _), (2, _), (3, _), (4, _)]) rfl ?_
      exact w_X12_lets_L101 hL hO N _ hk5 _ _ _ _ _ _ _ h
    · rw [if_neg c] at h
      refine V.iconst (pc := 73) (v := 0) hK (by decide) dX12_lets_73 ?_
      refine V.goto (pc := 74) (tgt := 101) hK dX12_lets_74 (by decide) ?_
      refine V.pick [0, 1, 2, 3, 4] (l := [(0, _), (1, _), (2, _), (3, _), (4, _)]) rfl ?_
      exact w_X12_lets_L101 hL hO N _ hk5 _ _ _ _ _ _ _ h
  · rw [if_pos c] at h
    refine V.iload_n (pc := 64) (i := 1) hK rfl dX12_lets_64 ?_
    refine V.goto (pc := 65) (tgt := 101) hK dX12_lets_65 (by decide) ?_
    refine V.pick [0, 1, 2, 3, 4] (l := [(0, _), (1, _), (2, _), (3, _), (4, _)]) rfl ?_
    exact w_X12_lets_L101 hL hO N _ hk5 _ _ _ _ _ _ _ h
set_option maxHeartbeats 4000000 in
set_option maxRecDepth 100000 in
theorem w_X12_lets_L5 {E : v_E} {X : v_X} {sh : v_S} {P : v_P} {out : Int32 × v_M} (hL : v_Lay sh P) (hO : v_O E X cX12_lets RX12 7 0 (some .boolean) "lets" (v_Q1 (some (.int out.1)) sh P out.2)) (N : Nat) (n : Nat) : ∀ (x1 : Int32) (x2 : Int32) (x3 : Int32) (x4 : Int32) (M : v_M), f_X12_lets_L5 N n x1 x2 x3 x4 M = some out → V E X (0, 0) 5 [(0, v_rf E 79), (1, .int x1), (2, .int x2), (3, .int x3), (4, .int x4)] [] sh P M := by
  have hK := hO.1
  induction n with
  | zero => intro x1 x2 x3 x4 M h; rw [f_X12_lets_L5] at h; cases h
  | succ n ih =>
    intro x1 x2 x3 x4 M h
    rw [f_X12_lets_L5] at h
    refine V.iload (pc := 5) (i := 4) hK rfl dX12_lets_5 ?_
    refine V.aload_n (pc := 7) (i := 0) hK rfl ⟨_, rfl⟩ dX12_lets_7 ?_
    refine V.getI (pc := 8) hK fl_RX12_236 rfl (hL.1 79 _ ls_79) dX12_lets_8 ?_
    refine V.icmp_ge (pc := 11) (tgt := 219) hK dX12_lets_11 (by decide) (fun c => ?_) (fun c => ?_)
    · rw [if_pos c] at h
      refine V.iload_n (pc := 219) (i := 3) hK rfl dX12_lets_219 ?_
      obtain ⟨hb, h⟩ := v_ckS h
      exact V.zret (pc := 220) hO (v_z01 hb) dX12_lets_220 (v_finI h)
    · rw [if_neg c] at h
      refine V.iload (pc := 14) (i := 4) hK rfl dX12_lets_14 ?_
      refine V.if_ne (pc := 16) (tgt := 23) hK dX12_lets_16 (by decide) (fun c => ?_) (fun c => ?_)
      · rw [if_neg c] at h
        refine V.aload_n (pc := 23) (i := 0) hK rfl ⟨_, rfl⟩ dX12_lets_23 ?_
        refine V.getR (pc := 24) hK fl_RX12_67 rfl (hL.1 79 _ ls_79) (hL.2 79 23 99 rfl) dX12_lets_24 ?_
        refine V.aload_n (pc := 27) (i := 0) hK rfl ⟨_, rfl⟩ dX12_lets_27 ?_
        refine V.getR (pc := 28) hK fl_RX12_13 rfl (hL.1 79 _ ls_79) (hL.2 79 5 81 rfl) dX12_lets_28 ?_
        refine V.iload (pc := 31) (i := 4) hK rfl dX12_lets_31 ?_
        obtain ⟨hb, h⟩ := v_ckS h
        refine V.iald (pc := 33) hK (hL.1 81 _ ls_81) (v_ibS hb) dX12_lets_33 ?_
        obtain ⟨hb, h⟩ := v_ckS h
        refine V.iald (pc := 34) hK (hL.1 99 _ ls_99) (v_ibS hb) dX12_lets_34 ?_
        refine V.aload_n (pc := 35) (i := 0) hK rfl ⟨_, rfl⟩ dX12_lets_35 ?_
        refine V.getR (pc := 36) hK fl_RX12_52 rfl (hL.1 79 _ ls_79) (hL.2 79 18 94 rfl) dX12_lets_36 ?_
        refine V.iload (pc := 39) (i := 4) hK rfl dX12_lets_39 ?_
        obtain ⟨hb, h⟩ := v_ckS h
        refine V.iald (pc := 41) hK (hL.1 94 _ ls_94) (v_ibS hb) dX12_lets_41 ?_
        refine V.isub (pc := 42) hK dX12_lets_42 ?_
        refine V.aload_n (pc := 43) (i := 0) hK rfl ⟨_, rfl⟩ dX12_lets_43 ?_
        refine V.getR (pc := 44) hK fl_RX12_61 rfl (hL.1 79 _ ls_79) (hL.2 79 21 97 rfl) dX12_lets_44 ?_
        refine V.iload (pc := 47) (i := 4) hK rfl dX12_lets_47 ?_
        obtain ⟨hb, h⟩ := v_ckS h
        refine V.iald (pc := 49) hK (hL.1 97 _ ls_97) (v_ibS hb) dX12_lets_49 ?_
        refine V.isub (pc := 50) hK dX12_lets_50 ?_
        refine V.pick [0, 1, 2, 3, 4] (l := [(0, _), (1, _), (2, _), (3, _), (4, _)]) rfl ?_
        exact w_X12_lets_L51 hL hO N _ ih _ _ _ _ _ _ h
      · rw [if_pos c] at h
        refine V.iload_n (pc := 19) (i := 1) hK rfl dX12_lets_19 ?_
        refine V.goto (pc := 20) (tgt := 51) hK dX12_lets_20 (by decide) ?_
        refine V.pick [0, 1, 2, 3, 4] (l := [(0, _), (1, _), (2, _), (3, _), (4, _)]) rfl ?_
        exact w_X12_lets_L51 hL hO N _ ih _ _ _ _ _ _ h
set_option maxHeartbeats 4000000 in
set_option maxRecDepth 100000 in
theorem c_X12_lets (E : v_E) {sh : v_S} {P : v_P} (hL : v_Lay sh P) (N : Nat) (x1 : Int32) (x2 : Int32) (M : v_M) {out : Int32 × v_M} (h : f_X12_lets N x1 x2 M = some out) : v_Ct E 0 yX12_lets cX12_lets 7 (some .boolean) 0 0 [v_rf E 79, .int x1, .int x2] sh P M (v_Q1 (some (.int out.1)) sh P out.2) := by
  refine v_Ct.of (by decide +kernel) (Nat.le_of_ble_eq_true rfl) (fun X hO => ?_)
  have hK : v_K E X cX12_lets RX12 7 0 := hO.1
  have hO : v_O E X cX12_lets RX12 7 0 (some .boolean) "lets" (v_Q1 (some (.int out.1)) sh P out.2) := hO
  show V E X (0, 0) 0 [(0, v_rf E 79), (1, .int x1), (2, .int x2)] [] sh P M
  unfold f_X12_lets at h
  refine V.iconst (pc := 0) (v := 1) hK (by decide) dX12_lets_0 ?_
  refine V.istore_n (pc := 1) (i := 3) (lv' := [(0, _), (1, _), (2, _), (3, _)]) hK (by decide) rfl dX12_lets_1 ?_
  refine V.iconst (pc := 2) (v := 0) hK (by decide) dX12_lets_2 ?_
  refine V.istore (pc := 3) (i := 4) (lv' := [(0, _), (1, _), (2, _), (3, _), (4, _)]) hK (by decide) rfl dX12_lets_3 ?_
  refine V.pick [0, 1, 2, 3, 4] (l := [(0, _), (1, _), (2, _), (3, _), (4, _)]) rfl ?_
  exact w_X12_lets_L5 hL hO N N _ _ _ _ _ h
set_option maxHeartbeats 4000000 in
set_option maxRecDepth 100000 in
theorem w_X12_pushes_L43 {E : v_E} {X : v_X} {sh : v_S} {P : v_P} {out : Int32 × v_M} (hL : v_Lay sh P) (hO : v_O E X cX12_pushes RX12 6 1 (some .int) "pushes" (v_Q1 (some (.int out.1)) sh P out.2)) (N : Nat) (k5 : Int32 → Int32 → Int32 → v_M → Option (Int32 × v_M)) (hk5 : ∀ (x2 : Int32) (x3 : Int32) (x4 : Int32) (M : v_M), k5 x2 x3 x4 M = some out → V E X (0, 0) 5 [(0, v_rf E 79), (2, .int x2), (3, .int x3), (4, .int x4)] [] sh P M) (x2 : Int32) (x3 : Int32) (x4 : Int32) (M : v_M) (h : f_X12_pushes_L43 N k5 x2 x3 x4 M = some out) : V E X (0, 0) 43 [(0, v_rf E 79), (2, .int x2), (3, .int x3), (4, .int x4)] [] sh P M := by
  have hK := hO.1
  unfold f_X12_pushes_L43 at h
  refine V.goto (pc := 43) (tgt := 5) hK dX12_pushes_43 (by decide) ?_
  refine V.pick [0, 2, 3, 4] (l := [(0, _), (2, _), (3, _), (4, _)]) rfl ?_
  exact hk5 _ _ _ _ h
set_option maxHeartbeats 4000000 in
set_option maxRecDepth 100000 in
theorem w_X12_pushes_L5 {E : v_E} {X : v_X} {sh : v_S} {P : v_P} {out : Int32 × v_M} (hL : v_Lay sh P) (hO : v_O E X cX12_pushes RX12 6 1 (some .int) "pushes" (v_Q1 (some (.int out.1)) sh P out.2)) (N : Nat) (n : Nat) : ∀ (x2 : Int32) (x3 : Int32) (x4 : Int32) (M : v_M), f_X12_pushes_L5 N n x2 x3 x4 M = some out → V E X (0, 0) 5 [(0, v_rf E 79), (2, .int x2), (3, .int x3), (4, .int x4)] [] sh P M := by
  have hK := hO.1
  induction n with
  | zero => intro x2 x3 x4 M h; rw [f_X12_pushes_L5] at h; cases h
  | succ n ih =>
    intro x2 x3 x4 M h
    rw [f_X12_pushes_L5] at h
    refine V.iload_n (pc := 5) (i := 3) hK rfl dX12_pushes_5 ?_
    refine V.iload (pc := 6) (i := 4) hK rfl dX12_pushes_6 ?_
    refine V.icmp_ge (pc := 8) (tgt := 46) hK dX12_pushes_8 (by decide) (fun c => ?_) (fun c => ?_)
    · rw [if_pos c] at h
      refine V.aload_n (pc := 46) (i := 0) hK rfl ⟨_, rfl⟩ dX12_pushes_46 ?_
      refine V.iload_n (pc := 47) (i := 3) hK rfl dX12_pushes_47 ?_
      refine V.iload_n (pc := 48) (i := 2) hK rfl dX12_pushes_48 ?_
      obtain ⟨z1, hz1, h⟩ := v_bdS h
      refine V.cV (pc := 49) (ci := 12) hK (c_X12_lets E hL N _ _ _ hz1) Y_X12_lets cv_RX12_267 (by decide) rfl (hL.1 79 _ ls_79) dX12_pushes_49 (by decide) rfl (Nat.le_of_ble_eq_true rfl) ?_
      refine V.pop (pc := 52) hK rfl dX12_pushes_52 ?_
      refine V.iload_n (pc := 53) (i := 3) hK rfl dX12_pushes_53 ?_
      exact V.iret (pc := 54) hO dX12_pushes_54 (v_finI h)
    · rw [if_neg c] at h
      refine V.iload_n (pc := 11) (i := 3) hK rfl dX12_pushes_11 ?_
      refine V.iload (pc := 12) (i := 4) hK rfl dX12_pushes_12 ?_
      refine V.iadd (pc := 14) hK dX12_pushes_14 ?_
      refine V.iconst (pc := 15) (v := 1) hK (by decide) dX12_pushes_15 ?_
      refine V.iadd (pc := 16) hK dX12_pushes_16 ?_
      refine V.iconst (pc := 17) (v := 2) hK (by decide) dX12_pushes_17 ?_
      obtain ⟨hb, h⟩ := v_ckS h
      refine V.idiv (pc := 18) hK (v_nzS hb) dX12_pushes_18 ?_
      refine V.topi (fun y2 ey2 => ?_)
      have h := v_lt ey2 h
      refine V.istore (pc := 19) (i := 5) (lv' := [(0, _), (2, _), (3, _), (4, _), (5, _)]) hK (by decide) rfl dX12_pushes_19 ?_
      refine V.aload_n (pc := 21) (i := 0) hK rfl ⟨_, rfl⟩ dX12_pushes_21 ?_
      refine V.iload (pc := 22) (i := 5) hK rfl dX12_pushes_22 ?_
      refine V.iload_n (pc := 24) (i := 2) hK rfl dX12_pushes_24 ?_
      obtain ⟨z3, hz3, h⟩ := v_bdS h
      refine V.cV (pc := 25) (ci := 12) hK (c_X12_lets E hL N _ _ _ hz3) Y_X12_lets cv_RX12_267 (by decide) rfl (hL.1 79 _ ls_79) dX12_pushes_25 (by decide) rfl (Nat.le_of_ble_eq_true rfl) ?_
      refine V.if_eq (pc := 28) (tgt := 37) hK dX12_pushes_28 (by decide) (fun c => ?_) (fun c => ?_)
      · rw [if_pos c] at h
        refine V.iload (pc := 37) (i := 5) hK rfl dX12_pushes_37 ?_
        refine V.iconst (pc := 39) (v := 1) hK (by decide) dX12_pushes_39 ?_
        refine V.isub (pc := 40) hK dX12_pushes_40 ?_
        refine V.topi (fun y4 ey4 => ?_)
        have h := v_lt ey4 h
        refine V.istore (pc := 41) (i := 4) (lv' := [(0, _), (2, _), (3, _), (4, _), (5, _)]) hK (by decide) rfl dX12_pushes_41 ?_
        refine V.pick [0, 2, 3, 4] (l := [(0, _), (2, _), (3, _), (4, _)]) rfl ?_
        exact w_X12_pushes_L43 hL hO N _ ih _ _ _ _ h
      · rw [if_neg c] at h
        refine V.iload (pc := 31) (i := 5) hK rfl dX12_pushes_31 ?_
        refine V.istore_n (pc := 33) (i := 3) (lv' := [(0, _), (2, _), (3, _), (4, _), (5, _)]) hK (by decide) rfl dX12_pushes_33 ?_
        refine V.goto (pc := 34) (tgt := 43) hK dX12_pushes_34 (by decide) ?_
        refine V.pick [0, 2, 3, 4] (l := [(0, _), (2, _), (3, _), (4, _)]) rfl ?_
        exact w_X12_pushes_L43 hL hO N _ ih _ _ _ _ h
set_option maxHeartbeats 4000000 in
set_option maxRecDepth 100000 in
theorem c_X12_pushes (E : v_E) {sh : v_S} {P : v_P} (hL : v_Lay sh P) (N : Nat) (x1 : Int32) (x2 : Int32) (M : v_M) {out : Int32 × v_M} (h : f_X12_pushes N x1 x2 M = some out) : v_Ct E 1 yX12_pushes cX12_pushes 6 (some .int) 0 0 [v_rf E 79, .int x1, .int x2] sh P M (v_Q1 (some (.int out.1)) sh P out.2) := by
  refine v_Ct.of (by decide +kernel) (Nat.le_of_ble_eq_true rfl) (fun X hO => ?_)
  have hK : v_K E X cX12_pushes RX12 6 1 := hO.1
  have hO : v_O E X cX12_pushes RX12 6 1 (some .int) "pushes" (v_Q1 (some (.int out.1)) sh P out.2) := hO
  show V E X (0, 0) 0 [(0, v_rf E 79), (1, .int x1), (2, .int x2)] [] sh P M
  unfold f_X12_pushes at h
  refine V.iconst (pc := 0) (v := 0) hK (by decide) dX12_pushes_0 ?_
  refine V.istore_n (pc := 1) (i := 3) (lv' := [(0, _), (1, _), (2, _), (3, _)]) hK (by decide) rfl dX12_pushes_1 ?_
  refine V.iload_n (pc := 2) (i := 1) hK rfl dX12_pushes_2 ?_
  refine V.istore (pc := 3) (i := 4) (lv' := [(0, _), (1, _), (2, _), (3, _), (4, _)]) hK (by decide) rfl dX12_pushes_3 ?_
  refine V.pick [0, 2, 3, 4] (l := [(0, _), (2, _), (3, _), (4, _)]) rfl ?_
  exact w_X12_pushes_L5 hL hO N N _ _ _ _ h
set_option maxHeartbeats 4000000 in
set_option maxRecDepth 100000 in
theorem w_X12_push_L168 {E : v_E} {X : v_X} {sh : v_S} {P : v_P} {out : Int32 × v_M} (hL : v_Lay sh P) (hO : v_O E X cX12_push RX12 8 2 (some .int) "push" (v_Q1 (some (.int out.1)) sh P out.2)) (N : Nat) (k57 : Int32 → Int32 → Int32 → v_M → Option (Int32 × v_M)) (hk57 : ∀ (x1 : Int32) (x4 : Int32) (x5 : Int32) (M : v_M), k57 x1 x4 x5 M = some out → V E X (0, 0) 57 [(0, v_rf E 79), (1, .int x1), (4, .int x4), (5, .int x5)] [] sh P M) (x1 : Int32) (x4 : Int32) (x5 : Int32) (t0 : Int32) (t1 : Int32) (M : v_M) (h : f_X12_push_L168 N k57 x1 x4 x5 t0 t1 M = some out) : V E X (0, 0) 168 [(0, v_rf E 79), (1, .int x1), (4, .int x4), (5, .int x5)] [.int t0, .int t1, v_rf E 90] sh P M := by
  have hK := hO.1
  unfold f_X12_push_L168 at h
  obtain ⟨hb, h⟩ := v_ckS h
  refine V.iast (pc := 168) hK (hL.1 90 _ ls_90) (v_ibS hb) dX12_push_168 ?_
  refine V.nmM (fun M1 eM1 => ?_)
  have h := v_lt eM1 h
  refine V.iinc (pc := 169) (i := 5) (v := 1) (lv' := [(0, _), (1, _), (4, _), (5, _)]) hK rfl (by decide) (by decide) rfl dX12_push_169 ?_
  refine V.goto (pc := 172) (tgt := 57) hK dX12_push_172 (by decide) ?_
  refine V.pick [0, 1, 4, 5] (l := [(0, _), (1, _), (4, _), (5, _)]) rfl ?_
  exact hk57 _ _ _ _ h
set_option maxHeartbeats 4000000 in
set_option maxRecDepth 100000 in
theorem w_X12_push_L143 {E : v_E} {X : v_X} {sh : v_S} {P : v_P} {out : Int32 × v_M} (hL : v_Lay sh P) (hO : v_O E X cX12_push RX12 8 2 (some .int) "push" (v_Q1 (some (.int out.1)) sh P out.2)) (N : Nat) (k57 : Int32 → Int32 → Int32 → v_M → Option (Int32 × v_M)) (hk57 : ∀ (x1 : Int32) (x4 : Int32) (x5 : Int32) (M : v_M), k57 x1 x4 x5 M = some out → V E X (0, 0) 57 [(0, v_rf E 79), (1, .int x1), (4, .int x4), (5, .int x5)] [] sh P M) (x1 : Int32) (x4 : Int32) (x5 : Int32) (x6 : Int32) (t0 : Int32) (t1 : Int32) (M : v_M) (h : f_X12_push_L143 N k57 x1 x4 x5 x6 t0 t1 M = some out) : V E X (0, 0) 143 [(0, v_rf E 79), (1, .int x1), (4, .int x4), (5, .int x5), (6, .int x6)] [.int t0, .int t1] sh P M := by
  have hK := hO.1
  unfold f_X12_push_L143 at h
  refine V.iadd (pc := 143) hK dX12_push_143 ?_
  refine V.topi (fun y1 ey1 => ?_)
  have h := v_lt ey1 h
  refine V.istore (pc := 144) (i := 7) (lv' := [(0, _), (1, _), (4, _), (5, _), (6, _), (7, _)]) hK (by decide) rfl dX12_push_144 ?_
  refine V.aload_n (pc := 146) (i := 0) hK rfl ⟨_, rfl⟩ dX12_push_146 ?_
  refine V.getR (pc := 147) hK fl_RX12_40 rfl (hL.1 79 _ ls_79) (hL.2 79 14 90 rfl) dX12_push_147 ?_
  refine V.iload (pc := 150) (i := 6) hK rfl dX12_push_150 ?_
  refine V.iload (pc := 152) (i := 7) hK rfl dX12_push_152 ?_
  refine V.sipush (pc := 154) (v := 9999) hK (by decide) dX12_push_154 ?_
  refine V.icmp_le (pc := 157) (tgt := 166) hK dX12_push_157 (by decide) (fun c => ?_) (fun c => ?_)
  · rw [if_pos c] at h
    refine V.iload (pc := 166) (i := 7) hK rfl dX12_push_166 ?_
    refine V.pick [0, 1, 4, 5] (l := [(0, _), (1, _), (4, _), (5, _)]) rfl ?_
    exact w_X12_push_L168 hL hO N _ hk57 _ _ _ _ _ _ h
  · rw [if_neg c] at h
    refine V.sipush (pc := 160) (v := 9999) hK (by decide) dX12_push_160 ?_
    refine V.goto (pc := 163) (tgt := 168) hK dX12_push_163 (by decide) ?_
    refine V.pick [0, 1, 4, 5] (l := [(0, _), (1, _), (4, _), (5, _)]) rfl ?_
    exact w_X12_push_L168 hL hO N _ hk57 _ _ _ _ _ _ h
set_option maxHeartbeats 4000000 in
set_option maxRecDepth 100000 in
theorem w_X12_push_L142 {E : v_E} {X : v_X} {sh : v_S} {P : v_P} {out : Int32 × v_M} (hL : v_Lay sh P) (hO : v_O E X cX12_push RX12 8 2 (some .int) "push" (v_Q1 (some (.int out.1)) sh P out.2)) (N : Nat) (k57 : Int32 → Int32 → Int32 → v_M → Option (Int32 × v_M)) (hk57 : ∀ (x1 : Int32) (x4 : Int32) (x5 : Int32) (M : v_M), k57 x1 x4 x5 M = some out → V E X (0, 0) 57 [(0, v_rf E 79), (1, .int x1), (4, .int x4), (5, .int x5)] [] sh P M) (x1 : Int32) (x4 : Int32) (x5 : Int32) (x6 : Int32) (t0 : Int32) (M : v_M) (h : f_X12_push_L142 N k57 x1 x4 x5 x6 t0 M = some out) : V E X (0, 0) 142 [(0, v_rf E 79), (1, .int x1), (4, .int x4), (5, .int x5), (6, .int x6)] [.int t0] sh P M := by
  have hK := hO.1
  unfold f_X12_push_L142 at h
  refine V.iconst (pc := 142) (v := 0) hK (by decide) dX12_push_142 ?_
  refine V.pick [0, 1, 4, 5, 6] (l := [(0, _), (1, _), (4, _), (5, _), (6, _)]) rfl ?_
  exact w_X12_push_L143 hL hO N _ hk57 _ _ _ _ _ _ _ h
set_option maxHeartbeats 4000000 in
set_option maxRecDepth 100000 in
theorem w_X12_push_L57 {E : v_E} {X : v_X} {sh : v_S} {P : v_P} {out : Int32 × v_M} (hL : v_Lay sh P) (hO : v_O E X cX12_push RX12 8 2 (some .int) "push" (v_Q1 (some (.int out.1)) sh P out.2)) (N : Nat) (n : Nat) : ∀ (x1 : Int32) (x4 : Int32) (x5 : Int32) (M : v_M), f_X12_push_L57 N n x1 x4 x5 M = some out → V E X (0, 0) 57 [(0, v_rf E 79), (1, .int x1), (4, .int x4), (5, .int x5)] [] sh P M := by
  have hK := hO.1
  induction n with
  | zero => intro x1 x4 x5 M h; rw [f_X12_push_L57] at h; cases h
  | succ n ih =>
    intro x1 x4 x5 M h
    rw [f_X12_push_L57] at h
    refine V.iload (pc := 57) (i := 5) hK rfl dX12_push_57 ?_
    refine V.aload_n (pc := 59) (i := 0) hK rfl ⟨_, rfl⟩ dX12_push_59 ?_
    refine V.getI (pc := 60) hK fl_RX12_236 rfl (hL.1 79 _ ls_79) dX12_push_60 ?_
    refine V.icmp_ge (pc := 63) (tgt := 175) hK dX12_push_63 (by decide) (fun c => ?_) (fun c => ?_)
    · rw [if_pos c] at h
      refine V.iload (pc := 175) (i := 4) hK rfl dX12_push_175 ?_
      exact V.iret (pc := 177) hO dX12_push_177 (v_finI h)
    · rw [if_neg c] at h
      refine V.bipush (pc := 66) (v := 24) hK (by decide) dX12_push_66 ?_
      refine V.iload_n (pc := 68) (i := 1) hK rfl dX12_push_68 ?_
      refine V.imul (pc := 69) hK dX12_push_69 ?_
      refine V.iload (pc := 70) (i := 5) hK rfl dX12_push_70 ?_
      refine V.iadd (pc := 72) hK dX12_push_72 ?_
      refine V.topi (fun y1 ey1 => ?_)
      have h := v_lt ey1 h
      refine V.istore (pc := 73) (i := 6) (lv' := [(0, _), (1, _), (4, _), (5, _), (6, _)]) hK (by decide) rfl dX12_push_73 ?_
      refine V.aload_n (pc := 75) (i := 0) hK rfl ⟨_, rfl⟩ dX12_push_75 ?_
      refine V.getR (pc := 76) hK fl_RX12_43 rfl (hL.1 79 _ ls_79) (hL.2 79 15 91 rfl) dX12_push_76 ?_
      refine V.iload (pc := 79) (i := 6) hK rfl dX12_push_79 ?_
      refine V.aload_n (pc := 81) (i := 0) hK rfl ⟨_, rfl⟩ dX12_push_81 ?_
      refine V.getR (pc := 82) hK fl_RX12_67 rfl (hL.1 79 _ ls_79) (hL.2 79 23 99 rfl) dX12_push_82 ?_
      refine V.iload (pc := 85) (i := 5) hK rfl dX12_push_85 ?_
      obtain ⟨hb, h⟩ := v_ckS h
      refine V.iald (pc := 87) hK (hL.1 99 _ ls_99) (v_ibS hb) dX12_push_87 ?_
      obtain ⟨hb, h⟩ := v_ckS h
      refine V.iast (pc := 88) hK (hL.1 91 _ ls_91) (v_ibS hb) dX12_push_88 ?_
      refine V.nmM (fun M2 eM2 => ?_)
      have h := v_lt eM2 h
      refine V.aload_n (pc := 89) (i := 0) hK rfl ⟨_, rfl⟩ dX12_push_89 ?_
      refine V.getR (pc := 90) hK fl_RX12_40 rfl (hL.1 79 _ ls_79) (hL.2 79 14 90 rfl) dX12_push_90 ?_
      refine V.iload (pc := 93) (i := 6) hK rfl dX12_push_93 ?_
      obtain ⟨hb, h⟩ := v_ckS h
      refine V.iald (pc := 95) hK (hL.1 90 _ ls_90) (v_ibS hb) dX12_push_95 ?_
      refine V.aload_n (pc := 96) (i := 0) hK rfl ⟨_, rfl⟩ dX12_push_96 ?_
      refine V.getR (pc := 97) hK fl_RX12_9 rfl (hL.1 79 _ ls_79) (hL.2 79 4 80 rfl) dX12_push_97 ?_
      refine V.iload (pc := 100) (i := 5) hK rfl dX12_push_100 ?_
      obtain ⟨hb, h⟩ := v_ckS h
      refine V.iald (pc := 102) hK (hL.1 80 _ ls_80) (v_ibS hb) dX12_push_102 ?_
      refine V.iconst (pc := 103) (v := 1) hK (by decide) dX12_push_103 ?_
      refine V.icmp_ne (pc := 104) (tgt := 142) hK dX12_push_104 (by decide) (fun c => ?_) (fun c => ?_)
      · rw [if_neg c] at h
        refine V.pick [0, 1, 4, 5, 6] (l := [(0, _), (1, _), (4, _), (5, _), (6, _)]) rfl ?_
        exact w_X12_push_L142 hL hO N _ ih _ _ _ _ _ _ h
      · rw [if_pos c] at h
        refine V.aload_n (pc := 107) (i := 0) hK rfl ⟨_, rfl⟩ dX12_push_107 ?_
        refine V.getR (pc := 108) hK fl_RX12_70 rfl (hL.1 79 _ ls_79) (hL.2 79 24 100 rfl) dX12_push_108 ?_
        refine V.iload (pc := 111) (i := 5) hK rfl dX12_push_111 ?_
        obtain ⟨hb, h⟩ := v_ckS h
        refine V.iald (pc := 113) hK (hL.1 100 _ ls_100) (v_ibS hb) dX12_push_113 ?_
        refine V.aload_n (pc := 114) (i := 0) hK rfl ⟨_, rfl⟩ dX12_push_114 ?_
        refine V.getR (pc := 115) hK fl_RX12_22 rfl (hL.1 79 _ ls_79) (hL.2 79 8 84 rfl) dX12_push_115 ?_
        refine V.iload (pc := 118) (i := 5) hK rfl dX12_push_118 ?_
        obtain ⟨hb, h⟩ := v_ckS h
        refine V.iald (pc := 120) hK (hL.1 84 _ ls_84) (v_ibS hb) dX12_push_120 ?_
        refine V.icmp_le (pc := 121) (tgt := 142) hK dX12_push_121 (by decide) (fun c => ?_) (fun c => ?_)
        · rw [if_pos c] at h
          refine V.pick [0, 1, 4, 5, 6] (l := [(0, _), (1, _), (4, _), (5, _), (6, _)]) rfl ?_
          exact w_X12_push_L142 hL hO N _ ih _ _ _ _ _ _ h
        · rw [if_neg c] at h
          refine V.aload_n (pc := 124) (i := 0) hK rfl ⟨_, rfl⟩ dX12_push_124 ?_
          refine V.getR (pc := 125) hK fl_RX12_70 rfl (hL.1 79 _ ls_79) (hL.2 79 24 100 rfl) dX12_push_125 ?_
          refine V.iload (pc := 128) (i := 5) hK rfl dX12_push_128 ?_
          obtain ⟨hb, h⟩ := v_ckS h
          refine V.iald (pc := 130) hK (hL.1 100 _ ls_100) (v_ibS hb) dX12_push_130 ?_
          refine V.aload_n (pc := 131) (i := 0) hK rfl ⟨_, rfl⟩ dX12_push_131 ?_
          refine V.getR (pc := 132) hK fl_RX12_22 rfl (hL.1 79 _ ls_79) (hL.2 79 8 84 rfl) dX12_push_132 ?_
          refine V.iload (pc := 135) (i := 5) hK rfl dX12_push_135 ?_
          obtain ⟨hb, h⟩ := v_ckS h
          refine V.iald (pc := 137) hK (hL.1 84 _ ls_84) (v_ibS hb) dX12_push_137 ?_
          refine V.isub (pc := 138) hK dX12_push_138 ?_
          refine V.goto (pc := 139) (tgt := 143) hK dX12_push_139 (by decide) ?_
          refine V.pick [0, 1, 4, 5, 6] (l := [(0, _), (1, _), (4, _), (5, _), (6, _)]) rfl ?_
          exact w_X12_push_L143 hL hO N _ ih _ _ _ _ _ _ _ h
set_option maxHeartbeats 4000000 in
set_option maxRecDepth 100000 in
theorem c_X12_push (E : v_E) {sh : v_S} {P : v_P} (hL : v_Lay sh P) (N : Nat) (x1 : Int32) (x2 : Int32) (x3 : Int32) (M : v_M) {out : Int32 × v_M} (h : f_X12_push N x1 x2 x3 M = some out) : v_Ct E 2 yX12_push cX12_push 8 (some .int) 0 0 [v_rf E 79, .int x1, .int x2, .int x3] sh P M (v_Q1 (some (.int out.1)) sh P out.2) := by
  refine v_Ct.of (by decide +kernel) (Nat.le_of_ble_eq_true rfl) (fun X hO => ?_)
  have hK : v_K E X cX12_push RX12 8 2 := hO.1
  have hO : v_O E X cX12_push RX12 8 2 (some .int) "push" (v_Q1 (some (.int out.1)) sh P out.2) := hO
  show V E X (0, 0) 0 [(0, v_rf E 79), (1, .int x1), (2, .int x2), (3, .int x3)] [] sh P M
  unfold f_X12_push at h
  refine V.aload_n (pc := 0) (i := 0) hK rfl ⟨_, rfl⟩ dX12_push_0 ?_
  refine V.iload_n (pc := 1) (i := 1) hK rfl dX12_push_1 ?_
  obtain ⟨z1, hz1, h⟩ := v_bdS h
  refine V.cV (pc := 2) (ci := 12) hK (c_X12_isMachine E hL N _ _ hz1) Y_X12_isMachine cv_RX12_262 (by decide) rfl (hL.1 79 _ ls_79) dX12_push_2 (by decide) rfl (Nat.le_of_ble_eq_true rfl) ?_
  refine V.if_eq (pc := 5) (tgt := 39) hK dX12_push_5 (by decide) (fun c => ?_) (fun c => ?_)
  · rw [if_pos c] at h
    refine V.iconst (pc := 39) (v := -1) hK (by decide) dX12_push_39 ?_
    exact V.iret (pc := 40) hO dX12_push_40 (v_finI h)
  · rw [if_neg c] at h
    refine V.aload_n (pc := 8) (i := 0) hK rfl ⟨_, rfl⟩ dX12_push_8 ?_
    refine V.getI (pc := 9) hK fl_RX12_236 rfl (hL.1 79 _ ls_79) dX12_push_9 ?_
    refine V.if_eq (pc := 12) (tgt := 39) hK dX12_push_12 (by decide) (fun c => ?_) (fun c => ?_)
    · rw [if_pos c] at h
      refine V.iconst (pc := 39) (v := -1) hK (by decide) dX12_push_39 ?_
      exact V.iret (pc := 40) hO dX12_push_40 (v_finI h)
    · rw [if_neg c] at h
      refine V.iload_n (pc := 15) (i := 2) hK rfl dX12_push_15 ?_
      refine V.i2l (pc := 16) hK dX12_push_16 ?_
      refine V.lconst (pc := 17) (v := 0) hK (by decide) dX12_push_17 ?_
      refine V.ldc2 (pc := 18) hK tw_1423 dX12_push_18 ?_
      obtain ⟨z2, hz2, h⟩ := v_bdS h
      refine V.cS (pc := 21) hK (c_X12_in E hL N _ _ _ _ hz2) Y_X12_in cs_RX12_229 dX12_push_21 (by decide) rfl (Nat.le_of_ble_eq_true rfl) ?_
      refine V.if_eq (pc := 24) (tgt := 39) hK dX12_push_24 (by decide) (fun c => ?_) (fun c => ?_)
      · rw [if_pos c] at h
        refine V.iconst (pc := 39) (v := -1) hK (by decide) dX12_push_39 ?_
        exact V.iret (pc := 40) hO dX12_push_40 (v_finI h)
      · rw [if_neg c] at h
        refine V.iload_n (pc := 27) (i := 3) hK rfl dX12_push_27 ?_
        refine V.i2l (pc := 28) hK dX12_push_28 ?_
        refine V.lconst (pc := 29) (v := 0) hK (by decide) dX12_push_29 ?_
        refine V.ldc2 (pc := 30) hK tw_1423 dX12_push_30 ?_
        obtain ⟨z3, hz3, h⟩ := v_bdS h
        refine V.cS (pc := 33) hK (c_X12_in E hL N _ _ _ _ hz3) Y_X12_in cs_RX12_229 dX12_push_33 (by decide) rfl (Nat.le_of_ble_eq_true rfl) ?_
        refine V.if_ne (pc := 36) (tgt := 41) hK dX12_push_36 (by decide) (fun c => ?_) (fun c => ?_)
        · rw [if_neg c] at h
          refine V.aload_n (pc := 41) (i := 0) hK rfl ⟨_, rfl⟩ dX12_push_41 ?_
          refine V.iload_n (pc := 42) (i := 1) hK rfl dX12_push_42 ?_
          obtain ⟨z4, hz4, h⟩ := v_bdS h
          refine V.cVv (pc := 43) (ci := 12) hK (c_X12_takes E hL N _ _ hz4) Y_X12_takes cv_RX12_270 (by decide) rfl (hL.1 79 _ ls_79) dX12_push_43 (by decide) rfl (Nat.le_of_ble_eq_true rfl) ?_
          refine V.aload_n (pc := 46) (i := 0) hK rfl ⟨_, rfl⟩ dX12_push_46 ?_
          refine V.iload_n (pc := 47) (i := 2) hK rfl dX12_push_47 ?_
          refine V.iload_n (pc := 48) (i := 3) hK rfl dX12_push_48 ?_
          obtain ⟨z5, hz5, h⟩ := v_bdS h
          refine V.cV (pc := 49) (ci := 12) hK (c_X12_pushes E hL N _ _ _ hz5) Y_X12_pushes cv_RX12_274 (by decide) rfl (hL.1 79 _ ls_79) dX12_push_49 (by decide) rfl (Nat.le_of_ble_eq_true rfl) ?_
          refine V.topi (fun y6 ey6 => ?_)
          have h := v_lt ey6 h
          refine V.istore (pc := 52) (i := 4) (lv' := [(0, _), (1, _), (2, _), (3, _), (4, _)]) hK (by decide) rfl dX12_push_52 ?_
          refine V.iconst (pc := 54) (v := 0) hK (by decide) dX12_push_54 ?_
          refine V.istore (pc := 55) (i := 5) (lv' := [(0, _), (1, _), (2, _), (3, _), (4, _), (5, _)]) hK (by decide) rfl dX12_push_55 ?_
          refine V.pick [0, 1, 4, 5] (l := [(0, _), (1, _), (4, _), (5, _)]) rfl ?_
          exact w_X12_push_L57 hL hO N N _ _ _ _ h
        · rw [if_pos c] at h
          refine V.iconst (pc := 39) (v := -1) hK (by decide) dX12_push_39 ?_
          exact V.iret (pc := 40) hO dX12_push_40 (v_finI h)
set_option maxHeartbeats 4000000 in
set_option maxRecDepth 100000 in
theorem w_X12_release_L12 {E : v_E} {X : v_X} {sh : v_S} {P : v_P} {out : Int32 × v_M} (hL : v_Lay sh P) (hO : v_O E X cX12_release RX12 3 2 (some .boolean) "release" (v_Q1 (some (.int out.1)) sh P out.2)) (N : Nat) (n : Nat) : ∀ (x1 : Int32) (x2 : Int32) (M : v_M), f_X12_release_L12 N n x1 x2 M = some out → V E X (0, 0) 12 [(0, v_rf E 79), (1, .int x1), (2, .int x2)] [] sh P M := by
  have hK := hO.1
  induction n with
  | zero => intro x1 x2 M h; rw [f_X12_release_L12] at h; cases h
  | succ n ih =>
    intro x1 x2 M h
    rw [f_X12_release_L12] at h
    refine V.iload_n (pc := 12) (i := 2) hK rfl dX12_release_12 ?_
    refine V.bipush (pc := 13) (v := 24) hK (by decide) dX12_release_13 ?_
    refine V.icmp_ge (pc := 15) (tgt := 36) hK dX12_release_15 (by decide) (fun c => ?_) (fun c => ?_)
    · rw [if_pos c] at h
      refine V.iconst (pc := 36) (v := 1) hK (by decide) dX12_release_36 ?_
      obtain ⟨hb, h⟩ := v_ckS h
      exact V.zret (pc := 37) hO (v_z01 hb) dX12_release_37 (v_finI h)
    · rw [if_neg c] at h
      refine V.aload_n (pc := 18) (i := 0) hK rfl ⟨_, rfl⟩ dX12_release_18 ?_
      refine V.getR (pc := 19) hK fl_RX12_43 rfl (hL.1 79 _ ls_79) (hL.2 79 15 91 rfl) dX12_release_19 ?_
      refine V.bipush (pc := 22) (v := 24) hK (by decide) dX12_release_22 ?_
      refine V.iload_n (pc := 24) (i := 1) hK rfl dX12_release_24 ?_
      refine V.imul (pc := 25) hK dX12_release_25 ?_
      refine V.iload_n (pc := 26) (i := 2) hK rfl dX12_release_26 ?_
      refine V.iadd (pc := 27) hK dX12_release_27 ?_
      refine V.iconst (pc := 28) (v := 0) hK (by decide) dX12_release_28 ?_
      obtain ⟨hb, h⟩ := v_ckS h
      refine V.iast (pc := 29) hK (hL.1 91 _ ls_91) (v_ibS hb) dX12_release_29 ?_
      refine V.nmM (fun M1 eM1 => ?_)
      have h := v_lt eM1 h
      refine V.iinc (pc := 30) (i := 2) (v := 1) (lv' := [(0, _), (1, _), (2, _)]) hK rfl (by decide) (by decide) rfl dX12_release_30 ?_
      refine V.goto (pc := 33) (tgt := 12) hK dX12_release_33 (by decide) ?_
      refine V.pick [0, 1, 2] (l := [(0, _), (1, _), (2, _)]) rfl ?_
      exact ih _ _ _ h
set_option maxHeartbeats 4000000 in
set_option maxRecDepth 100000 in
theorem c_X12_release (E : v_E) {sh : v_S} {P : v_P} (hL : v_Lay sh P) (N : Nat) (x1 : Int32) (M : v_M) {out : Int32 × v_M} (h : f_X12_release N x1 M = some out) : v_Ct E 2 yX12_release cX12_release 3 (some .boolean) 0 0 [v_rf E 79, .int x1] sh P M (v_Q1 (some (.int out.1)) sh P out.2) := by
  refine v_Ct.of (by decide +kernel) (Nat.le_of_ble_eq_true rfl) (fun X hO => ?_)
  have hK : v_K E X cX12_release RX12 3 2 := hO.1
  have hO : v_O E X cX12_release RX12 3 2 (some .boolean) "release" (v_Q1 (some (.int out.1)) sh P out.2) := hO
  show V E X (0, 0) 0 [(0, v_rf E 79), (1, .int x1)] [] sh P M
  unfold f_X12_release at h
  refine V.aload_n (pc := 0) (i := 0) hK rfl ⟨_, rfl⟩ dX12_release_0 ?_
  refine V.iload_n (pc := 1) (i := 1) hK rfl dX12_release_1 ?_
  obtain ⟨z1, hz1, h⟩ := v_bdS h
  refine V.cV (pc := 2) (ci := 12) hK (c_X12_isMachine E hL N _ _ hz1) Y_X12_isMachine cv_RX12_262 (by decide) rfl (hL.1 79 _ ls_79) dX12_release_2 (by decide) rfl (Nat.le_of_ble_eq_true rfl) ?_
  refine V.if_ne (pc := 5) (tgt := 10) hK dX12_release_5 (by decide) (fun c => ?_) (fun c => ?_)
  · rw [if_neg c] at h
    refine V.iconst (pc := 10) (v := 0) hK (by decide) dX12_release_10 ?_
    refine V.istore_n (pc := 11) (i := 2) (lv' := [(0, _), (1, _), (2, _)]) hK (by decide) rfl dX12_release_11 ?_
    refine V.pick [0, 1, 2] (l := [(0, _), (1, _), (2, _)]) rfl ?_
    exact w_X12_release_L12 hL hO N N _ _ _ h
  · rw [if_pos c] at h
    refine V.iconst (pc := 8) (v := 0) hK (by decide) dX12_release_8 ?_
    obtain ⟨hb, h⟩ := v_ckS h
    exact V.zret (pc := 9) hO (v_z01 hb) dX12_release_9 (v_finI h)
set_option maxHeartbeats 4000000 in
set_option maxRecDepth 100000 in
theorem w_X12_isOver_L24 {E : v_E} {X : v_X} {sh : v_S} {P : v_P} {out : Int32 × v_M} (hL : v_Lay sh P) (hO : v_O E X cX12_isOver RX12 2 0 (some .boolean) "isOver" (v_Q1 (some (.int out.1)) sh P out.2)) (N : Nat) (x1 : Int32) (t0 : Int32) (M : v_M) (h : f_X12_isOver_L24 N x1 t0 M = some out) : V E X (0, 0) 24 [(0, v_rf E 79), (1, .int x1)] [.int t0, v_rf E 99] sh P M := by
  have hK := hO.1
  unfold f_X12_isOver_L24 at h
  obtain ⟨hb, h⟩ := v_ckS h
  refine V.iald (pc := 24) hK (hL.1 99 _ ls_99) (v_ibS hb) dX12_isOver_24 ?_
  refine V.aload_n (pc := 25) (i := 0) hK rfl ⟨_, rfl⟩ dX12_isOver_25 ?_
  refine V.getR (pc := 26) hK fl_RX12_55 rfl (hL.1 79 _ ls_79) (hL.2 79 19 95 rfl) dX12_isOver_26 ?_
  refine V.iload_n (pc := 29) (i := 1) hK rfl dX12_isOver_29 ?_
  obtain ⟨hb, h⟩ := v_ckS h
  refine V.iald (pc := 30) hK (hL.1 95 _ ls_95) (v_ibS hb) dX12_isOver_30 ?_
  refine V.icmp_lt (pc := 31) (tgt := 38) hK dX12_isOver_31 (by decide) (fun c => ?_) (fun c => ?_)
  · rw [if_pos c] at h
    refine V.iconst (pc := 38) (v := 0) hK (by decide) dX12_isOver_38 ?_
    obtain ⟨hb, h⟩ := v_ckS h
    exact V.zret (pc := 39) hO (v_z01 hb) dX12_isOver_39 (v_finI h)
  · rw [if_neg c] at h
    refine V.iconst (pc := 34) (v := 1) hK (by decide) dX12_isOver_34 ?_
    refine V.goto (pc := 35) (tgt := 39) hK dX12_isOver_35 (by decide) ?_
    obtain ⟨hb, h⟩ := v_ckS h
    exact V.zret (pc := 39) hO (v_z01 hb) dX12_isOver_39 (v_finI h)
set_option maxHeartbeats 4000000 in
set_option maxRecDepth 100000 in
theorem c_X12_isOver (E : v_E) {sh : v_S} {P : v_P} (hL : v_Lay sh P) (N : Nat) (x1 : Int32) (M : v_M) {out : Int32 × v_M} (h : f_X12_isOver N x1 M = some out) : v_Ct E 0 yX12_isOver cX12_isOver 2 (some .boolean) 0 0 [v_rf E 79, .int x1] sh P M (v_Q1 (some (.int out.1)) sh P out.2) := by
  refine v_Ct.of (by decide +kernel) (Nat.le_of_ble_eq_true rfl) (fun X hO => ?_)
  have hK : v_K E X cX12_isOver RX12 2 0 := hO.1
  have hO : v_O E X cX12_isOver RX12 2 0 (some .boolean) "isOver" (v_Q1 (some (.int out.1)) sh P out.2) := hO
  show V E X (0, 0) 0 [(0, v_rf E 79), (1, .int x1)] [] sh P M
  unfold f_X12_isOver at h
  refine V.aload_n (pc := 0) (i := 0) hK rfl ⟨_, rfl⟩ dX12_isOver_0 ?_
  refine V.getR (pc := 1) hK fl_RX12_67 rfl (hL.1 79 _ ls_79) (hL.2 79 23 99 rfl) dX12_isOver_1 ?_
  refine V.aload_n (pc := 4) (i := 0) hK rfl ⟨_, rfl⟩ dX12_isOver_4 ?_
  refine V.getR (pc := 5) hK fl_RX12_9 rfl (hL.1 79 _ ls_79) (hL.2 79 4 80 rfl) dX12_isOver_5 ?_
  refine V.iload_n (pc := 8) (i := 1) hK rfl dX12_isOver_8 ?_
  obtain ⟨hb, h⟩ := v_ckS h
  refine V.iald (pc := 9) hK (hL.1 80 _ ls_80) (v_ibS hb) dX12_isOver_9 ?_
  refine V.iconst (pc := 10) (v := 5) hK (by decide) dX12_isOver_10 ?_
  refine V.icmp_ne (pc := 11) (tgt := 23) hK dX12_isOver_11 (by decide) (fun c => ?_) (fun c => ?_)
  · rw [if_neg c] at h
    refine V.iload_n (pc := 23) (i := 1) hK rfl dX12_isOver_23 ?_
    refine V.pick [0, 1] (l := [(0, _), (1, _)]) rfl ?_
    exact w_X12_isOver_L24 hL hO N _ _ _ h
  · rw [if_pos c] at h
    refine V.aload_n (pc := 14) (i := 0) hK rfl ⟨_, rfl⟩ dX12_isOver_14 ?_
    refine V.getR (pc := 15) hK fl_RX12_13 rfl (hL.1 79 _ ls_79) (hL.2 79 5 81 rfl) dX12_isOver_15 ?_
    refine V.iload_n (pc := 18) (i := 1) hK rfl dX12_isOver_18 ?_
    obtain ⟨hb, h⟩ := v_ckS h
    refine V.iald (pc := 19) hK (hL.1 81 _ ls_81) (v_ibS hb) dX12_isOver_19 ?_
    refine V.goto (pc := 20) (tgt := 24) hK dX12_isOver_20 (by decide) ?_
    refine V.pick [0, 1] (l := [(0, _), (1, _)]) rfl ?_
    exact w_X12_isOver_L24 hL hO N _ _ _ h
set_option maxHeartbeats 4000000 in
set_option maxRecDepth 100000 in
theorem c_X12_state (E : v_E) {sh : v_S} {P : v_P} (hL : v_Lay sh P) (N : Nat) (x1 : Int32) (x2 : Int32) (x3 : Int32) (M : v_M) {out : Int32 × v_M} (h : f_X12_state N x1 x2 x3 M = some out) : v_Ct E 2 yX12_state cX12_state 5 (some .int) 0 0 [v_rf E 79, .int x1, .int x2, .int x3] sh P M (v_Q1 (some (.int out.1)) sh P out.2) := by
  refine v_Ct.of (by decide +kernel) (Nat.le_of_ble_eq_true rfl) (fun X hO => ?_)
  have hK : v_K E X cX12_state RX12 5 2 := hO.1
  have hO : v_O E X cX12_state RX12 5 2 (some .int) "state" (v_Q1 (some (.int out.1)) sh P out.2) := hO
  show V E X (0, 0) 0 [(0, v_rf E 79), (1, .int x1), (2, .int x2), (3, .int x3)] [] sh P M
  unfold f_X12_state at h
  refine V.aload_n (pc := 0) (i := 0) hK rfl ⟨_, rfl⟩ dX12_state_0 ?_
  refine V.iload_n (pc := 1) (i := 1) hK rfl dX12_state_1 ?_
  obtain ⟨z1, hz1, h⟩ := v_bdS h
  refine V.cV (pc := 2) (ci := 12) hK (c_X12_isMachine E hL N _ _ hz1) Y_X12_isMachine cv_RX12_262 (by decide) rfl (hL.1 79 _ ls_79) dX12_state_2 (by decide) rfl (Nat.le_of_ble_eq_true rfl) ?_
  refine V.if_eq (pc := 5) (tgt := 16) hK dX12_state_5 (by decide) (fun c => ?_) (fun c => ?_)
  · rw [if_pos c] at h
    refine V.sipush (pc := 16) (v := -1000) hK (by decide) dX12_state_16 ?_
    exact V.iret (pc := 19) hO dX12_state_19 (v_finI h)
  · rw [if_neg c] at h
    refine V.aload_n (pc := 8) (i := 0) hK rfl ⟨_, rfl⟩ dX12_state_8 ?_
    refine V.iload_n (pc := 9) (i := 2) hK rfl dX12_state_9 ?_
    obtain ⟨z2, hz2, h⟩ := v_bdS h
    refine V.cV (pc := 10) (ci := 12) hK (c_X12_isPart E hL N _ _ hz2) Y_X12_isPart cv_RX12_242 (by decide) rfl (hL.1 79 _ ls_79) dX12_state_10 (by decide) rfl (Nat.le_of_ble_eq_true rfl) ?_
    refine V.if_ne (pc := 13) (tgt := 20) hK dX12_state_13 (by decide) (fun c => ?_) (fun c => ?_)
    · rw [if_neg c] at h
      refine V.bipush (pc := 20) (v := 24) hK (by decide) dX12_state_20 ?_
      refine V.iload_n (pc := 22) (i := 1) hK rfl dX12_state_22 ?_
      refine V.imul (pc := 23) hK dX12_state_23 ?_
      refine V.iload_n (pc := 24) (i := 2) hK rfl dX12_state_24 ?_
      refine V.iadd (pc := 25) hK dX12_state_25 ?_
      refine V.topi (fun y3 ey3 => ?_)
      have h := v_lt ey3 h
      refine V.istore (pc := 26) (i := 4) (lv' := [(0, _), (1, _), (2, _), (3, _), (4, _)]) hK (by decide) rfl dX12_state_26 ?_
      refine V.iload_n (pc := 28) (i := 3) hK rfl dX12_state_28 ?_
      by_cases c0 : x3 = (0 : Int32)
      · rw [if_pos c0] at h
        refine V.tableIn (pc := 29) (off := 35) (tgt := 64) hK dX12_state_29 (by rw [c0]; decide) (by rw [c0]; decide) (by rw [c0]; decide) (by decide) ?_
        refine V.aload_n (pc := 64) (i := 0) hK rfl ⟨_, rfl⟩ dX12_state_64 ?_
        refine V.getR (pc := 65) hK fl_RX12_43 rfl (hL.1 79 _ ls_79) (hL.2 79 15 91 rfl) dX12_state_65 ?_
        refine V.iload (pc := 68) (i := 4) hK rfl dX12_state_68 ?_
        obtain ⟨hb, h⟩ := v_ckS h
        refine V.iald (pc := 70) hK (hL.1 91 _ ls_91) (v_ibS hb) dX12_state_70 ?_
        exact V.iret (pc := 71) hO dX12_state_71 (v_finI h)
      · rw [if_neg c0] at h
        by_cases c1 : x3 = (1 : Int32)
        · rw [if_pos c1] at h
          refine V.tableIn (pc := 29) (off := 43) (tgt := 72) hK dX12_state_29 (by rw [c1]; decide) (by rw [c1]; decide) (by rw [c1]; decide) (by decide) ?_
          refine V.aload_n (pc := 72) (i := 0) hK rfl ⟨_, rfl⟩ dX12_state_72 ?_
          refine V.getR (pc := 73) hK fl_RX12_34 rfl (hL.1 79 _ ls_79) (hL.2 79 12 88 rfl) dX12_state_73 ?_
          refine V.iload (pc := 76) (i := 4) hK rfl dX12_state_76 ?_
          obtain ⟨hb, h⟩ := v_ckS h
          refine V.iald (pc := 78) hK (hL.1 88 _ ls_88) (v_ibS hb) dX12_state_78 ?_
          exact V.iret (pc := 79) hO dX12_state_79 (v_finI h)
        · rw [if_neg c1] at h
          by_cases c2 : x3 = (2 : Int32)
          · rw [if_pos c2] at h
            refine V.tableIn (pc := 29) (off := 51) (tgt := 80) hK dX12_state_29 (by rw [c2]; decide) (by rw [c2]; decide) (by rw [c2]; decide) (by decide) ?_
            refine V.aload_n (pc := 80) (i := 0) hK rfl ⟨_, rfl⟩ dX12_state_80 ?_
            refine V.getR (pc := 81) hK fl_RX12_37 rfl (hL.1 79 _ ls_79) (hL.2 79 13 89 rfl) dX12_state_81 ?_
            refine V.iload (pc := 84) (i := 4) hK rfl dX12_state_84 ?_
            obtain ⟨hb, h⟩ := v_ckS h
            refine V.iald (pc := 86) hK (hL.1 89 _ ls_89) (v_ibS hb) dX12_state_86 ?_
            exact V.iret (pc := 87) hO dX12_state_87 (v_finI h)
          · rw [if_neg c2] at h
            by_cases c3 : x3 = (3 : Int32)
            · rw [if_pos c3] at h
              refine V.tableIn (pc := 29) (off := 59) (tgt := 88) hK dX12_state_29 (by rw [c3]; decide) (by rw [c3]; decide) (by rw [c3]; decide) (by decide) ?_
              refine V.aload_n (pc := 88) (i := 0) hK rfl ⟨_, rfl⟩ dX12_state_88 ?_
              refine V.getR (pc := 89) hK fl_RX12_40 rfl (hL.1 79 _ ls_79) (hL.2 79 14 90 rfl) dX12_state_89 ?_
              refine V.iload (pc := 92) (i := 4) hK rfl dX12_state_92 ?_
              obtain ⟨hb, h⟩ := v_ckS h
              refine V.iald (pc := 94) hK (hL.1 90 _ ls_90) (v_ibS hb) dX12_state_94 ?_
              exact V.iret (pc := 95) hO dX12_state_95 (v_finI h)
            · rw [if_neg c3] at h
              by_cases c4 : x3 = (4 : Int32)
              · rw [if_pos c4] at h
                refine V.tableIn (pc := 29) (off := 67) (tgt := 96) hK dX12_state_29 (by rw [c4]; decide) (by rw [c4]; decide) (by rw [c4]; decide) (by decide) ?_
                refine V.aload_n (pc := 96) (i := 0) hK rfl ⟨_, rfl⟩ dX12_state_96 ?_
                refine V.iload_n (pc := 97) (i := 1) hK rfl dX12_state_97 ?_
                obtain ⟨z4, hz4, h⟩ := v_bdS h
                refine V.cVv (pc := 98) (ci := 12) hK (c_X12_takes E hL N _ _ hz4) Y_X12_takes cv_RX12_270 (by decide) rfl (hL.1 79 _ ls_79) dX12_state_98 (by decide) rfl (Nat.le_of_ble_eq_true rfl) ?_
                refine V.aload_n (pc := 101) (i := 0) hK rfl ⟨_, rfl⟩ dX12_state_101 ?_
                refine V.iload_n (pc := 102) (i := 2) hK rfl dX12_state_102 ?_
                obtain ⟨z5, hz5, h⟩ := v_bdS h
                refine V.cV (pc := 103) (ci := 12) hK (c_X12_isOver E hL N _ _ hz5) Y_X12_isOver cv_RX12_278 (by decide) rfl (hL.1 79 _ ls_79) dX12_state_103 (by decide) rfl (Nat.le_of_ble_eq_true rfl) ?_
                refine V.if_eq (pc := 106) (tgt := 113) hK dX12_state_106 (by decide) (fun c => ?_) (fun c => ?_)
                · rw [if_pos c] at h
                  refine V.iconst (pc := 113) (v := 0) hK (by decide) dX12_state_113 ?_
                  exact V.iret (pc := 114) hO dX12_state_114 (v_finI h)
                · rw [if_neg c] at h
                  refine V.iconst (pc := 109) (v := 1) hK (by decide) dX12_state_109 ?_
                  refine V.goto (pc := 110) (tgt := 114) hK dX12_state_110 (by decide) ?_
                  exact V.iret (pc := 114) hO dX12_state_114 (v_finI h)
              · rw [if_neg c4] at h
                refine V.tableOut (pc := 29) (tgt := 115) hK dX12_state_29 (v_tout (fun i i1 i2 => ?_)) (by decide) ?_
                · rcases (show i = 0 ∨ i = 1 ∨ i = 2 ∨ i = 3 ∨ i = 4 by omega) with rfl | rfl | rfl | rfl | rfl
                  · exact v_tne (by decide) c0
                  · exact v_tne (by decide) c1
                  · exact v_tne (by decide) c2
                  · exact v_tne (by decide) c3
                  · exact v_tne (by decide) c4
                · refine V.sipush (pc := 115) (v := -1000) hK (by decide) dX12_state_115 ?_
                  exact V.iret (pc := 118) hO dX12_state_118 (v_finI h)
    · rw [if_pos c] at h
      refine V.sipush (pc := 16) (v := -1000) hK (by decide) dX12_state_16 ?_
      exact V.iret (pc := 19) hO dX12_state_19 (v_finI h)
set_option maxHeartbeats 4000000 in
set_option maxRecDepth 100000 in
theorem w_X12_isShut_L61 {E : v_E} {X : v_X} {sh : v_S} {P : v_P} {out : Int32 × v_M} (hL : v_Lay sh P) (hO : v_O E X cX12_isShut RX12 4 1 (some .boolean) "isShut" (v_Q1 (some (.int out.1)) sh P out.2)) (N : Nat) (k6 : Int32 → Int32 → Int32 → v_M → Option (Int32 × v_M)) (hk6 : ∀ (x1 : Int32) (x2 : Int32) (x3 : Int32) (M : v_M), k6 x1 x2 x3 M = some out → V E X (0, 0) 6 [(0, v_rf E 79), (1, .int x1), (2, .int x2), (3, .int x3)] [] sh P M) (x1 : Int32) (x3 : Int32) (t0 : Int32) (M : v_M) (h : f_X12_isShut_L61 N k6 x1 x3 t0 M = some out) : V E X (0, 0) 61 [(0, v_rf E 79), (1, .int x1), (3, .int x3)] [.int t0] sh P M := by
  have hK := hO.1
  unfold f_X12_isShut_L61 at h
  refine V.istore_n (pc := 61) (i := 2) (lv' := [(0, _), (1, _), (2, _), (3, _)]) hK (by decide) rfl dX12_isShut_61 ?_
  refine V.iinc (pc := 62) (i := 3) (v := 1) (lv' := [(0, _), (1, _), (2, _), (3, _)]) hK rfl (by decide) (by decide) rfl dX12_isShut_62 ?_
  refine V.goto (pc := 65) (tgt := 6) hK dX12_isShut_65 (by decide) ?_
  refine V.pick [0, 1, 2, 3] (l := [(0, _), (1, _), (2, _), (3, _)]) rfl ?_
  exact hk6 _ _ _ _ h
set_option maxHeartbeats 4000000 in
set_option maxRecDepth 100000 in
theorem w_X12_isShut_L60 {E : v_E} {X : v_X} {sh : v_S} {P : v_P} {out : Int32 × v_M} (hL : v_Lay sh P) (hO : v_O E X cX12_isShut RX12 4 1 (some .boolean) "isShut" (v_Q1 (some (.int out.1)) sh P out.2)) (N : Nat) (k6 : Int32 → Int32 → Int32 → v_M → Option (Int32 × v_M)) (hk6 : ∀ (x1 : Int32) (x2 : Int32) (x3 : Int32) (M : v_M), k6 x1 x2 x3 M = some out → V E X (0, 0) 6 [(0, v_rf E 79), (1, .int x1), (2, .int x2), (3, .int x3)] [] sh P M) (x1 : Int32) (x3 : Int32) (M : v_M) (h : f_X12_isShut_L60 N k6 x1 x3 M = some out) : V E X (0, 0) 60 [(0, v_rf E 79), (1, .int x1), (3, .int x3)] [] sh P M := by
  have hK := hO.1
  unfold f_X12_isShut_L60 at h
  refine V.iconst (pc := 60) (v := 0) hK (by decide) dX12_isShut_60 ?_
  refine V.pick [0, 1, 3] (l := [(0, _), (1, _), (3, _)]) rfl ?_
  exact w_X12_isShut_L61 hL hO N _ hk6 _ _ _ _ h
set_option maxHeartbeats 4000000 in
set_option maxRecDepth 100000 in
theorem w_X12_isShut_L56 {E : v_E} {X : v_X} {sh : v_S} {P : v_P} {out : Int32 × v_M} (hL : v_Lay sh P) (hO : v_O E X cX12_isShut RX12 4 1 (some .boolean) "isShut" (v_Q1 (some (.int out.1)) sh P out.2)) (N : Nat) (k6 : Int32 → Int32 → Int32 → v_M → Option (Int32 × v_M)) (hk6 : ∀ (x1 : Int32) (x2 : Int32) (x3 : Int32) (M : v_M), k6 x1 x2 x3 M = some out → V E X (0, 0) 6 [(0, v_rf E 79), (1, .int x1), (2, .int x2), (3, .int x3)] [] sh P M) (x1 : Int32) (x3 : Int32) (M : v_M) (h : f_X12_isShut_L56 N k6 x1 x3 M = some out) : V E X (0, 0) 56 [(0, v_rf E 79), (1, .int x1), (3, .int x3)] [] sh P M := by
  have hK := hO.1
  unfold f_X12_isShut_L56 at h
  refine V.iconst (pc := 56) (v := 1) hK (by decide) dX12_isShut_56 ?_
  refine V.goto (pc := 57) (tgt := 61) hK dX12_isShut_57 (by decide) ?_
  refine V.pick [0, 1, 3] (l := [(0, _), (1, _), (3, _)]) rfl ?_
  exact w_X12_isShut_L61 hL hO N _ hk6 _ _ _ _ h
set_option maxHeartbeats 4000000 in
set_option maxRecDepth 100000 in
theorem w_X12_isShut_L33 {E : v_E} {X : v_X} {sh : v_S} {P : v_P} {out : Int32 × v_M} (hL : v_Lay sh P) (hO : v_O E X cX12_isShut RX12 4 1 (some .boolean) "isShut" (v_Q1 (some (.int out.1)) sh P out.2)) (N : Nat) (k6 : Int32 → Int32 → Int32 → v_M → Option (Int32 × v_M)) (hk6 : ∀ (x1 : Int32) (x2 : Int32) (x3 : Int32) (M : v_M), k6 x1 x2 x3 M = some out → V E X (0, 0) 6 [(0, v_rf E 79), (1, .int x1), (2, .int x2), (3, .int x3)] [] sh P M) (x2 : Int32) (x3 : Int32) (t0 : Int32) (M : v_M) (h : f_X12_isShut_L33 N k6 x2 x3 t0 M = some out) : V E X (0, 0) 33 [(0, v_rf E 79), (2, .int x2), (3, .int x3)] [.int t0] sh P M := by
  have hK := hO.1
  unfold f_X12_isShut_L33 at h
  refine V.istore_n (pc := 33) (i := 1) (lv' := [(0, _), (1, _), (2, _), (3, _)]) hK (by decide) rfl dX12_isShut_33 ?_
  refine V.iload_n (pc := 34) (i := 2) hK rfl dX12_isShut_34 ?_
  refine V.if_eq (pc := 35) (tgt := 60) hK dX12_isShut_35 (by decide) (fun c => ?_) (fun c => ?_)
  · rw [if_pos c] at h
    refine V.pick [0, 1, 3] (l := [(0, _), (1, _), (3, _)]) rfl ?_
    exact w_X12_isShut_L60 hL hO N _ hk6 _ _ _ h
  · rw [if_neg c] at h
    refine V.aload_n (pc := 38) (i := 0) hK rfl ⟨_, rfl⟩ dX12_isShut_38 ?_
    refine V.getR (pc := 39) hK fl_RX12_9 rfl (hL.1 79 _ ls_79) (hL.2 79 4 80 rfl) dX12_isShut_39 ?_
    refine V.iload_n (pc := 42) (i := 3) hK rfl dX12_isShut_42 ?_
    obtain ⟨hb, h⟩ := v_ckS h
    refine V.iald (pc := 43) hK (hL.1 80 _ ls_80) (v_ibS hb) dX12_isShut_43 ?_
    refine V.iconst (pc := 44) (v := 2) hK (by decide) dX12_isShut_44 ?_
    refine V.icmp_ne (pc := 45) (tgt := 56) hK dX12_isShut_45 (by decide) (fun c => ?_) (fun c => ?_)
    · rw [if_neg c] at h
      refine V.pick [0, 1, 3] (l := [(0, _), (1, _), (3, _)]) rfl ?_
      exact w_X12_isShut_L56 hL hO N _ hk6 _ _ _ h
    · rw [if_pos c] at h
      refine V.aload_n (pc := 48) (i := 0) hK rfl ⟨_, rfl⟩ dX12_isShut_48 ?_
      refine V.iload_n (pc := 49) (i := 3) hK rfl dX12_isShut_49 ?_
      obtain ⟨z1, hz1, h⟩ := v_bdS h
      refine V.cV (pc := 50) (ci := 12) hK (c_X12_isOver E hL N _ _ hz1) Y_X12_isOver cv_RX12_278 (by decide) rfl (hL.1 79 _ ls_79) dX12_isShut_50 (by decide) rfl (Nat.le_of_ble_eq_true rfl) ?_
      refine V.if_eq (pc := 53) (tgt := 60) hK dX12_isShut_53 (by decide) (fun c => ?_) (fun c => ?_)
      · rw [if_pos c] at h
        refine V.pick [0, 1, 3] (l := [(0, _), (1, _), (3, _)]) rfl ?_
        exact w_X12_isShut_L60 hL hO N _ hk6 _ _ _ h
      · rw [if_neg c] at h
        refine V.pick [0, 1, 3] (l := [(0, _), (1, _), (3, _)]) rfl ?_
        exact w_X12_isShut_L56 hL hO N _ hk6 _ _ _ h
set_option maxHeartbeats 4000000 in
set_option maxRecDepth 100000 in
theorem w_X12_isShut_L28 {E : v_E} {X : v_X} {sh : v_S} {P : v_P} {out : Int32 × v_M} (hL : v_Lay sh P) (hO : v_O E X cX12_isShut RX12 4 1 (some .boolean) "isShut" (v_Q1 (some (.int out.1)) sh P out.2)) (N : Nat) (k6 : Int32 → Int32 → Int32 → v_M → Option (Int32 × v_M)) (hk6 : ∀ (x1 : Int32) (x2 : Int32) (x3 : Int32) (M : v_M), k6 x1 x2 x3 M = some out → V E X (0, 0) 6 [(0, v_rf E 79), (1, .int x1), (2, .int x2), (3, .int x3)] [] sh P M) (x2 : Int32) (x3 : Int32) (M : v_M) (h : f_X12_isShut_L28 N k6 x2 x3 M = some out) : V E X (0, 0) 28 [(0, v_rf E 79), (2, .int x2), (3, .int x3)] [] sh P M := by
  have hK := hO.1
  unfold f_X12_isShut_L28 at h
  refine V.iconst (pc := 28) (v := 1) hK (by decide) dX12_isShut_28 ?_
  refine V.goto (pc := 29) (tgt := 33) hK dX12_isShut_29 (by decide) ?_
  refine V.pick [0, 2, 3] (l := [(0, _), (2, _), (3, _)]) rfl ?_
  exact w_X12_isShut_L33 hL hO N _ hk6 _ _ _ _ h
set_option maxHeartbeats 4000000 in
set_option maxRecDepth 100000 in
theorem w_X12_isShut_L6 {E : v_E} {X : v_X} {sh : v_S} {P : v_P} {out : Int32 × v_M} (hL : v_Lay sh P) (hO : v_O E X cX12_isShut RX12 4 1 (some .boolean) "isShut" (v_Q1 (some (.int out.1)) sh P out.2)) (N : Nat) (n : Nat) : ∀ (x1 : Int32) (x2 : Int32) (x3 : Int32) (M : v_M), f_X12_isShut_L6 N n x1 x2 x3 M = some out → V E X (0, 0) 6 [(0, v_rf E 79), (1, .int x1), (2, .int x2), (3, .int x3)] [] sh P M := by
  have hK := hO.1
  induction n with
  | zero => intro x1 x2 x3 M h; rw [f_X12_isShut_L6] at h; cases h
  | succ n ih =>
    intro x1 x2 x3 M h
    rw [f_X12_isShut_L6] at h
    refine V.iload_n (pc := 6) (i := 3) hK rfl dX12_isShut_6 ?_
    refine V.aload_n (pc := 7) (i := 0) hK rfl ⟨_, rfl⟩ dX12_isShut_7 ?_
    refine V.getI (pc := 8) hK fl_RX12_236 rfl (hL.1 79 _ ls_79) dX12_isShut_8 ?_
    refine V.icmp_ge (pc := 11) (tgt := 68) hK dX12_isShut_11 (by decide) (fun c => ?_) (fun c => ?_)
    · rw [if_pos c] at h
      refine V.iload_n (pc := 68) (i := 1) hK rfl dX12_isShut_68 ?_
      refine V.if_eq (pc := 69) (tgt := 80) hK dX12_isShut_69 (by decide) (fun c => ?_) (fun c => ?_)
      · rw [if_pos c] at h
        refine V.iconst (pc := 80) (v := 0) hK (by decide) dX12_isShut_80 ?_
        obtain ⟨hb, h⟩ := v_ckS h
        exact V.zret (pc := 81) hO (v_z01 hb) dX12_isShut_81 (v_finI h)
      · rw [if_neg c] at h
        refine V.iload_n (pc := 72) (i := 2) hK rfl dX12_isShut_72 ?_
        refine V.if_eq (pc := 73) (tgt := 80) hK dX12_isShut_73 (by decide) (fun c => ?_) (fun c => ?_)
        · rw [if_pos c] at h
          refine V.iconst (pc := 80) (v := 0) hK (by decide) dX12_isShut_80 ?_
          obtain ⟨hb, h⟩ := v_ckS h
          exact V.zret (pc := 81) hO (v_z01 hb) dX12_isShut_81 (v_finI h)
        · rw [if_neg c] at h
          refine V.iconst (pc := 76) (v := 1) hK (by decide) dX12_isShut_76 ?_
          refine V.goto (pc := 77) (tgt := 81) hK dX12_isShut_77 (by decide) ?_
          obtain ⟨hb, h⟩ := v_ckS h
          exact V.zret (pc := 81) hO (v_z01 hb) dX12_isShut_81 (v_finI h)
    · rw [if_neg c] at h
      refine V.iload_n (pc := 14) (i := 1) hK rfl dX12_isShut_14 ?_
      refine V.if_ne (pc := 15) (tgt := 28) hK dX12_isShut_15 (by decide) (fun c => ?_) (fun c => ?_)
      · rw [if_neg c] at h
        refine V.pick [0, 2, 3] (l := [(0, _), (2, _), (3, _)]) rfl ?_
        exact w_X12_isShut_L28 hL hO N _ ih _ _ _ h
      · rw [if_pos c] at h
        refine V.aload_n (pc := 18) (i := 0) hK rfl ⟨_, rfl⟩ dX12_isShut_18 ?_
        refine V.getR (pc := 19) hK fl_RX12_9 rfl (hL.1 79 _ ls_79) (hL.2 79 4 80 rfl) dX12_isShut_19 ?_
        refine V.iload_n (pc := 22) (i := 3) hK rfl dX12_isShut_22 ?_
        obtain ⟨hb, h⟩ := v_ckS h
        refine V.iald (pc := 23) hK (hL.1 80 _ ls_80) (v_ibS hb) dX12_isShut_23 ?_
        refine V.iconst (pc := 24) (v := 2) hK (by decide) dX12_isShut_24 ?_
        refine V.icmp_ne (pc := 25) (tgt := 32) hK dX12_isShut_25 (by decide) (fun c => ?_) (fun c => ?_)
        · rw [if_neg c] at h
          refine V.iconst (pc := 32) (v := 0) hK (by decide) dX12_isShut_32 ?_
          refine V.pick [0, 2, 3] (l := [(0, _), (2, _), (3, _)]) rfl ?_
          exact w_X12_isShut_L33 hL hO N _ ih _ _ _ _ h
        · rw [if_pos c] at h
          refine V.pick [0, 2, 3] (l := [(0, _), (2, _), (3, _)]) rfl ?_
          exact w_X12_isShut_L28 hL hO N _ ih _ _ _ h
set_option maxHeartbeats 4000000 in
set_option maxRecDepth 100000 in
theorem c_X12_isShut (E : v_E) {sh : v_S} {P : v_P} (hL : v_Lay sh P) (N : Nat) (M : v_M) {out : Int32 × v_M} (h : f_X12_isShut N M = some out) : v_Ct E 1 yX12_isShut cX12_isShut 4 (some .boolean) 0 0 [v_rf E 79] sh P M (v_Q1 (some (.int out.1)) sh P out.2) := by
  refine v_Ct.of (by decide +kernel) (Nat.le_of_ble_eq_true rfl) (fun X hO => ?_)
  have hK : v_K E X cX12_isShut RX12 4 1 := hO.1
  have hO : v_O E X cX12_isShut RX12 4 1 (some .boolean) "isShut" (v_Q1 (some (.int out.1)) sh P out.2) := hO
  show V E X (0, 0) 0 [(0, v_rf E 79)] [] sh P M
  unfold f_X12_isShut at h
  refine V.iconst (pc := 0) (v := 0) hK (by decide) dX12_isShut_0 ?_
  refine V.istore_n (pc := 1) (i := 1) (lv' := [(0, _), (1, _)]) hK (by decide) rfl dX12_isShut_1 ?_
  refine V.iconst (pc := 2) (v := 1) hK (by decide) dX12_isShut_2 ?_
  refine V.istore_n (pc := 3) (i := 2) (lv' := [(0, _), (1, _), (2, _)]) hK (by decide) rfl dX12_isShut_3 ?_
  refine V.iconst (pc := 4) (v := 0) hK (by decide) dX12_isShut_4 ?_
  refine V.istore_n (pc := 5) (i := 3) (lv' := [(0, _), (1, _), (2, _), (3, _)]) hK (by decide) rfl dX12_isShut_5 ?_
  refine V.pick [0, 1, 2, 3] (l := [(0, _), (1, _), (2, _), (3, _)]) rfl ?_
  exact w_X12_isShut_L6 hL hO N N _ _ _ _ h
