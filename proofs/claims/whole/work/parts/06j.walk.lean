set_option maxHeartbeats 4000000 in
set_option maxRecDepth 100000 in
theorem w_X11_tried_L101 {E : v_E} {X : v_X} {sh : v_S} {P : v_P} {out : Int32 × v_M} (hL : v_Lay sh P) (hO : v_O E X cX11_tried RX11 12 5 (some .int) "tried" (v_Q1 (some (.int out.1)) sh P out.2)) (N : Nat) (k46 : Int32 → Int32 → Int32 → Int32 → Int32 → Int32 → Int32 → Int32 → v_M → Option (Int32 × v_M)) (hk46 : ∀ (x2 : Int32) (x3 : Int32) (x4 : Int32) (x5 : Int32) (x6 : Int32) (x7 : Int32) (x8 : Int32) (x9 : Int32) (M : v_M), k46 x2 x3 x4 x5 x6 x7 x8 x9 M = some out → V E X (0, 0) 46 [(0, v_rf E 0), (2, .int x2), (3, .int x3), (4, .int x4), (5, .int x5), (6, .int x6), (7, .int x7), (8, .int x8), (9, .int x9)] [] sh P M) (k56 : Int32 → Int32 → Int32 → Int32 → Int32 → Int32 → Int32 → Int32 → Int32 → v_M → Option (Int32 × v_M)) (hk56 : ∀ (x2 : Int32) (x3 : Int32) (x4 : Int32) (x5 : Int32) (x6 : Int32) (x7 : Int32) (x8 : Int32) (x9 : Int32) (x10 : Int32) (M : v_M), k56 x2 x3 x4 x5 x6 x7 x8 x9 x10 M = some out → V E X (0, 0) 56 [(0, v_rf E 0), (2, .int x2), (3, .int x3), (4, .int x4), (5, .int x5), (6, .int x6), (7, .int x7), (8, .int x8), (9, .int x9), (10, .int x10)] [] sh P M) (x2 : Int32) (x3 : Int32) (x4 : Int32) (x5 : Int32) (x6 : Int32) (x7 : Int32) (x8 : Int32) (x9 : Int32) (x10 : Int32) (M : v_M) (h : f_X11_tried_L101 N k46 k56 x2 x3 x4 x5 x6 x7 x8 x9 x10 M = some out) : V E X (0, 0) 101 [(0, v_rf E 0), (2, .int x2), (3, .int x3), (4, .int x4), (5, .int x5), (6, .int x6), (7, .int x7), (8, .int x8), (9, .int x9), (10, .int x10)] [] sh P M := by
  have hK := hO.1
  unfold f_X11_tried_L101 at h
  refine V.iinc (pc := 101) (i := 10) (v := 1) (lv' := [(0, _), (2, _), (3, _), (4, _), (5, _), (6, _), (7, _), (8, _), (9, _), (10, _)]) hK rfl (by decide) (by decide) rfl dX11_tried_101 ?_
  refine V.goto (pc := 104) (tgt := 56) hK dX11_tried_104 (by decide) ?_
  refine V.pick [0, 2, 3, 4, 5, 6, 7, 8, 9, 10] (l := [(0, _), (2, _), (3, _), (4, _), (5, _), (6, _), (7, _), (8, _), (9, _), (10, _)]) rfl ?_
  exact hk56 _ _ _ _ _ _ _ _ _ _ h
set_option maxHeartbeats 4000000 in
set_option maxRecDepth 100000 in
theorem w_X11_tried_L56 {E : v_E} {X : v_X} {sh : v_S} {P : v_P} {out : Int32 × v_M} (hL : v_Lay sh P) (hO : v_O E X cX11_tried RX11 12 5 (some .int) "tried" (v_Q1 (some (.int out.1)) sh P out.2)) (N : Nat) (k46 : Int32 → Int32 → Int32 → Int32 → Int32 → Int32 → Int32 → Int32 → v_M → Option (Int32 × v_M)) (hk46 : ∀ (x2 : Int32) (x3 : Int32) (x4 : Int32) (x5 : Int32) (x6 : Int32) (x7 : Int32) (x8 : Int32) (x9 : Int32) (M : v_M), k46 x2 x3 x4 x5 x6 x7 x8 x9 M = some out → V E X (0, 0) 46 [(0, v_rf E 0), (2, .int x2), (3, .int x3), (4, .int x4), (5, .int x5), (6, .int x6), (7, .int x7), (8, .int x8), (9, .int x9)] [] sh P M) (n : Nat) : ∀ (x2 : Int32) (x3 : Int32) (x4 : Int32) (x5 : Int32) (x6 : Int32) (x7 : Int32) (x8 : Int32) (x9 : Int32) (x10 : Int32) (M : v_M), f_X11_tried_L56 N k46 n x2 x3 x4 x5 x6 x7 x8 x9 x10 M = some out → V E X (0, 0) 56 [(0, v_rf E 0), (2, .int x2), (3, .int x3), (4, .int x4), (5, .int x5), (6, .int x6), (7, .int x7), (8, .int x8), (9, .int x9), (10, .int x10)] [] sh P M := by
  have hK := hO.1
  induction n with
  | zero => intro x2 x3 x4 x5 x6 x7 x8 x9 x10 M h; rw [f_X11_tried_L56] at h; cases h
  | succ n ih =>
    intro x2 x3 x4 x5 x6 x7 x8 x9 x10 M h
    rw [f_X11_tried_L56] at h
    refine V.iload (pc := 56) (i := 10) hK rfl dX11_tried_56 ?_
    refine V.iload (pc := 58) (i := 4) hK rfl dX11_tried_58 ?_
    refine V.icmp_gt (pc := 60) (tgt := 107) hK dX11_tried_60 (by decide) (fun c => ?_) (fun c => ?_)
    · rw [if_pos c] at h
      refine V.iinc (pc := 107) (i := 9) (v := 1) (lv' := [(0, _), (2, _), (3, _), (4, _), (5, _), (6, _), (7, _), (8, _), (9, _), (10, _)]) hK rfl (by decide) (by decide) rfl dX11_tried_107 ?_
      refine V.goto (pc := 110) (tgt := 46) hK dX11_tried_110 (by decide) ?_
      refine V.pick [0, 2, 3, 4, 5, 6, 7, 8, 9] (l := [(0, _), (2, _), (3, _), (4, _), (5, _), (6, _), (7, _), (8, _), (9, _)]) rfl ?_
      exact hk46 _ _ _ _ _ _ _ _ _ h
    · rw [if_neg c] at h
      refine V.bipush (pc := 63) (v := 16) hK (by decide) dX11_tried_63 ?_
      refine V.iload (pc := 65) (i := 9) hK rfl dX11_tried_65 ?_
      refine V.imul (pc := 67) hK dX11_tried_67 ?_
      refine V.iload (pc := 68) (i := 10) hK rfl dX11_tried_68 ?_
      refine V.iadd (pc := 70) hK dX11_tried_70 ?_
      refine V.topi (fun y1 ey1 => ?_)
      have h := v_lt ey1 h
      refine V.istore (pc := 71) (i := 11) (lv' := [(0, _), (2, _), (3, _), (4, _), (5, _), (6, _), (7, _), (8, _), (9, _), (10, _), (11, _)]) hK (by decide) rfl dX11_tried_71 ?_
      refine V.aload_n (pc := 73) (i := 0) hK rfl ⟨_, rfl⟩ dX11_tried_73 ?_
      refine V.iload_n (pc := 74) (i := 2) hK rfl dX11_tried_74 ?_
      refine V.iload_n (pc := 75) (i := 3) hK rfl dX11_tried_75 ?_
      refine V.iload (pc := 76) (i := 11) hK rfl dX11_tried_76 ?_
      refine V.iload (pc := 78) (i := 5) hK rfl dX11_tried_78 ?_
      refine V.iload (pc := 80) (i := 6) hK rfl dX11_tried_80 ?_
      obtain ⟨z2, hz2, h⟩ := v_bdS h
      refine V.cV (pc := 82) (ci := 11) hK (c_X11_isUnlikeAt E hL N _ _ _ _ _ _ hz2) Y_X11_isUnlikeAt cv_RX11_181 (by decide) rfl (hL.1 0 _ ls_0) dX11_tried_82 (by decide) rfl (Nat.le_of_ble_eq_true rfl) ?_
      refine V.if_eq (pc := 85) (tgt := 101) hK dX11_tried_85 (by decide) (fun c => ?_) (fun c => ?_)
      · rw [if_pos c] at h
        refine V.pick [0, 2, 3, 4, 5, 6, 7, 8, 9, 10] (l := [(0, _), (2, _), (3, _), (4, _), (5, _), (6, _), (7, _), (8, _), (9, _), (10, _)]) rfl ?_
        exact w_X11_tried_L101 hL hO N _ hk46 _ ih _ _ _ _ _ _ _ _ _ _ h
      · rw [if_neg c] at h
        refine V.iload (pc := 88) (i := 8) hK rfl dX11_tried_88 ?_
        refine V.iload (pc := 90) (i := 7) hK rfl dX11_tried_90 ?_
        refine V.icmp_ne (pc := 92) (tgt := 98) hK dX11_tried_92 (by decide) (fun c => ?_) (fun c => ?_)
        · rw [if_neg c] at h
          refine V.iinc (pc := 98) (i := 8) (v := 1) (lv' := [(0, _), (2, _), (3, _), (4, _), (5, _), (6, _), (7, _), (8, _), (9, _), (10, _), (11, _)]) hK rfl (by decide) (by decide) rfl dX11_tried_98 ?_
          refine V.pick [0, 2, 3, 4, 5, 6, 7, 8, 9, 10] (l := [(0, _), (2, _), (3, _), (4, _), (5, _), (6, _), (7, _), (8, _), (9, _), (10, _)]) rfl ?_
          exact w_X11_tried_L101 hL hO N _ hk46 _ ih _ _ _ _ _ _ _ _ _ _ h
        · rw [if_pos c] at h
          refine V.iload (pc := 95) (i := 11) hK rfl dX11_tried_95 ?_
          exact V.iret (pc := 97) hO dX11_tried_97 (v_finI h)
set_option maxHeartbeats 4000000 in
set_option maxRecDepth 100000 in
theorem w_X11_tried_L46 {E : v_E} {X : v_X} {sh : v_S} {P : v_P} {out : Int32 × v_M} (hL : v_Lay sh P) (hO : v_O E X cX11_tried RX11 12 5 (some .int) "tried" (v_Q1 (some (.int out.1)) sh P out.2)) (N : Nat) (n : Nat) : ∀ (x2 : Int32) (x3 : Int32) (x4 : Int32) (x5 : Int32) (x6 : Int32) (x7 : Int32) (x8 : Int32) (x9 : Int32) (M : v_M), f_X11_tried_L46 N n x2 x3 x4 x5 x6 x7 x8 x9 M = some out → V E X (0, 0) 46 [(0, v_rf E 0), (2, .int x2), (3, .int x3), (4, .int x4), (5, .int x5), (6, .int x6), (7, .int x7), (8, .int x8), (9, .int x9)] [] sh P M := by
  have hK := hO.1
  induction n with
  | zero => intro x2 x3 x4 x5 x6 x7 x8 x9 M h; rw [f_X11_tried_L46] at h; cases h
  | succ n ih =>
    intro x2 x3 x4 x5 x6 x7 x8 x9 M h
    rw [f_X11_tried_L46] at h
    refine V.iload (pc := 46) (i := 9) hK rfl dX11_tried_46 ?_
    refine V.iload (pc := 48) (i := 4) hK rfl dX11_tried_48 ?_
    refine V.icmp_gt (pc := 50) (tgt := 113) hK dX11_tried_50 (by decide) (fun c => ?_) (fun c => ?_)
    · rw [if_pos c] at h
      refine V.iload (pc := 113) (i := 7) hK rfl dX11_tried_113 ?_
      refine V.iconst (pc := 115) (v := -1) hK (by decide) dX11_tried_115 ?_
      refine V.icmp_ne (pc := 116) (tgt := 124) hK dX11_tried_116 (by decide) (fun c => ?_) (fun c => ?_)
      · rw [if_neg c] at h
        refine V.iconst (pc := 124) (v := -1) hK (by decide) dX11_tried_124 ?_
        exact V.iret (pc := 125) hO dX11_tried_125 (v_finI h)
      · rw [if_pos c] at h
        refine V.iload (pc := 119) (i := 8) hK rfl dX11_tried_119 ?_
        refine V.goto (pc := 121) (tgt := 125) hK dX11_tried_121 (by decide) ?_
        exact V.iret (pc := 125) hO dX11_tried_125 (v_finI h)
    · rw [if_neg c] at h
      refine V.iconst (pc := 53) (v := 0) hK (by decide) dX11_tried_53 ?_
      refine V.istore (pc := 54) (i := 10) (lv' := [(0, _), (2, _), (3, _), (4, _), (5, _), (6, _), (7, _), (8, _), (9, _), (10, _)]) hK (by decide) rfl dX11_tried_54 ?_
      refine V.pick [0, 2, 3, 4, 5, 6, 7, 8, 9, 10] (l := [(0, _), (2, _), (3, _), (4, _), (5, _), (6, _), (7, _), (8, _), (9, _), (10, _)]) rfl ?_
      exact w_X11_tried_L56 hL hO N _ ih N _ _ _ _ _ _ _ _ _ _ h
set_option maxHeartbeats 4000000 in
set_option maxRecDepth 100000 in
theorem c_X11_tried (E : v_E) {sh : v_S} {P : v_P} (hL : v_Lay sh P) (N : Nat) (x1 : Int32) (x2 : Int32) (x3 : Int32) (x4 : Int32) (x5 : Int32) (x6 : Int32) (x7 : Int32) (M : v_M) {out : Int32 × v_M} (h : f_X11_tried N x1 x2 x3 x4 x5 x6 x7 M = some out) : v_Ct E 5 yX11_tried cX11_tried 12 (some .int) 0 0 [v_rf E 0, .int x1, .int x2, .int x3, .int x4, .int x5, .int x6, .int x7] sh P M (v_Q1 (some (.int out.1)) sh P out.2) := by
  refine v_Ct.of (by decide +kernel) (Nat.le_of_ble_eq_true rfl) (fun X hO => ?_)
  have hK : v_K E X cX11_tried RX11 12 5 := hO.1
  have hO : v_O E X cX11_tried RX11 12 5 (some .int) "tried" (v_Q1 (some (.int out.1)) sh P out.2) := hO
  show V E X (0, 0) 0 [(0, v_rf E 0), (1, .int x1), (2, .int x2), (3, .int x3), (4, .int x4), (5, .int x5), (6, .int x6), (7, .int x7)] [] sh P M
  unfold f_X11_tried at h
  refine V.aload_n (pc := 0) (i := 0) hK rfl ⟨_, rfl⟩ dX11_tried_0 ?_
  refine V.iload_n (pc := 1) (i := 1) hK rfl dX11_tried_1 ?_
  refine V.iload_n (pc := 2) (i := 2) hK rfl dX11_tried_2 ?_
  refine V.iload_n (pc := 3) (i := 3) hK rfl dX11_tried_3 ?_
  refine V.iload (pc := 4) (i := 4) hK rfl dX11_tried_4 ?_
  refine V.iload (pc := 6) (i := 5) hK rfl dX11_tried_6 ?_
  refine V.iload (pc := 8) (i := 6) hK rfl dX11_tried_8 ?_
  obtain ⟨z1, hz1, h⟩ := v_bdS h
  refine V.cV (pc := 10) (ci := 11) hK (c_X11_canTry E hL N _ _ _ _ _ _ _ hz1) Y_X11_canTry cv_RX11_177 (by decide) rfl (hL.1 0 _ ls_0) dX11_tried_10 (by decide) rfl (Nat.le_of_ble_eq_true rfl) ?_
  refine V.if_eq (pc := 13) (tgt := 22) hK dX11_tried_13 (by decide) (fun c => ?_) (fun c => ?_)
  · rw [if_pos c] at h
    refine V.iconst (pc := 22) (v := -1) hK (by decide) dX11_tried_22 ?_
    exact V.iret (pc := 23) hO dX11_tried_23 (v_finI h)
  · rw [if_neg c] at h
    refine V.iload (pc := 16) (i := 7) hK rfl dX11_tried_16 ?_
    refine V.iconst (pc := 18) (v := -1) hK (by decide) dX11_tried_18 ?_
    refine V.icmp_ge (pc := 19) (tgt := 24) hK dX11_tried_19 (by decide) (fun c => ?_) (fun c => ?_)
    · rw [if_pos c] at h
      refine V.aload_n (pc := 24) (i := 0) hK rfl ⟨_, rfl⟩ dX11_tried_24 ?_
      refine V.getR (pc := 25) hK fl_RX11_33 rfl (hL.1 0 _ ls_0) (hL.2 0 4 18 rfl) dX11_tried_25 ?_
      refine V.aload_n (pc := 28) (i := 0) hK rfl ⟨_, rfl⟩ dX11_tried_28 ?_
      refine V.getR (pc := 29) hK fl_RX11_19 rfl (hL.1 0 _ ls_0) (hL.2 0 2 1 rfl) dX11_tried_29 ?_
      refine V.aload_n (pc := 32) (i := 0) hK rfl ⟨_, rfl⟩ dX11_tried_32 ?_
      refine V.getR (pc := 33) hK fl_RX11_26 rfl (hL.1 0 _ ls_0) (hL.2 0 3 11 rfl) dX11_tried_33 ?_
      refine V.iload_n (pc := 36) (i := 1) hK rfl dX11_tried_36 ?_
      obtain ⟨z2, hz2, h⟩ := v_bdS h
      refine V.cVv (pc := 37) (ci := 2) hK (c_X2_load E hL N _ (v_FlL hL 11 rfl) _ _ hz2) Y_X2_load cv_RX11_131 (by decide) rfl (hL.1 18 _ ls_18) dX11_tried_37 (by decide) rfl (Nat.le_of_ble_eq_true rfl) ?_
      refine V.iconst (pc := 40) (v := 0) hK (by decide) dX11_tried_40 ?_
      refine V.istore (pc := 41) (i := 8) (lv' := [(0, _), (1, _), (2, _), (3, _), (4, _), (5, _), (6, _), (7, _), (8, _)]) hK (by decide) rfl dX11_tried_41 ?_
      refine V.iconst (pc := 43) (v := 0) hK (by decide) dX11_tried_43 ?_
      refine V.istore (pc := 44) (i := 9) (lv' := [(0, _), (1, _), (2, _), (3, _), (4, _), (5, _), (6, _), (7, _), (8, _), (9, _)]) hK (by decide) rfl dX11_tried_44 ?_
      refine V.pick [0, 2, 3, 4, 5, 6, 7, 8, 9] (l := [(0, _), (2, _), (3, _), (4, _), (5, _), (6, _), (7, _), (8, _), (9, _)]) rfl ?_
      exact w_X11_tried_L46 hL hO N N _ _ _ _ _ _ _ _ _ h
    · rw [if_neg c] at h
      refine V.iconst (pc := 22) (v := -1) hK (by decide) dX11_tried_22 ?_
      exact V.iret (pc := 23) hO dX11_tried_23 (v_finI h)
set_option maxHeartbeats 4000000 in
set_option maxRecDepth 100000 in
theorem w_X11_unlikePair_L36 {E : v_E} {X : v_X} {sh : v_S} {P : v_P} {out : Int32 × v_M} (hL : v_Lay sh P) (hO : v_O E X cX11_unlikePair RX11 9 5 (some .int) "unlikePair" (v_Q1 (some (.int out.1)) sh P out.2)) (N : Nat) (k27 : Int32 → Int32 → Int32 → Int32 → Int32 → Int32 → v_M → Option (Int32 × v_M)) (hk27 : ∀ (x1 : Int32) (x2 : Int32) (x3 : Int32) (x4 : Int32) (x5 : Int32) (x7 : Int32) (M : v_M), k27 x1 x2 x3 x4 x5 x7 M = some out → V E X (0, 0) 27 [(0, v_rf E 0), (1, .int x1), (2, .int x2), (3, .int x3), (4, .int x4), (5, .int x5), (7, .int x7)] [] sh P M) (n : Nat) : ∀ (x1 : Int32) (x2 : Int32) (x3 : Int32) (x4 : Int32) (x5 : Int32) (x7 : Int32) (x8 : Int32) (M : v_M), f_X11_unlikePair_L36 N k27 n x1 x2 x3 x4 x5 x7 x8 M = some out → V E X (0, 0) 36 [(0, v_rf E 0), (1, .int x1), (2, .int x2), (3, .int x3), (4, .int x4), (5, .int x5), (7, .int x7), (8, .int x8)] [] sh P M := by
  have hK := hO.1
  induction n with
  | zero => intro x1 x2 x3 x4 x5 x7 x8 M h; rw [f_X11_unlikePair_L36] at h; cases h
  | succ n ih =>
    intro x1 x2 x3 x4 x5 x7 x8 M h
    rw [f_X11_unlikePair_L36] at h
    refine V.iload (pc := 36) (i := 8) hK rfl dX11_unlikePair_36 ?_
    refine V.iload_n (pc := 38) (i := 3) hK rfl dX11_unlikePair_38 ?_
    refine V.icmp_gt (pc := 39) (tgt := 78) hK dX11_unlikePair_39 (by decide) (fun c => ?_) (fun c => ?_)
    · rw [if_pos c] at h
      refine V.iinc (pc := 78) (i := 7) (v := 1) (lv' := [(0, _), (1, _), (2, _), (3, _), (4, _), (5, _), (7, _), (8, _)]) hK rfl (by decide) (by decide) rfl dX11_unlikePair_78 ?_
      refine V.goto (pc := 81) (tgt := 27) hK dX11_unlikePair_81 (by decide) ?_
      refine V.pick [0, 1, 2, 3, 4, 5, 7] (l := [(0, _), (1, _), (2, _), (3, _), (4, _), (5, _), (7, _)]) rfl ?_
      exact hk27 _ _ _ _ _ _ _ h
    · rw [if_neg c] at h
      refine V.aload_n (pc := 42) (i := 0) hK rfl ⟨_, rfl⟩ dX11_unlikePair_42 ?_
      refine V.iload_n (pc := 43) (i := 1) hK rfl dX11_unlikePair_43 ?_
      refine V.iload_n (pc := 44) (i := 2) hK rfl dX11_unlikePair_44 ?_
      refine V.bipush (pc := 45) (v := 16) hK (by decide) dX11_unlikePair_45 ?_
      refine V.iload (pc := 47) (i := 7) hK rfl dX11_unlikePair_47 ?_
      refine V.imul (pc := 49) hK dX11_unlikePair_49 ?_
      refine V.iload (pc := 50) (i := 8) hK rfl dX11_unlikePair_50 ?_
      refine V.iadd (pc := 52) hK dX11_unlikePair_52 ?_
      refine V.iload (pc := 53) (i := 4) hK rfl dX11_unlikePair_53 ?_
      refine V.iload (pc := 55) (i := 5) hK rfl dX11_unlikePair_55 ?_
      obtain ⟨z1, hz1, h⟩ := v_bdS h
      refine V.cV (pc := 57) (ci := 11) hK (c_X11_isUnlikeAt E hL N _ _ _ _ _ _ hz1) Y_X11_isUnlikeAt cv_RX11_181 (by decide) rfl (hL.1 0 _ ls_0) dX11_unlikePair_57 (by decide) rfl (Nat.le_of_ble_eq_true rfl) ?_
      refine V.if_eq (pc := 60) (tgt := 72) hK dX11_unlikePair_60 (by decide) (fun c => ?_) (fun c => ?_)
      · rw [if_pos c] at h
        refine V.iinc (pc := 72) (i := 8) (v := 1) (lv' := [(0, _), (1, _), (2, _), (3, _), (4, _), (5, _), (7, _), (8, _)]) hK rfl (by decide) (by decide) rfl dX11_unlikePair_72 ?_
        refine V.goto (pc := 75) (tgt := 36) hK dX11_unlikePair_75 (by decide) ?_
        refine V.pick [0, 1, 2, 3, 4, 5, 7, 8] (l := [(0, _), (1, _), (2, _), (3, _), (4, _), (5, _), (7, _), (8, _)]) rfl ?_
        exact ih _ _ _ _ _ _ _ _ h
      · rw [if_neg c] at h
        refine V.bipush (pc := 63) (v := 16) hK (by decide) dX11_unlikePair_63 ?_
        refine V.iload (pc := 65) (i := 7) hK rfl dX11_unlikePair_65 ?_
        refine V.imul (pc := 67) hK dX11_unlikePair_67 ?_
        refine V.iload (pc := 68) (i := 8) hK rfl dX11_unlikePair_68 ?_
        refine V.iadd (pc := 70) hK dX11_unlikePair_70 ?_
        exact V.iret (pc := 71) hO dX11_unlikePair_71 (v_finI h)
set_option maxHeartbeats 4000000 in
set_option maxRecDepth 100000 in
theorem w_X11_unlikePair_L27 {E : v_E} {X : v_X} {sh : v_S} {P : v_P} {out : Int32 × v_M} (hL : v_Lay sh P) (hO : v_O E X cX11_unlikePair RX11 9 5 (some .int) "unlikePair" (v_Q1 (some (.int out.1)) sh P out.2)) (N : Nat) (n : Nat) : ∀ (x1 : Int32) (x2 : Int32) (x3 : Int32) (x4 : Int32) (x5 : Int32) (x7 : Int32) (M : v_M), f_X11_unlikePair_L27 N n x1 x2 x3 x4 x5 x7 M = some out → V E X (0, 0) 27 [(0, v_rf E 0), (1, .int x1), (2, .int x2), (3, .int x3), (4, .int x4), (5, .int x5), (7, .int x7)] [] sh P M := by
  have hK := hO.1
  induction n with
  | zero => intro x1 x2 x3 x4 x5 x7 M h; rw [f_X11_unlikePair_L27] at h; cases h
  | succ n ih =>
    intro x1 x2 x3 x4 x5 x7 M h
    rw [f_X11_unlikePair_L27] at h
    refine V.iload (pc := 27) (i := 7) hK rfl dX11_unlikePair_27 ?_
    refine V.iload_n (pc := 29) (i := 3) hK rfl dX11_unlikePair_29 ?_
    refine V.icmp_gt (pc := 30) (tgt := 84) hK dX11_unlikePair_30 (by decide) (fun c => ?_) (fun c => ?_)
    · rw [if_pos c] at h
      refine V.iconst (pc := 84) (v := -1) hK (by decide) dX11_unlikePair_84 ?_
      exact V.iret (pc := 85) hO dX11_unlikePair_85 (v_finI h)
    · rw [if_neg c] at h
      refine V.iconst (pc := 33) (v := 0) hK (by decide) dX11_unlikePair_33 ?_
      refine V.istore (pc := 34) (i := 8) (lv' := [(0, _), (1, _), (2, _), (3, _), (4, _), (5, _), (7, _), (8, _)]) hK (by decide) rfl dX11_unlikePair_34 ?_
      refine V.pick [0, 1, 2, 3, 4, 5, 7, 8] (l := [(0, _), (1, _), (2, _), (3, _), (4, _), (5, _), (7, _), (8, _)]) rfl ?_
      exact w_X11_unlikePair_L36 hL hO N _ ih N _ _ _ _ _ _ _ _ h
set_option maxHeartbeats 4000000 in
set_option maxRecDepth 100000 in
theorem w_X11_unlikePair_L24 {E : v_E} {X : v_X} {sh : v_S} {P : v_P} {out : Int32 × v_M} (hL : v_Lay sh P) (hO : v_O E X cX11_unlikePair RX11 9 5 (some .int) "unlikePair" (v_Q1 (some (.int out.1)) sh P out.2)) (N : Nat) (x1 : Int32) (x2 : Int32) (x3 : Int32) (x4 : Int32) (x5 : Int32) (M : v_M) (h : f_X11_unlikePair_L24 N x1 x2 x3 x4 x5 M = some out) : V E X (0, 0) 24 [(0, v_rf E 0), (1, .int x1), (2, .int x2), (3, .int x3), (4, .int x4), (5, .int x5)] [] sh P M := by
  have hK := hO.1
  unfold f_X11_unlikePair_L24 at h
  refine V.iconst (pc := 24) (v := 0) hK (by decide) dX11_unlikePair_24 ?_
  refine V.istore (pc := 25) (i := 7) (lv' := [(0, _), (1, _), (2, _), (3, _), (4, _), (5, _), (7, _)]) hK (by decide) rfl dX11_unlikePair_25 ?_
  refine V.pick [0, 1, 2, 3, 4, 5, 7] (l := [(0, _), (1, _), (2, _), (3, _), (4, _), (5, _), (7, _)]) rfl ?_
  exact w_X11_unlikePair_L27 hL hO N N _ _ _ _ _ _ _ h
set_option maxHeartbeats 4000000 in
set_option maxRecDepth 100000 in
theorem c_X11_unlikePair (E : v_E) {sh : v_S} {P : v_P} (hL : v_Lay sh P) (N : Nat) (x1 : Int32) (x2 : Int32) (x3 : Int32) (x4 : Int32) (x5 : Int32) (x6 : Int32) (M : v_M) {out : Int32 × v_M} (h : f_X11_unlikePair N x1 x2 x3 x4 x5 x6 M = some out) : v_Ct E 5 yX11_unlikePair cX11_unlikePair 9 (some .int) 0 0 [v_rf E 0, .int x1, .int x2, .int x3, .int x4, .int x5, .int x6] sh P M (v_Q1 (some (.int out.1)) sh P out.2) := by
  refine v_Ct.of (by decide +kernel) (Nat.le_of_ble_eq_true rfl) (fun X hO => ?_)
  have hK : v_K E X cX11_unlikePair RX11 9 5 := hO.1
  have hO : v_O E X cX11_unlikePair RX11 9 5 (some .int) "unlikePair" (v_Q1 (some (.int out.1)) sh P out.2) := hO
  show V E X (0, 0) 0 [(0, v_rf E 0), (1, .int x1), (2, .int x2), (3, .int x3), (4, .int x4), (5, .int x5), (6, .int x6)] [] sh P M
  unfold f_X11_unlikePair at h
  refine V.iload (pc := 0) (i := 6) hK rfl dX11_unlikePair_0 ?_
  refine V.iconst (pc := 2) (v := -1) hK (by decide) dX11_unlikePair_2 ?_
  refine V.icmp_eq (pc := 3) (tgt := 24) hK dX11_unlikePair_3 (by decide) (fun c => ?_) (fun c => ?_)
  · rw [if_pos c] at h
    refine V.pick [0, 1, 2, 3, 4, 5] (l := [(0, _), (1, _), (2, _), (3, _), (4, _), (5, _)]) rfl ?_
    exact w_X11_unlikePair_L24 hL hO N _ _ _ _ _ _ h
  · rw [if_neg c] at h
    refine V.aload_n (pc := 6) (i := 0) hK rfl ⟨_, rfl⟩ dX11_unlikePair_6 ?_
    refine V.iload_n (pc := 7) (i := 1) hK rfl dX11_unlikePair_7 ?_
    refine V.iload_n (pc := 8) (i := 2) hK rfl dX11_unlikePair_8 ?_
    refine V.iload (pc := 9) (i := 6) hK rfl dX11_unlikePair_9 ?_
    refine V.iload (pc := 11) (i := 4) hK rfl dX11_unlikePair_11 ?_
    refine V.iload (pc := 13) (i := 5) hK rfl dX11_unlikePair_13 ?_
    obtain ⟨z1, hz1, h⟩ := v_bdS h
    refine V.cV (pc := 15) (ci := 11) hK (c_X11_isUnlikeAt E hL N _ _ _ _ _ _ hz1) Y_X11_isUnlikeAt cv_RX11_181 (by decide) rfl (hL.1 0 _ ls_0) dX11_unlikePair_15 (by decide) rfl (Nat.le_of_ble_eq_true rfl) ?_
    refine V.if_eq (pc := 18) (tgt := 24) hK dX11_unlikePair_18 (by decide) (fun c => ?_) (fun c => ?_)
    · rw [if_pos c] at h
      refine V.pick [0, 1, 2, 3, 4, 5] (l := [(0, _), (1, _), (2, _), (3, _), (4, _), (5, _)]) rfl ?_
      exact w_X11_unlikePair_L24 hL hO N _ _ _ _ _ _ h
    · rw [if_neg c] at h
      refine V.iload (pc := 21) (i := 6) hK rfl dX11_unlikePair_21 ?_
      exact V.iret (pc := 23) hO dX11_unlikePair_23 (v_finI h)
set_option maxHeartbeats 4000000 in
set_option maxRecDepth 100000 in
theorem w_X0_bindBy_L70 {E : v_E} {X : v_X} {sh : v_S} {P : v_P} {out : Int32 × v_M} (hL : v_Lay sh P) (q1 : Nat) (hq1 : v_Or sh P q1) (hO : v_O E X cX0_bindBy RX0 6 4 none "bindBy" (v_Q1 (none) sh P out.2)) (N : Nat) (k14 : Int32 → Int32 → v_M → Option (Int32 × v_M)) (hk14 : ∀ (x2 : Int32) (x3 : Int32) (M : v_M), k14 x2 x3 M = some out → V E X (0, 0) 14 [(0, v_rf E 49), (1, v_rf E q1), (2, .int x2), (3, .int x3)] [] sh P M) (x2 : Int32) (x3 : Int32) (M : v_M) (h : f_X0_bindBy_L70 N q1 k14 x2 x3 M = some out) : V E X (0, 0) 70 [(0, v_rf E 49), (1, v_rf E q1), (2, .int x2), (3, .int x3)] [] sh P M := by
  have hK := hO.1
  unfold f_X0_bindBy_L70 at h
  refine V.iinc (pc := 70) (i := 3) (v := 1) (lv' := [(0, _), (1, _), (2, _), (3, _)]) hK rfl (by decide) (by decide) rfl dX0_bindBy_70 ?_
  refine V.goto (pc := 73) (tgt := 14) hK dX0_bindBy_73 (by decide) ?_
  refine V.pick [0, 1, 2, 3] (l := [(0, _), (1, _), (2, _), (3, _)]) rfl ?_
  exact hk14 _ _ _ h
set_option maxHeartbeats 4000000 in
set_option maxRecDepth 100000 in
theorem w_X0_bindBy_L63 {E : v_E} {X : v_X} {sh : v_S} {P : v_P} {out : Int32 × v_M} (hL : v_Lay sh P) (q1 : Nat) (hq1 : v_Or sh P q1) (hO : v_O E X cX0_bindBy RX0 6 4 none "bindBy" (v_Q1 (none) sh P out.2)) (N : Nat) (k14 : Int32 → Int32 → v_M → Option (Int32 × v_M)) (hk14 : ∀ (x2 : Int32) (x3 : Int32) (M : v_M), k14 x2 x3 M = some out → V E X (0, 0) 14 [(0, v_rf E 49), (1, v_rf E q1), (2, .int x2), (3, .int x3)] [] sh P M) (x2 : Int32) (x3 : Int32) (M : v_M) (h : f_X0_bindBy_L63 N q1 k14 x2 x3 M = some out) : V E X (0, 0) 63 [(0, v_rf E 49), (1, v_rf E q1), (2, .int x2), (3, .int x3)] [] sh P M := by
  have hK := hO.1
  unfold f_X0_bindBy_L63 at h
  refine V.aload_n (pc := 63) (i := 0) hK rfl ⟨_, rfl⟩ dX0_bindBy_63 ?_
  refine V.aload_n (pc := 64) (i := 1) hK rfl ⟨_, rfl⟩ dX0_bindBy_64 ?_
  refine V.iload_n (pc := 65) (i := 3) hK rfl dX0_bindBy_65 ?_
  refine V.iload_n (pc := 66) (i := 2) hK rfl dX0_bindBy_66 ?_
  obtain ⟨z1, hz1, h⟩ := v_bdS h
  refine V.cVv (pc := 67) (ci := 0) hK (c_X0_bindByClause E hL N _ hq1 _ _ _ hz1) Y_X0_bindByClause cv_RX0_84 (by decide) rfl (hL.1 49 _ ls_49) dX0_bindBy_67 (by decide) rfl (Nat.le_of_ble_eq_true rfl) ?_
  refine V.pick [0, 1, 2, 3] (l := [(0, _), (1, _), (2, _), (3, _)]) rfl ?_
  exact w_X0_bindBy_L70 hL q1 hq1 hO N _ hk14 _ _ _ h
set_option maxHeartbeats 4000000 in
set_option maxRecDepth 100000 in
theorem w_X0_bindBy_L14 {E : v_E} {X : v_X} {sh : v_S} {P : v_P} {out : Int32 × v_M} (hL : v_Lay sh P) (q1 : Nat) (hq1 : v_Or sh P q1) (hO : v_O E X cX0_bindBy RX0 6 4 none "bindBy" (v_Q1 (none) sh P out.2)) (N : Nat) (n : Nat) : ∀ (x2 : Int32) (x3 : Int32) (M : v_M), f_X0_bindBy_L14 N q1 n x2 x3 M = some out → V E X (0, 0) 14 [(0, v_rf E 49), (1, v_rf E q1), (2, .int x2), (3, .int x3)] [] sh P M := by
  have hK := hO.1
  induction n with
  | zero => intro x2 x3 M h; rw [f_X0_bindBy_L14] at h; cases h
  | succ n ih =>
    intro x2 x3 M h
    rw [f_X0_bindBy_L14] at h
    refine V.iload_n (pc := 14) (i := 3) hK rfl dX0_bindBy_14 ?_
    refine V.aload_n (pc := 15) (i := 1) hK rfl ⟨_, rfl⟩ dX0_bindBy_15 ?_
    refine V.getI (pc := 16) hK fl_RX0_69 rfl (hq1.1 0 _ rfl) dX0_bindBy_16 ?_
    refine V.icmp_ge (pc := 19) (tgt := 76) hK dX0_bindBy_19 (by decide) (fun c => ?_) (fun c => ?_)
    · rw [if_pos c] at h
      exact V.vret (pc := 76) hO dX0_bindBy_76 (v_finV h)
    · rw [if_neg c] at h
      refine V.iload_n (pc := 22) (i := 3) hK rfl dX0_bindBy_22 ?_
      refine V.bipush (pc := 23) (v := 12) hK (by decide) dX0_bindBy_23 ?_
      refine V.icmp_ge (pc := 25) (tgt := 76) hK dX0_bindBy_25 (by decide) (fun c => ?_) (fun c => ?_)
      · rw [if_pos c] at h
        exact V.vret (pc := 76) hO dX0_bindBy_76 (v_finV h)
      · rw [if_neg c] at h
        refine V.aload_n (pc := 28) (i := 1) hK rfl ⟨_, rfl⟩ dX0_bindBy_28 ?_
        refine V.getR (pc := 29) hK fl_RX0_74 rfl (hq1.1 0 _ rfl) (hq1.2 7 4 rfl) dX0_bindBy_29 ?_
        refine V.iload_n (pc := 32) (i := 3) hK rfl dX0_bindBy_32 ?_
        obtain ⟨hb, h⟩ := v_ckS h
        refine V.iald (pc := 33) hK (hq1.1 4 _ rfl) (v_ibS hb) dX0_bindBy_33 ?_
        refine V.topi (fun y1 ey1 => ?_)
        have h := v_lt ey1 h
        refine V.istore (pc := 34) (i := 4) (lv' := [(0, _), (1, _), (2, _), (3, _), (4, _)]) hK (by decide) rfl dX0_bindBy_34 ?_
        refine V.aload_n (pc := 36) (i := 1) hK rfl ⟨_, rfl⟩ dX0_bindBy_36 ?_
        refine V.getR (pc := 37) hK fl_RX0_77 rfl (hq1.1 0 _ rfl) (hq1.2 8 5 rfl) dX0_bindBy_37 ?_
        refine V.iload_n (pc := 40) (i := 3) hK rfl dX0_bindBy_40 ?_
        obtain ⟨hb, h⟩ := v_ckS h
        refine V.iald (pc := 41) hK (hq1.1 5 _ rfl) (v_ibS hb) dX0_bindBy_41 ?_
        refine V.topi (fun y2 ey2 => ?_)
        have h := v_lt ey2 h
        refine V.istore (pc := 42) (i := 5) (lv' := [(0, _), (1, _), (2, _), (3, _), (4, _), (5, _)]) hK (by decide) rfl dX0_bindBy_42 ?_
        refine V.iload (pc := 44) (i := 4) hK rfl dX0_bindBy_44 ?_
        refine V.iload (pc := 46) (i := 5) hK rfl dX0_bindBy_46 ?_
        refine V.icmp_eq (pc := 48) (tgt := 63) hK dX0_bindBy_48 (by decide) (fun c => ?_) (fun c => ?_)
        · rw [if_pos c] at h
          refine V.pick [0, 1, 2, 3] (l := [(0, _), (1, _), (2, _), (3, _)]) rfl ?_
          exact w_X0_bindBy_L63 hL q1 hq1 hO N _ ih _ _ _ h
        · rw [if_neg c] at h
          refine V.aload_n (pc := 51) (i := 0) hK rfl ⟨_, rfl⟩ dX0_bindBy_51 ?_
          refine V.aload_n (pc := 52) (i := 1) hK rfl ⟨_, rfl⟩ dX0_bindBy_52 ?_
          refine V.iload (pc := 53) (i := 4) hK rfl dX0_bindBy_53 ?_
          refine V.iload (pc := 55) (i := 5) hK rfl dX0_bindBy_55 ?_
          obtain ⟨z3, hz3, h⟩ := v_bdS h
          refine V.cV (pc := 57) (ci := 0) hK (c_X0_valueOf E hL N _ hq1 _ _ _ hz3) Y_X0_valueOf cv_RX0_80 (by decide) rfl (hL.1 49 _ ls_49) dX0_bindBy_57 (by decide) rfl (Nat.le_of_ble_eq_true rfl) ?_
          refine V.if_eq (pc := 60) (tgt := 70) hK dX0_bindBy_60 (by decide) (fun c => ?_) (fun c => ?_)
          · rw [if_pos c] at h
            refine V.pick [0, 1, 2, 3] (l := [(0, _), (1, _), (2, _), (3, _)]) rfl ?_
            exact w_X0_bindBy_L70 hL q1 hq1 hO N _ ih _ _ _ h
          · rw [if_neg c] at h
            refine V.pick [0, 1, 2, 3] (l := [(0, _), (1, _), (2, _), (3, _)]) rfl ?_
            exact w_X0_bindBy_L63 hL q1 hq1 hO N _ ih _ _ _ h
set_option maxHeartbeats 4000000 in
set_option maxRecDepth 100000 in
theorem c_X0_bindBy (E : v_E) {sh : v_S} {P : v_P} (hL : v_Lay sh P) (N : Nat) (q1 : Nat) (hq1 : v_Or sh P q1) (x2 : Int32) (M : v_M) {out : Int32 × v_M} (h : f_X0_bindBy N q1 x2 M = some out) : v_Ct E 4 yX0_bindBy cX0_bindBy 6 none 0 0 [v_rf E 49, v_rf E q1, .int x2] sh P M (v_Q1 (none) sh P out.2) := by
  refine v_Ct.of (by decide +kernel) (Nat.le_of_ble_eq_true rfl) (fun X hO => ?_)
  have hK : v_K E X cX0_bindBy RX0 6 4 := hO.1
  have hO : v_O E X cX0_bindBy RX0 6 4 none "bindBy" (v_Q1 (none) sh P out.2) := hO
  show V E X (0, 0) 0 [(0, v_rf E 49), (1, v_rf E q1), (2, .int x2)] [] sh P M
  unfold f_X0_bindBy at h
  refine V.aload_n (pc := 0) (i := 0) hK rfl ⟨_, rfl⟩ dX0_bindBy_0 ?_
  refine V.getR (pc := 1) hK fl_RX0_31 rfl (hL.1 49 _ ls_49) (hL.2 49 6 50 rfl) dX0_bindBy_1 ?_
  refine V.bipush (pc := 4) (v := 6) hK (by decide) dX0_bindBy_4 ?_
  refine V.iconst (pc := 6) (v := 0) hK (by decide) dX0_bindBy_6 ?_
  refine V.iload_n (pc := 7) (i := 2) hK rfl dX0_bindBy_7 ?_
  refine V.mmax (pc := 8) hK tw_931 tw_mmaxs tw_mi tw_mmaxc dX0_bindBy_8 (by decide) (Nat.le_of_ble_eq_true rfl) ?_
  obtain ⟨hb, h⟩ := v_ckS h
  refine V.iast (pc := 11) hK (hL.1 50 _ ls_50) (v_ibS hb) dX0_bindBy_11 ?_
  refine V.nmM (fun M1 eM1 => ?_)
  have h := v_lt eM1 h
  refine V.iconst (pc := 12) (v := 0) hK (by decide) dX0_bindBy_12 ?_
  refine V.istore_n (pc := 13) (i := 3) (lv' := [(0, _), (1, _), (2, _), (3, _)]) hK (by decide) rfl dX0_bindBy_13 ?_
  refine V.pick [0, 1, 2, 3] (l := [(0, _), (1, _), (2, _), (3, _)]) rfl ?_
  exact w_X0_bindBy_L14 hL q1 hq1 hO N N _ _ _ h
set_option maxHeartbeats 4000000 in
set_option maxRecDepth 100000 in
theorem w_X7_readClause_L108 {E : v_E} {X : v_X} {sh : v_S} {P : v_P} {out : Int32 × v_M} (hL : v_Lay sh P) (qo : Nat) (hqo : v_Or sh P qo) (hro : P 35 1 = some qo) (hO : v_O E X cX7_readClause RX7 3 38 (some .boolean) "readClause" (v_Q1 (some (.int out.1)) sh P out.2)) (N : Nat) (x1 : Int32) (M : v_M) (h : f_X7_readClause_L108 N qo x1 M = some out) : V E X (0, 0) 108 [(0, v_rf E 35), (1, .int x1)] [] sh P M := by
  have hK := hO.1
  unfold f_X7_readClause_L108 at h
  refine V.aload_n (pc := 108) (i := 0) hK rfl ⟨_, rfl⟩ dX7_readClause_108 ?_
  refine V.getR (pc := 109) hK fl_RX7_21 rfl (hL.1 35 _ ls_35) hro dX7_readClause_109 ?_
  refine V.getR (pc := 112) hK fl_RX7_88 rfl (hqo.1 0 _ rfl) (hqo.2 8 5 rfl) dX7_readClause_112 ?_
  refine V.iload_n (pc := 115) (i := 1) hK rfl dX7_readClause_115 ?_
  refine V.aload_n (pc := 116) (i := 0) hK rfl ⟨_, rfl⟩ dX7_readClause_116 ?_
  refine V.getR (pc := 117) hK fl_RX7_21 rfl (hL.1 35 _ ls_35) hro dX7_readClause_117 ?_
  refine V.getI (pc := 120) hK fl_RX7_82 rfl (hqo.1 0 _ rfl) dX7_readClause_120 ?_
  obtain ⟨hb, h⟩ := v_ckS h
  refine V.iast (pc := 123) hK (hqo.1 5 _ rfl) (v_ibS hb) dX7_readClause_123 ?_
  refine V.nmM (fun M1 eM1 => ?_)
  have h := v_lt eM1 h
  refine V.aload_n (pc := 124) (i := 0) hK rfl ⟨_, rfl⟩ dX7_readClause_124 ?_
  refine V.getR (pc := 125) hK fl_RX7_21 rfl (hL.1 35 _ ls_35) hro dX7_readClause_125 ?_
  refine V.iload_n (pc := 128) (i := 1) hK rfl dX7_readClause_128 ?_
  refine V.iconst (pc := 129) (v := 1) hK (by decide) dX7_readClause_129 ?_
  refine V.iadd (pc := 130) hK dX7_readClause_130 ?_
  refine V.putI (pc := 131) hK fl_RX7_91 rfl rfl ⟨rfl, rfl⟩ (hqo.1 0 _ rfl) dX7_readClause_131 ?_
  refine V.nmM (fun M2 eM2 => ?_)
  have h := v_lt eM2 h
  refine V.iconst (pc := 134) (v := 1) hK (by decide) dX7_readClause_134 ?_
  obtain ⟨hb, h⟩ := v_ckS h
  exact V.zret (pc := 135) hO (v_z01 hb) dX7_readClause_135 (v_finI h)
set_option maxHeartbeats 4000000 in
set_option maxRecDepth 100000 in
theorem c_X7_readClause (E : v_E) {sh : v_S} {P : v_P} (hL : v_Lay sh P) (N : Nat) (qo : Nat) (hqo : v_Or sh P qo) (hro : P 35 1 = some qo) (x1 : Int32) (M : v_M) {out : Int32 × v_M} (h : f_X7_readClause N qo x1 M = some out) : v_Ct E 38 yX7_readClause cX7_readClause 3 (some .boolean) 0 0 [v_rf E 35, .int x1] sh P M (v_Q1 (some (.int out.1)) sh P out.2) := by
  refine v_Ct.of (by decide +kernel) (Nat.le_of_ble_eq_true rfl) (fun X hO => ?_)
  have hK : v_K E X cX7_readClause RX7 3 38 := hO.1
  have hO : v_O E X cX7_readClause RX7 3 38 (some .boolean) "readClause" (v_Q1 (some (.int out.1)) sh P out.2) := hO
  show V E X (0, 0) 0 [(0, v_rf E 35), (1, .int x1)] [] sh P M
  unfold f_X7_readClause at h
  refine V.aload_n (pc := 0) (i := 0) hK rfl ⟨_, rfl⟩ dX7_readClause_0 ?_
  refine V.getI (pc := 1) hK fl_RX7_29 rfl (hL.1 35 _ ls_35) dX7_readClause_1 ?_
  refine V.sipush (pc := 4) (v := 260) hK (by decide) dX7_readClause_4 ?_
  refine V.sipush (pc := 7) (v := 263) hK (by decide) dX7_readClause_7 ?_
  obtain ⟨z1, hz1, h⟩ := v_bdS h
  refine V.cSN (pc := 10) hK (c_X11_within E hL N _ _ _ _ hz1) Y_X11_within cn_RX7_68 dX7_readClause_10 (by decide) rfl (Nat.le_of_ble_eq_true rfl) ?_
  refine V.if_ne (pc := 13) (tgt := 22) hK dX7_readClause_13 (by decide) (fun c => ?_) (fun c => ?_)
  · rw [if_neg c] at h
    refine V.iload_n (pc := 22) (i := 1) hK rfl dX7_readClause_22 ?_
    refine V.bipush (pc := 23) (v := 12) hK (by decide) dX7_readClause_23 ?_
    refine V.icmp_lt (pc := 25) (tgt := 34) hK dX7_readClause_25 (by decide) (fun c => ?_) (fun c => ?_)
    · rw [if_pos c] at h
      refine V.aload_n (pc := 34) (i := 0) hK rfl ⟨_, rfl⟩ dX7_readClause_34 ?_
      refine V.getI (pc := 35) hK fl_RX7_29 rfl (hL.1 35 _ ls_35) dX7_readClause_35 ?_
      refine V.sipush (pc := 38) (v := 260) hK (by decide) dX7_readClause_38 ?_
      refine V.isub (pc := 41) hK dX7_readClause_41 ?_
      refine V.topi (fun y2 ey2 => ?_)
      have h := v_lt ey2 h
      refine V.istore_n (pc := 42) (i := 2) (lv' := [(0, _), (1, _), (2, _)]) hK (by decide) rfl dX7_readClause_42 ?_
      refine V.aload_n (pc := 43) (i := 0) hK rfl ⟨_, rfl⟩ dX7_readClause_43 ?_
      refine V.getR (pc := 44) hK fl_RX7_21 rfl (hL.1 35 _ ls_35) hro dX7_readClause_44 ?_
      refine V.getR (pc := 47) hK fl_RX7_72 rfl (hqo.1 0 _ rfl) (hqo.2 4 1 rfl) dX7_readClause_47 ?_
      refine V.iload_n (pc := 50) (i := 1) hK rfl dX7_readClause_50 ?_
      refine V.iload_n (pc := 51) (i := 2) hK rfl dX7_readClause_51 ?_
      obtain ⟨hb, h⟩ := v_ckS h
      refine V.iast (pc := 52) hK (hqo.1 1 _ rfl) (v_ibS hb) dX7_readClause_52 ?_
      refine V.nmM (fun M3 eM3 => ?_)
      have h := v_lt eM3 h
      refine V.aload_n (pc := 53) (i := 0) hK rfl ⟨_, rfl⟩ dX7_readClause_53 ?_
      obtain ⟨z4, hz4, h⟩ := v_bdS h
      refine V.cVv (pc := 54) (ci := 7) hK (c_X7_step E hL N _ hz4) Y_X7_step cv_RX7_47 (by decide) rfl (hL.1 35 _ ls_35) dX7_readClause_54 (by decide) rfl (Nat.le_of_ble_eq_true rfl) ?_
      refine V.aload_n (pc := 57) (i := 0) hK rfl ⟨_, rfl⟩ dX7_readClause_57 ?_
      refine V.iload_n (pc := 58) (i := 2) hK rfl dX7_readClause_58 ?_
      refine V.iload_n (pc := 59) (i := 1) hK rfl dX7_readClause_59 ?_
      obtain ⟨z5, hz5, h⟩ := v_bdS h
      refine V.cV (pc := 60) (ci := 7) hK (c_X7_readBody E hL N _ hqo hro _ _ _ hz5) Y_X7_readBody cv_RX7_75 (by decide) rfl (hL.1 35 _ ls_35) dX7_readClause_60 (by decide) rfl (Nat.le_of_ble_eq_true rfl) ?_
      refine V.if_ne (pc := 63) (tgt := 68) hK dX7_readClause_63 (by decide) (fun c => ?_) (fun c => ?_)
      · rw [if_neg c] at h
        refine V.aload_n (pc := 68) (i := 0) hK rfl ⟨_, rfl⟩ dX7_readClause_68 ?_
        refine V.getR (pc := 69) hK fl_RX7_21 rfl (hL.1 35 _ ls_35) hro dX7_readClause_69 ?_
        refine V.getR (pc := 72) hK fl_RX7_79 rfl (hqo.1 0 _ rfl) (hqo.2 7 4 rfl) dX7_readClause_72 ?_
        refine V.iload_n (pc := 75) (i := 1) hK rfl dX7_readClause_75 ?_
        refine V.aload_n (pc := 76) (i := 0) hK rfl ⟨_, rfl⟩ dX7_readClause_76 ?_
        refine V.getR (pc := 77) hK fl_RX7_21 rfl (hL.1 35 _ ls_35) hro dX7_readClause_77 ?_
        refine V.getI (pc := 80) hK fl_RX7_82 rfl (hqo.1 0 _ rfl) dX7_readClause_80 ?_
        obtain ⟨hb, h⟩ := v_ckS h
        refine V.iast (pc := 83) hK (hqo.1 4 _ rfl) (v_ibS hb) dX7_readClause_83 ?_
        refine V.nmM (fun M6 eM6 => ?_)
        have h := v_lt eM6 h
        refine V.aload_n (pc := 84) (i := 0) hK rfl ⟨_, rfl⟩ dX7_readClause_84 ?_
        refine V.getI (pc := 85) hK fl_RX7_29 rfl (hL.1 35 _ ls_35) dX7_readClause_85 ?_
        refine V.sipush (pc := 88) (v := 276) hK (by decide) dX7_readClause_88 ?_
        refine V.icmp_ne (pc := 91) (tgt := 108) hK dX7_readClause_91 (by decide) (fun c => ?_) (fun c => ?_)
        · rw [if_neg c] at h
          refine V.pick [0, 1] (l := [(0, _), (1, _)]) rfl ?_
          exact w_X7_readClause_L108 hL qo hqo hro hO N _ _ h
        · rw [if_pos c] at h
          refine V.aload_n (pc := 94) (i := 0) hK rfl ⟨_, rfl⟩ dX7_readClause_94 ?_
          obtain ⟨z7, hz7, h⟩ := v_bdS h
          refine V.cVv (pc := 95) (ci := 7) hK (c_X7_step E hL N _ hz7) Y_X7_step cv_RX7_47 (by decide) rfl (hL.1 35 _ ls_35) dX7_readClause_95 (by decide) rfl (Nat.le_of_ble_eq_true rfl) ?_
          refine V.aload_n (pc := 98) (i := 0) hK rfl ⟨_, rfl⟩ dX7_readClause_98 ?_
          refine V.iconst (pc := 99) (v := 0) hK (by decide) dX7_readClause_99 ?_
          obtain ⟨z8, hz8, h⟩ := v_bdS h
          refine V.cV (pc := 100) (ci := 7) hK (c_X7_readTest E hL N _ hqo hro _ _ (fun x M out => c_fact E hL N _ hqo hro 12 x M out) _ _ hz8) Y_X7_readTest cv_RX7_85 (by decide) rfl (hL.1 35 _ ls_35) dX7_readClause_100 (by decide) rfl (Nat.le_of_ble_eq_true rfl) ?_
          refine V.if_ne (pc := 103) (tgt := 108) hK dX7_readClause_103 (by decide) (fun c => ?_) (fun c => ?_)
          · rw [if_neg c] at h
            refine V.pick [0, 1] (l := [(0, _), (1, _)]) rfl ?_
            exact w_X7_readClause_L108 hL qo hqo hro hO N _ _ h
          · rw [if_pos c] at h
            refine V.iconst (pc := 106) (v := 0) hK (by decide) dX7_readClause_106 ?_
            obtain ⟨hb, h⟩ := v_ckS h
            exact V.zret (pc := 107) hO (v_z01 hb) dX7_readClause_107 (v_finI h)
      · rw [if_pos c] at h
        refine V.iconst (pc := 66) (v := 0) hK (by decide) dX7_readClause_66 ?_
        obtain ⟨hb, h⟩ := v_ckS h
        exact V.zret (pc := 67) hO (v_z01 hb) dX7_readClause_67 (v_finI h)
    · rw [if_neg c] at h
      refine V.aload_n (pc := 28) (i := 0) hK rfl ⟨_, rfl⟩ dX7_readClause_28 ?_
      refine V.iconst (pc := 29) (v := 4) hK (by decide) dX7_readClause_29 ?_
      obtain ⟨z9, hz9, h⟩ := v_bdS h
      refine V.cV (pc := 30) (ci := 7) hK (c_X7_fail E hL N _ _ hz9) Y_X7_fail cv_RX7_54 (by decide) rfl (hL.1 35 _ ls_35) dX7_readClause_30 (by decide) rfl (Nat.le_of_ble_eq_true rfl) ?_
      obtain ⟨hb, h⟩ := v_ckS h
      exact V.zret (pc := 33) hO (v_z01 hb) dX7_readClause_33 (v_finI h)
  · rw [if_pos c] at h
    refine V.aload_n (pc := 16) (i := 0) hK rfl ⟨_, rfl⟩ dX7_readClause_16 ?_
    refine V.iconst (pc := 17) (v := 0) hK (by decide) dX7_readClause_17 ?_
    obtain ⟨z10, hz10, h⟩ := v_bdS h
    refine V.cV (pc := 18) (ci := 7) hK (c_X7_fail E hL N _ _ hz10) Y_X7_fail cv_RX7_54 (by decide) rfl (hL.1 35 _ ls_35) dX7_readClause_18 (by decide) rfl (Nat.le_of_ble_eq_true rfl) ?_
    obtain ⟨hb, h⟩ := v_ckS h
    exact V.zret (pc := 21) hO (v_z01 hb) dX7_readClause_21 (v_finI h)
set_option maxHeartbeats 4000000 in
set_option maxRecDepth 100000 in
theorem w_X11_cheapest_L125 {E : v_E} {X : v_X} {sh : v_S} {P : v_P} {out : Int32 × v_M} (hL : v_Lay sh P) (hO : v_O E X cX11_cheapest RX11 11 6 (some .int) "cheapest" (v_Q1 (some (.int out.1)) sh P out.2)) (N : Nat) (k28 : Int32 → Int32 → Int32 → Int32 → Int32 → Int32 → Int32 → Int32 → Int32 → v_M → Option (Int32 × v_M)) (hk28 : ∀ (x1 : Int32) (x2 : Int32) (x3 : Int32) (x4 : Int32) (x5 : Int32) (x6 : Int32) (x7 : Int32) (x8 : Int32) (x9 : Int32) (M : v_M), k28 x1 x2 x3 x4 x5 x6 x7 x8 x9 M = some out → V E X (0, 0) 28 [(0, v_rf E 0), (1, .int x1), (2, .int x2), (3, .int x3), (4, .int x4), (5, .int x5), (6, .int x6), (7, .int x7), (8, .int x8), (9, .int x9)] [] sh P M) (x1 : Int32) (x2 : Int32) (x3 : Int32) (x4 : Int32) (x5 : Int32) (x6 : Int32) (x7 : Int32) (x8 : Int32) (x9 : Int32) (M : v_M) (h : f_X11_cheapest_L125 N k28 x1 x2 x3 x4 x5 x6 x7 x8 x9 M = some out) : V E X (0, 0) 125 [(0, v_rf E 0), (1, .int x1), (2, .int x2), (3, .int x3), (4, .int x4), (5, .int x5), (6, .int x6), (7, .int x7), (8, .int x8), (9, .int x9)] [] sh P M := by
  have hK := hO.1
  unfold f_X11_cheapest_L125 at h
  refine V.iinc (pc := 125) (i := 9) (v := 1) (lv' := [(0, _), (1, _), (2, _), (3, _), (4, _), (5, _), (6, _), (7, _), (8, _), (9, _)]) hK rfl (by decide) (by decide) rfl dX11_cheapest_125 ?_
  refine V.goto (pc := 128) (tgt := 28) hK dX11_cheapest_128 (by decide) ?_
  refine V.pick [0, 1, 2, 3, 4, 5, 6, 7, 8, 9] (l := [(0, _), (1, _), (2, _), (3, _), (4, _), (5, _), (6, _), (7, _), (8, _), (9, _)]) rfl ?_
  exact hk28 _ _ _ _ _ _ _ _ _ _ h
set_option maxHeartbeats 4000000 in
set_option maxRecDepth 100000 in
theorem w_X11_cheapest_L63 {E : v_E} {X : v_X} {sh : v_S} {P : v_P} {out : Int32 × v_M} (hL : v_Lay sh P) (hO : v_O E X cX11_cheapest RX11 11 6 (some .int) "cheapest" (v_Q1 (some (.int out.1)) sh P out.2)) (N : Nat) (k28 : Int32 → Int32 → Int32 → Int32 → Int32 → Int32 → Int32 → Int32 → Int32 → v_M → Option (Int32 × v_M)) (hk28 : ∀ (x1 : Int32) (x2 : Int32) (x3 : Int32) (x4 : Int32) (x5 : Int32) (x6 : Int32) (x7 : Int32) (x8 : Int32) (x9 : Int32) (M : v_M), k28 x1 x2 x3 x4 x5 x6 x7 x8 x9 M = some out → V E X (0, 0) 28 [(0, v_rf E 0), (1, .int x1), (2, .int x2), (3, .int x3), (4, .int x4), (5, .int x5), (6, .int x6), (7, .int x7), (8, .int x8), (9, .int x9)] [] sh P M) (x1 : Int32) (x2 : Int32) (x3 : Int32) (x4 : Int32) (x5 : Int32) (x6 : Int32) (x7 : Int32) (x8 : Int32) (x9 : Int32) (M : v_M) (h : f_X11_cheapest_L63 N k28 x1 x2 x3 x4 x5 x6 x7 x8 x9 M = some out) : V E X (0, 0) 63 [(0, v_rf E 0), (1, .int x1), (2, .int x2), (3, .int x3), (4, .int x4), (5, .int x5), (6, .int x6), (7, .int x7), (8, .int x8), (9, .int x9)] [] sh P M := by
  have hK := hO.1
  unfold f_X11_cheapest_L63 at h
  refine V.aload_n (pc := 63) (i := 0) hK rfl ⟨_, rfl⟩ dX11_cheapest_63 ?_
  refine V.getR (pc := 64) hK fl_RX11_33 rfl (hL.1 0 _ ls_0) (hL.2 0 4 18 rfl) dX11_cheapest_64 ?_
  refine V.aload_n (pc := 67) (i := 0) hK rfl ⟨_, rfl⟩ dX11_cheapest_67 ?_
  refine V.getR (pc := 68) hK fl_RX11_19 rfl (hL.1 0 _ ls_0) (hL.2 0 2 1 rfl) dX11_cheapest_68 ?_
  refine V.aload_n (pc := 71) (i := 0) hK rfl ⟨_, rfl⟩ dX11_cheapest_71 ?_
  refine V.getR (pc := 72) hK fl_RX11_26 rfl (hL.1 0 _ ls_0) (hL.2 0 3 11 rfl) dX11_cheapest_72 ?_
  refine V.iload_n (pc := 75) (i := 1) hK rfl dX11_cheapest_75 ?_
  obtain ⟨z1, hz1, h⟩ := v_bdS h
  refine V.cVv (pc := 76) (ci := 2) hK (c_X2_load E hL N _ (v_FlL hL 11 rfl) _ _ hz1) Y_X2_load cv_RX11_131 (by decide) rfl (hL.1 18 _ ls_18) dX11_cheapest_76 (by decide) rfl (Nat.le_of_ble_eq_true rfl) ?_
  refine V.aload_n (pc := 79) (i := 0) hK rfl ⟨_, rfl⟩ dX11_cheapest_79 ?_
  refine V.getR (pc := 80) hK fl_RX11_40 rfl (hL.1 0 _ ls_0) (hL.2 0 5 29 rfl) dX11_cheapest_80 ?_
  refine V.aload_n (pc := 83) (i := 0) hK rfl ⟨_, rfl⟩ dX11_cheapest_83 ?_
  refine V.getR (pc := 84) hK fl_RX11_33 rfl (hL.1 0 _ ls_0) (hL.2 0 4 18 rfl) dX11_cheapest_84 ?_
  refine V.iload (pc := 87) (i := 9) hK rfl dX11_cheapest_87 ?_
  obtain ⟨z2, hz2, h⟩ := v_bdS h
  refine V.cVv (pc := 89) (ci := 1) hK (c_X1_applyTo E hL N _ _ hz2) Y_X1_applyTo cv_RX11_197 (by decide) rfl (hL.1 29 _ ls_29) dX11_cheapest_89 (by decide) rfl (Nat.le_of_ble_eq_true rfl) ?_
  refine V.aload_n (pc := 92) (i := 0) hK rfl ⟨_, rfl⟩ dX11_cheapest_92 ?_
  refine V.iload_n (pc := 93) (i := 2) hK rfl dX11_cheapest_93 ?_
  refine V.iload_n (pc := 94) (i := 3) hK rfl dX11_cheapest_94 ?_
  refine V.iload (pc := 95) (i := 4) hK rfl dX11_cheapest_95 ?_
  refine V.iload (pc := 97) (i := 5) hK rfl dX11_cheapest_97 ?_
  refine V.iload (pc := 99) (i := 6) hK rfl dX11_cheapest_99 ?_
  refine V.iload (pc := 101) (i := 8) hK rfl dX11_cheapest_101 ?_
  obtain ⟨z3, hz3, h⟩ := v_bdS h
  refine V.cV (pc := 103) (ci := 11) hK (c_X11_unlikePair E hL N _ _ _ _ _ _ _ hz3) Y_X11_unlikePair cv_RX11_201 (by decide) rfl (hL.1 0 _ ls_0) dX11_cheapest_103 (by decide) rfl (Nat.le_of_ble_eq_true rfl) ?_
  refine V.topi (fun y4 ey4 => ?_)
  have h := v_lt ey4 h
  refine V.istore (pc := 106) (i := 10) (lv' := [(0, _), (1, _), (2, _), (3, _), (4, _), (5, _), (6, _), (7, _), (8, _), (9, _), (10, _)]) hK (by decide) rfl dX11_cheapest_106 ?_
  refine V.iload (pc := 108) (i := 10) hK rfl dX11_cheapest_108 ?_
  refine V.iconst (pc := 110) (v := -1) hK (by decide) dX11_cheapest_110 ?_
  refine V.icmp_ne (pc := 111) (tgt := 121) hK dX11_cheapest_111 (by decide) (fun c => ?_) (fun c => ?_)
  · rw [if_neg c] at h
    refine V.iload (pc := 121) (i := 10) hK rfl dX11_cheapest_121 ?_
    refine V.istore (pc := 123) (i := 8) (lv' := [(0, _), (1, _), (2, _), (3, _), (4, _), (5, _), (6, _), (7, _), (8, _), (9, _), (10, _)]) hK (by decide) rfl dX11_cheapest_123 ?_
    refine V.pick [0, 1, 2, 3, 4, 5, 6, 7, 8, 9] (l := [(0, _), (1, _), (2, _), (3, _), (4, _), (5, _), (6, _), (7, _), (8, _), (9, _)]) rfl ?_
    exact w_X11_cheapest_L125 hL hO N _ hk28 _ _ _ _ _ _ _ _ _ _ h
  · rw [if_pos c] at h
    refine V.iload (pc := 114) (i := 9) hK rfl dX11_cheapest_114 ?_
    refine V.istore (pc := 116) (i := 7) (lv' := [(0, _), (1, _), (2, _), (3, _), (4, _), (5, _), (6, _), (7, _), (8, _), (9, _), (10, _)]) hK (by decide) rfl dX11_cheapest_116 ?_
    refine V.goto (pc := 118) (tgt := 125) hK dX11_cheapest_118 (by decide) ?_
    refine V.pick [0, 1, 2, 3, 4, 5, 6, 7, 8, 9] (l := [(0, _), (1, _), (2, _), (3, _), (4, _), (5, _), (6, _), (7, _), (8, _), (9, _)]) rfl ?_
    exact w_X11_cheapest_L125 hL hO N _ hk28 _ _ _ _ _ _ _ _ _ _ h
set_option maxHeartbeats 4000000 in
set_option maxRecDepth 100000 in
theorem w_X11_cheapest_L28 {E : v_E} {X : v_X} {sh : v_S} {P : v_P} {out : Int32 × v_M} (hL : v_Lay sh P) (hO : v_O E X cX11_cheapest RX11 11 6 (some .int) "cheapest" (v_Q1 (some (.int out.1)) sh P out.2)) (N : Nat) (n : Nat) : ∀ (x1 : Int32) (x2 : Int32) (x3 : Int32) (x4 : Int32) (x5 : Int32) (x6 : Int32) (x7 : Int32) (x8 : Int32) (x9 : Int32) (M : v_M), f_X11_cheapest_L28 N n x1 x2 x3 x4 x5 x6 x7 x8 x9 M = some out → V E X (0, 0) 28 [(0, v_rf E 0), (1, .int x1), (2, .int x2), (3, .int x3), (4, .int x4), (5, .int x5), (6, .int x6), (7, .int x7), (8, .int x8), (9, .int x9)] [] sh P M := by
  have hK := hO.1
  induction n with
  | zero => intro x1 x2 x3 x4 x5 x6 x7 x8 x9 M h; rw [f_X11_cheapest_L28] at h; cases h
  | succ n ih =>
    intro x1 x2 x3 x4 x5 x6 x7 x8 x9 M h
    rw [f_X11_cheapest_L28] at h
    refine V.iload (pc := 28) (i := 9) hK rfl dX11_cheapest_28 ?_
    refine V.iconst (pc := 30) (v := 1) hK (by decide) dX11_cheapest_30 ?_
    refine V.aload_n (pc := 31) (i := 0) hK rfl ⟨_, rfl⟩ dX11_cheapest_31 ?_
    refine V.getR (pc := 32) hK fl_RX11_40 rfl (hL.1 0 _ ls_0) (hL.2 0 5 29 rfl) dX11_cheapest_32 ?_
    refine V.getI (pc := 35) hK fl_RX11_191 rfl (hL.1 29 _ ls_29) dX11_cheapest_35 ?_
    refine V.ishl (pc := 38) hK dX11_cheapest_38 ?_
    refine V.icmp_ge (pc := 39) (tgt := 131) hK dX11_cheapest_39 (by decide) (fun c => ?_) (fun c => ?_)
    · rw [if_pos c] at h
      refine V.iload (pc := 131) (i := 7) hK rfl dX11_cheapest_131 ?_
      exact V.iret (pc := 133) hO dX11_cheapest_133 (v_finI h)
    · rw [if_neg c] at h
      refine V.iload (pc := 42) (i := 7) hK rfl dX11_cheapest_42 ?_
      refine V.bipush (pc := 44) (v := -2) hK (by decide) dX11_cheapest_44 ?_
      refine V.icmp_eq (pc := 46) (tgt := 63) hK dX11_cheapest_46 (by decide) (fun c => ?_) (fun c => ?_)
      · rw [if_pos c] at h
        refine V.pick [0, 1, 2, 3, 4, 5, 6, 7, 8, 9] (l := [(0, _), (1, _), (2, _), (3, _), (4, _), (5, _), (6, _), (7, _), (8, _), (9, _)]) rfl ?_
        exact w_X11_cheapest_L63 hL hO N _ ih _ _ _ _ _ _ _ _ _ _ h
      · rw [if_neg c] at h
        refine V.aload_n (pc := 49) (i := 0) hK rfl ⟨_, rfl⟩ dX11_cheapest_49 ?_
        refine V.getR (pc := 50) hK fl_RX11_40 rfl (hL.1 0 _ ls_0) (hL.2 0 5 29 rfl) dX11_cheapest_50 ?_
        refine V.iload (pc := 53) (i := 9) hK rfl dX11_cheapest_53 ?_
        refine V.iload (pc := 55) (i := 7) hK rfl dX11_cheapest_55 ?_
        obtain ⟨z1, hz1, h⟩ := v_bdS h
        refine V.cV (pc := 57) (ci := 1) hK (c_X1_isCheaper E hL N _ _ _ hz1) Y_X1_isCheaper cv_RX11_194 (by decide) rfl (hL.1 29 _ ls_29) dX11_cheapest_57 (by decide) rfl (Nat.le_of_ble_eq_true rfl) ?_
        refine V.if_eq (pc := 60) (tgt := 125) hK dX11_cheapest_60 (by decide) (fun c => ?_) (fun c => ?_)
        · rw [if_pos c] at h
          refine V.pick [0, 1, 2, 3, 4, 5, 6, 7, 8, 9] (l := [(0, _), (1, _), (2, _), (3, _), (4, _), (5, _), (6, _), (7, _), (8, _), (9, _)]) rfl ?_
          exact w_X11_cheapest_L125 hL hO N _ ih _ _ _ _ _ _ _ _ _ _ h
        · rw [if_neg c] at h
          refine V.pick [0, 1, 2, 3, 4, 5, 6, 7, 8, 9] (l := [(0, _), (1, _), (2, _), (3, _), (4, _), (5, _), (6, _), (7, _), (8, _), (9, _)]) rfl ?_
          exact w_X11_cheapest_L63 hL hO N _ ih _ _ _ _ _ _ _ _ _ _ h
set_option maxHeartbeats 4000000 in
set_option maxRecDepth 100000 in
theorem c_X11_cheapest (E : v_E) {sh : v_S} {P : v_P} (hL : v_Lay sh P) (N : Nat) (x1 : Int32) (x2 : Int32) (x3 : Int32) (x4 : Int32) (x5 : Int32) (x6 : Int32) (M : v_M) {out : Int32 × v_M} (h : f_X11_cheapest N x1 x2 x3 x4 x5 x6 M = some out) : v_Ct E 6 yX11_cheapest cX11_cheapest 11 (some .int) 0 0 [v_rf E 0, .int x1, .int x2, .int x3, .int x4, .int x5, .int x6] sh P M (v_Q1 (some (.int out.1)) sh P out.2) := by
  refine v_Ct.of (by decide +kernel) (Nat.le_of_ble_eq_true rfl) (fun X hO => ?_)
  have hK : v_K E X cX11_cheapest RX11 11 6 := hO.1
  have hO : v_O E X cX11_cheapest RX11 11 6 (some .int) "cheapest" (v_Q1 (some (.int out.1)) sh P out.2) := hO
  show V E X (0, 0) 0 [(0, v_rf E 0), (1, .int x1), (2, .int x2), (3, .int x3), (4, .int x4), (5, .int x5), (6, .int x6)] [] sh P M
  unfold f_X11_cheapest at h
  refine V.aload_n (pc := 0) (i := 0) hK rfl ⟨_, rfl⟩ dX11_cheapest_0 ?_
  refine V.iload_n (pc := 1) (i := 1) hK rfl dX11_cheapest_1 ?_
  refine V.iload_n (pc := 2) (i := 2) hK rfl dX11_cheapest_2 ?_
  refine V.iload_n (pc := 3) (i := 3) hK rfl dX11_cheapest_3 ?_
  refine V.iload (pc := 4) (i := 4) hK rfl dX11_cheapest_4 ?_
  refine V.iload (pc := 6) (i := 5) hK rfl dX11_cheapest_6 ?_
  refine V.iload (pc := 8) (i := 6) hK rfl dX11_cheapest_8 ?_
  obtain ⟨z1, hz1, h⟩ := v_bdS h
  refine V.cV (pc := 10) (ci := 11) hK (c_X11_canTry E hL N _ _ _ _ _ _ _ hz1) Y_X11_canTry cv_RX11_177 (by decide) rfl (hL.1 0 _ ls_0) dX11_cheapest_10 (by decide) rfl (Nat.le_of_ble_eq_true rfl) ?_
  refine V.if_ne (pc := 13) (tgt := 18) hK dX11_cheapest_13 (by decide) (fun c => ?_) (fun c => ?_)
  · rw [if_neg c] at h
    refine V.bipush (pc := 18) (v := -2) hK (by decide) dX11_cheapest_18 ?_
    refine V.istore (pc := 20) (i := 7) (lv' := [(0, _), (1, _), (2, _), (3, _), (4, _), (5, _), (6, _), (7, _)]) hK (by decide) rfl dX11_cheapest_20 ?_
    refine V.iconst (pc := 22) (v := -1) hK (by decide) dX11_cheapest_22 ?_
    refine V.istore (pc := 23) (i := 8) (lv' := [(0, _), (1, _), (2, _), (3, _), (4, _), (5, _), (6, _), (7, _), (8, _)]) hK (by decide) rfl dX11_cheapest_23 ?_
    refine V.iconst (pc := 25) (v := 0) hK (by decide) dX11_cheapest_25 ?_
    refine V.istore (pc := 26) (i := 9) (lv' := [(0, _), (1, _), (2, _), (3, _), (4, _), (5, _), (6, _), (7, _), (8, _), (9, _)]) hK (by decide) rfl dX11_cheapest_26 ?_
    refine V.pick [0, 1, 2, 3, 4, 5, 6, 7, 8, 9] (l := [(0, _), (1, _), (2, _), (3, _), (4, _), (5, _), (6, _), (7, _), (8, _), (9, _)]) rfl ?_
    exact w_X11_cheapest_L28 hL hO N N _ _ _ _ _ _ _ _ _ _ h
  · rw [if_pos c] at h
    refine V.iconst (pc := 16) (v := -1) hK (by decide) dX11_cheapest_16 ?_
    exact V.iret (pc := 17) hO dX11_cheapest_17 (v_finI h)
set_option maxHeartbeats 4000000 in
set_option maxRecDepth 100000 in
theorem w_X11_gatherBinding_L108 {E : v_E} {X : v_X} {sh : v_S} {P : v_P} {out : Int32 × v_M} (hL : v_Lay sh P) (hPO : v_PO sh P) (hO : v_O E X cX11_gatherBinding RX11 4 5 none "gatherBinding" (v_Q1 (none) sh P out.2)) (N : Nat) (k34 : Int32 → Int32 → v_M → Option (Int32 × v_M)) (hk34 : ∀ (x1 : Int32) (x2 : Int32) (M : v_M), k34 x1 x2 M = some out → V E X (0, 0) 34 [(0, v_rf E 0), (1, .int x1), (2, .int x2)] [] sh P M) (x1 : Int32) (x2 : Int32) (M : v_M) (h : f_X11_gatherBinding_L108 N P k34 x1 x2 M = some out) : V E X (0, 0) 108 [(0, v_rf E 0), (1, .int x1), (2, .int x2)] [] sh P M := by
  have hK := hO.1
  unfold f_X11_gatherBinding_L108 at h
  refine V.iinc (pc := 108) (i := 2) (v := 1) (lv' := [(0, _), (1, _), (2, _)]) hK rfl (by decide) (by decide) rfl dX11_gatherBinding_108 ?_
  refine V.goto (pc := 111) (tgt := 34) hK dX11_gatherBinding_111 (by decide) ?_
  refine V.pick [0, 1, 2] (l := [(0, _), (1, _), (2, _)]) rfl ?_
  exact hk34 _ _ _ h
set_option maxHeartbeats 4000000 in
set_option maxRecDepth 100000 in
theorem w_X11_gatherBinding_L91 {E : v_E} {X : v_X} {sh : v_S} {P : v_P} {out : Int32 × v_M} (hL : v_Lay sh P) (hPO : v_PO sh P) (hO : v_O E X cX11_gatherBinding RX11 4 5 none "gatherBinding" (v_Q1 (none) sh P out.2)) (N : Nat) (k34 : Int32 → Int32 → v_M → Option (Int32 × v_M)) (hk34 : ∀ (x1 : Int32) (x2 : Int32) (M : v_M), k34 x1 x2 M = some out → V E X (0, 0) 34 [(0, v_rf E 0), (1, .int x1), (2, .int x2)] [] sh P M) (x1 : Int32) (x2 : Int32) (qd47 : Nat) (hqd47 : v_Or sh P qd47) (M : v_M) (h : f_X11_gatherBinding_L91 N P k34 x1 x2 qd47 M = some out) : V E X (0, 0) 91 [(0, v_rf E 0), (1, .int x1), (2, .int x2), (3, v_rf E qd47)] [] sh P M := by
  have hK := hO.1
  unfold f_X11_gatherBinding_L91 at h
  refine V.aload_n (pc := 91) (i := 0) hK rfl ⟨_, rfl⟩ dX11_gatherBinding_91 ?_
  refine V.getR (pc := 92) hK fl_RX11_60 rfl (hL.1 0 _ ls_0) (hL.2 0 8 49 rfl) dX11_gatherBinding_92 ?_
  refine V.aload_n (pc := 95) (i := 3) hK rfl ⟨_, rfl⟩ dX11_gatherBinding_95 ?_
  refine V.aload_n (pc := 96) (i := 0) hK rfl ⟨_, rfl⟩ dX11_gatherBinding_96 ?_
  refine V.getI (pc := 97) hK fl_RX11_7 rfl (hL.1 0 _ ls_0) dX11_gatherBinding_97 ?_
  refine V.aload_n (pc := 100) (i := 3) hK rfl ⟨_, rfl⟩ dX11_gatherBinding_100 ?_
  refine V.getI (pc := 101) hK fl_RX11_237 rfl (hqd47.1 0 _ rfl) dX11_gatherBinding_101 ?_
  refine V.isub (pc := 104) hK dX11_gatherBinding_104 ?_
  obtain ⟨z1, hz1, h⟩ := v_bdS h
  refine V.cVv (pc := 105) (ci := 0) hK (c_X0_bindBy E hL N _ hqd47 _ _ hz1) Y_X0_bindBy cv_RX11_276 (by decide) rfl (hL.1 49 _ ls_49) dX11_gatherBinding_105 (by decide) rfl (Nat.le_of_ble_eq_true rfl) ?_
  refine V.pick [0, 1, 2] (l := [(0, _), (1, _), (2, _)]) rfl ?_
  exact w_X11_gatherBinding_L108 hL hPO hO N _ hk34 _ _ _ h
set_option maxHeartbeats 4000000 in
set_option maxRecDepth 100000 in
theorem w_X11_gatherBinding_L34 {E : v_E} {X : v_X} {sh : v_S} {P : v_P} {out : Int32 × v_M} (hL : v_Lay sh P) (hPO : v_PO sh P) (hO : v_O E X cX11_gatherBinding RX11 4 5 none "gatherBinding" (v_Q1 (none) sh P out.2)) (N : Nat) (n : Nat) : ∀ (x1 : Int32) (x2 : Int32) (M : v_M), f_X11_gatherBinding_L34 N P n x1 x2 M = some out → V E X (0, 0) 34 [(0, v_rf E 0), (1, .int x1), (2, .int x2)] [] sh P M := by
  have hK := hO.1
  induction n with
  | zero => intro x1 x2 M h; rw [f_X11_gatherBinding_L34] at h; cases h
  | succ n ih =>
    intro x1 x2 M h
    rw [f_X11_gatherBinding_L34] at h
    refine V.iload_n (pc := 34) (i := 2) hK rfl dX11_gatherBinding_34 ?_
    refine V.aload_n (pc := 35) (i := 0) hK rfl ⟨_, rfl⟩ dX11_gatherBinding_35 ?_
    refine V.getI (pc := 36) hK fl_RX11_13 rfl (hL.1 0 _ ls_0) dX11_gatherBinding_36 ?_
    refine V.icmp_ge (pc := 39) (tgt := 114) hK dX11_gatherBinding_39 (by decide) (fun c => ?_) (fun c => ?_)
    · rw [if_pos c] at h
      exact V.vret (pc := 114) hO dX11_gatherBinding_114 (v_finV h)
    · rw [if_neg c] at h
      refine V.aload_n (pc := 42) (i := 0) hK rfl ⟨_, rfl⟩ dX11_gatherBinding_42 ?_
      refine V.getR (pc := 43) hK fl_RX11_53 rfl (hL.1 0 _ ls_0) (hL.2 0 7 48 rfl) dX11_gatherBinding_43 ?_
      refine V.iload_n (pc := 46) (i := 2) hK rfl dX11_gatherBinding_46 ?_
      obtain ⟨hb, h⟩ := v_ckS h
      cases eqqd47 : (P 48 x2.toNatClampNeg) with
      | none =>
        have h := v_optN eqqd47 h
        refine V.aaldON (pc := 47) hK (hL.1 48 _ ls_48) (v_ibS hb) eqqd47 dX11_gatherBinding_47 ?_
        refine V.astore_nN (pc := 48) (i := 3) (lv' := [(0, _), (1, _), (2, _), (3, _)]) hK (by decide) rfl dX11_gatherBinding_48 ?_
        refine V.aload_nN (pc := 49) (i := 3) hK rfl dX11_gatherBinding_49 ?_
        refine V.ifnullN (pc := 50) (tgt := 108) hK dX11_gatherBinding_50 (by decide) ?_
        refine V.pick [0, 1, 2] (l := [(0, _), (1, _), (2, _)]) rfl ?_
        exact w_X11_gatherBinding_L108 hL hPO hO N _ ih _ _ _ h
      | some qd47 =>
        have h := v_optS eqqd47 h
        have hqd47 := hPO.1 _ _ eqqd47
        refine V.aaldOS (pc := 47) hK (hL.1 48 _ ls_48) (v_ibS hb) eqqd47 dX11_gatherBinding_47 ?_
        refine V.astore_n (pc := 48) (i := 3) (lv' := [(0, _), (1, _), (2, _), (3, _)]) hK ⟨_, rfl⟩ (by decide) rfl dX11_gatherBinding_48 ?_
        refine V.aload_n (pc := 49) (i := 3) hK rfl ⟨_, rfl⟩ dX11_gatherBinding_49 ?_
        refine V.ifnullR (pc := 50) hK ⟨_, rfl⟩ dX11_gatherBinding_50 ?_
        refine V.aload_n (pc := 53) (i := 3) hK rfl ⟨_, rfl⟩ dX11_gatherBinding_53 ?_
        refine V.getI (pc := 54) hK fl_RX11_237 rfl (hqd47.1 0 _ rfl) dX11_gatherBinding_54 ?_
        refine V.aload_n (pc := 57) (i := 0) hK rfl ⟨_, rfl⟩ dX11_gatherBinding_57 ?_
        refine V.getI (pc := 58) hK fl_RX11_7 rfl (hL.1 0 _ ls_0) dX11_gatherBinding_58 ?_
        refine V.icmp_gt (pc := 61) (tgt := 108) hK dX11_gatherBinding_61 (by decide) (fun c => ?_) (fun c => ?_)
        · rw [if_pos c] at h
          refine V.pick [0, 1, 2] (l := [(0, _), (1, _), (2, _)]) rfl ?_
          exact w_X11_gatherBinding_L108 hL hPO hO N _ ih _ _ _ h
        · rw [if_neg c] at h
          refine V.aload_n (pc := 64) (i := 3) hK rfl ⟨_, rfl⟩ dX11_gatherBinding_64 ?_
          refine V.getI (pc := 65) hK fl_RX11_235 rfl (hqd47.1 0 _ rfl) dX11_gatherBinding_65 ?_
          refine V.if_eq (pc := 68) (tgt := 91) hK dX11_gatherBinding_68 (by decide) (fun c => ?_) (fun c => ?_)
          · rw [if_pos c] at h
            refine V.pick [0, 1, 2, 3] (l := [(0, _), (1, _), (2, _), (3, _)]) rfl ?_
            exact w_X11_gatherBinding_L91 hL hPO hO N _ ih _ _ _ hqd47 _ h
          · rw [if_neg c] at h
            refine V.aload_n (pc := 71) (i := 3) hK rfl ⟨_, rfl⟩ dX11_gatherBinding_71 ?_
            refine V.getI (pc := 72) hK fl_RX11_235 rfl (hqd47.1 0 _ rfl) dX11_gatherBinding_72 ?_
            refine V.iconst (pc := 75) (v := 1) hK (by decide) dX11_gatherBinding_75 ?_
            refine V.icmp_ne (pc := 76) (tgt := 108) hK dX11_gatherBinding_76 (by decide) (fun c => ?_) (fun c => ?_)
            · rw [if_neg c] at h
              refine V.pick [0, 1, 2] (l := [(0, _), (1, _), (2, _)]) rfl ?_
              exact w_X11_gatherBinding_L108 hL hPO hO N _ ih _ _ _ h
            · rw [if_pos c] at h
              refine V.aload_n (pc := 79) (i := 0) hK rfl ⟨_, rfl⟩ dX11_gatherBinding_79 ?_
              refine V.getR (pc := 80) hK fl_RX11_26 rfl (hL.1 0 _ ls_0) (hL.2 0 3 11 rfl) dX11_gatherBinding_80 ?_
              refine V.iload_n (pc := 83) (i := 1) hK rfl dX11_gatherBinding_83 ?_
              refine V.iload_n (pc := 84) (i := 2) hK rfl dX11_gatherBinding_84 ?_
              obtain ⟨z1, hz1, h⟩ := v_bdS h
              refine V.cV (pc := 85) (ci := 4) hK (c_X4_hasTaken E hL N _ (v_FlL hL 11 rfl) _ _ _ hz1) Y_X4_hasTaken cv_RX11_240 (by decide) rfl (hL.1 11 _ ls_11) dX11_gatherBinding_85 (by decide) rfl (Nat.le_of_ble_eq_true rfl) ?_
              refine V.if_eq (pc := 88) (tgt := 108) hK dX11_gatherBinding_88 (by decide) (fun c => ?_) (fun c => ?_)
              · rw [if_pos c] at h
                refine V.pick [0, 1, 2] (l := [(0, _), (1, _), (2, _)]) rfl ?_
                exact w_X11_gatherBinding_L108 hL hPO hO N _ ih _ _ _ h
              · rw [if_neg c] at h
                refine V.pick [0, 1, 2, 3] (l := [(0, _), (1, _), (2, _), (3, _)]) rfl ?_
                exact w_X11_gatherBinding_L91 hL hPO hO N _ ih _ _ _ hqd47 _ h
set_option maxHeartbeats 4000000 in
set_option maxRecDepth 100000 in
theorem c_X11_gatherBinding (E : v_E) {sh : v_S} {P : v_P} (hL : v_Lay sh P) (N : Nat) (hPO : v_PO sh P) (x1 : Int32) (M : v_M) {out : Int32 × v_M} (h : f_X11_gatherBinding N P x1 M = some out) : v_Ct E 5 yX11_gatherBinding cX11_gatherBinding 4 none 0 0 [v_rf E 0, .int x1] sh P M (v_Q1 (none) sh P out.2) := by
  refine v_Ct.of (by decide +kernel) (Nat.le_of_ble_eq_true rfl) (fun X hO => ?_)
  have hK : v_K E X cX11_gatherBinding RX11 4 5 := hO.1
  have hO : v_O E X cX11_gatherBinding RX11 4 5 none "gatherBinding" (v_Q1 (none) sh P out.2) := hO
  show V E X (0, 0) 0 [(0, v_rf E 0), (1, .int x1)] [] sh P M
  unfold f_X11_gatherBinding at h
  refine V.aload_n (pc := 0) (i := 0) hK rfl ⟨_, rfl⟩ dX11_gatherBinding_0 ?_
  refine V.getR (pc := 1) hK fl_RX11_60 rfl (hL.1 0 _ ls_0) (hL.2 0 8 49 rfl) dX11_gatherBinding_1 ?_
  refine V.aload_n (pc := 4) (i := 0) hK rfl ⟨_, rfl⟩ dX11_gatherBinding_4 ?_
  refine V.getI (pc := 5) hK fl_RX11_7 rfl (hL.1 0 _ ls_0) dX11_gatherBinding_5 ?_
  refine V.iload_n (pc := 8) (i := 1) hK rfl dX11_gatherBinding_8 ?_
  refine V.aload_n (pc := 9) (i := 0) hK rfl ⟨_, rfl⟩ dX11_gatherBinding_9 ?_
  refine V.getR (pc := 10) hK fl_RX11_67 rfl (hL.1 0 _ ls_0) (hL.2 0 9 52 rfl) dX11_gatherBinding_10 ?_
  refine V.iload_n (pc := 13) (i := 1) hK rfl dX11_gatherBinding_13 ?_
  obtain ⟨z1, hz1, h⟩ := v_bdS h
  refine V.cV (pc := 14) (ci := 8) hK (c_X8_tasksOf E hL N _ _ hz1) Y_X8_tasksOf cv_RX11_265 (by decide) rfl (hL.1 52 _ ls_52) dX11_gatherBinding_14 (by decide) rfl (Nat.le_of_ble_eq_true rfl) ?_
  obtain ⟨z2, hz2, h⟩ := v_bdS h
  refine V.cVv (pc := 17) (ci := 0) hK (c_X0_begin E hL N _ _ _ _ hz2) Y_X0_begin cv_RX11_269 (by decide) rfl (hL.1 49 _ ls_49) dX11_gatherBinding_17 (by decide) rfl (Nat.le_of_ble_eq_true rfl) ?_
  refine V.aload_n (pc := 20) (i := 0) hK rfl ⟨_, rfl⟩ dX11_gatherBinding_20 ?_
  refine V.getR (pc := 21) hK fl_RX11_60 rfl (hL.1 0 _ ls_0) (hL.2 0 8 49 rfl) dX11_gatherBinding_21 ?_
  refine V.aload_n (pc := 24) (i := 0) hK rfl ⟨_, rfl⟩ dX11_gatherBinding_24 ?_
  refine V.getR (pc := 25) hK fl_RX11_26 rfl (hL.1 0 _ ls_0) (hL.2 0 3 11 rfl) dX11_gatherBinding_25 ?_
  refine V.iload_n (pc := 28) (i := 1) hK rfl dX11_gatherBinding_28 ?_
  obtain ⟨z3, hz3, h⟩ := v_bdS h
  refine V.cVv (pc := 29) (ci := 0) hK (c_X0_know E hL N _ (v_FlL hL 11 rfl) _ _ hz3) Y_X0_know cv_RX11_273 (by decide) rfl (hL.1 49 _ ls_49) dX11_gatherBinding_29 (by decide) rfl (Nat.le_of_ble_eq_true rfl) ?_
  refine V.iconst (pc := 32) (v := 0) hK (by decide) dX11_gatherBinding_32 ?_
  refine V.istore_n (pc := 33) (i := 2) (lv' := [(0, _), (1, _), (2, _)]) hK (by decide) rfl dX11_gatherBinding_33 ?_
  refine V.pick [0, 1, 2] (l := [(0, _), (1, _), (2, _)]) rfl ?_
  exact w_X11_gatherBinding_L34 hL hPO hO N N _ _ _ h
set_option maxHeartbeats 4000000 in
set_option maxRecDepth 100000 in
theorem w_X7_compile_L35 {E : v_E} {X : v_X} {sh : v_S} {P : v_P} {out : Int32 × v_M} (hL : v_Lay sh P) (qo : Nat) (hqo : v_Or sh P qo) (hro : P 35 1 = some qo) (hO : v_O E X cX7_compile RX7 2 39 (some .int) "compile" (v_Q1 (some (.int out.1)) sh P out.2)) (N : Nat) (n : Nat) : ∀ (x1 : Int32) (M : v_M), f_X7_compile_L35 N qo n x1 M = some out → V E X (0, 0) 35 [(0, v_rf E 35), (1, .int x1)] [] sh P M := by
  have hK := hO.1
  induction n with
  | zero => intro x1 M h; rw [f_X7_compile_L35] at h; cases h
  | succ n ih =>
    intro x1 M h
    rw [f_X7_compile_L35] at h
    refine V.iload_n (pc := 35) (i := 1) hK rfl dX7_compile_35 ?_
    refine V.bipush (pc := 36) (v := 12) hK (by decide) dX7_compile_36 ?_
    refine V.icmp_gt (pc := 38) (tgt := 87) hK dX7_compile_38 (by decide) (fun c => ?_) (fun c => ?_)
    · rw [if_pos c] at h
      refine V.aload_n (pc := 87) (i := 0) hK rfl ⟨_, rfl⟩ dX7_compile_87 ?_
      refine V.getI (pc := 88) hK fl_RX7_38 rfl (hL.1 35 _ ls_35) dX7_compile_88 ?_
      exact V.iret (pc := 91) hO dX7_compile_91 (v_finI h)
    · rw [if_neg c] at h
      refine V.aload_n (pc := 41) (i := 0) hK rfl ⟨_, rfl⟩ dX7_compile_41 ?_
      refine V.iload_n (pc := 42) (i := 1) hK rfl dX7_compile_42 ?_
      obtain ⟨z1, hz1, h⟩ := v_bdS h
      refine V.cV (pc := 43) (ci := 7) hK (c_X7_readClause E hL N _ hqo hro _ _ hz1) Y_X7_readClause cv_RX7_50 (by decide) rfl (hL.1 35 _ ls_35) dX7_compile_43 (by decide) rfl (Nat.le_of_ble_eq_true rfl) ?_
      refine V.if_eq (pc := 46) (tgt := 87) hK dX7_compile_46 (by decide) (fun c => ?_) (fun c => ?_)
      · rw [if_pos c] at h
        refine V.aload_n (pc := 87) (i := 0) hK rfl ⟨_, rfl⟩ dX7_compile_87 ?_
        refine V.getI (pc := 88) hK fl_RX7_38 rfl (hL.1 35 _ ls_35) dX7_compile_88 ?_
        exact V.iret (pc := 91) hO dX7_compile_91 (v_finI h)
      · rw [if_neg c] at h
        refine V.aload_n (pc := 49) (i := 0) hK rfl ⟨_, rfl⟩ dX7_compile_49 ?_
        refine V.getI (pc := 50) hK fl_RX7_29 rfl (hL.1 35 _ ls_35) dX7_compile_50 ?_
        refine V.iconst (pc := 53) (v := -1) hK (by decide) dX7_compile_53 ?_
        refine V.icmp_eq (pc := 54) (tgt := 87) hK dX7_compile_54 (by decide) (fun c => ?_) (fun c => ?_)
        · rw [if_pos c] at h
          refine V.aload_n (pc := 87) (i := 0) hK rfl ⟨_, rfl⟩ dX7_compile_87 ?_
          refine V.getI (pc := 88) hK fl_RX7_38 rfl (hL.1 35 _ ls_35) dX7_compile_88 ?_
          exact V.iret (pc := 91) hO dX7_compile_91 (v_finI h)
        · rw [if_neg c] at h
          refine V.aload_n (pc := 57) (i := 0) hK rfl ⟨_, rfl⟩ dX7_compile_57 ?_
          refine V.getI (pc := 58) hK fl_RX7_29 rfl (hL.1 35 _ ls_35) dX7_compile_58 ?_
          refine V.bipush (pc := 61) (v := 59) hK (by decide) dX7_compile_61 ?_
          refine V.icmp_eq (pc := 63) (tgt := 77) hK dX7_compile_63 (by decide) (fun c => ?_) (fun c => ?_)
          · rw [if_pos c] at h
            refine V.aload_n (pc := 77) (i := 0) hK rfl ⟨_, rfl⟩ dX7_compile_77 ?_
            obtain ⟨z2, hz2, h⟩ := v_bdS h
            refine V.cVv (pc := 78) (ci := 7) hK (c_X7_step E hL N _ hz2) Y_X7_step cv_RX7_47 (by decide) rfl (hL.1 35 _ ls_35) dX7_compile_78 (by decide) rfl (Nat.le_of_ble_eq_true rfl) ?_
            refine V.iinc (pc := 81) (i := 1) (v := 1) (lv' := [(0, _), (1, _)]) hK rfl (by decide) (by decide) rfl dX7_compile_81 ?_
            refine V.goto (pc := 84) (tgt := 35) hK dX7_compile_84 (by decide) ?_
            refine V.pick [0, 1] (l := [(0, _), (1, _)]) rfl ?_
            exact ih _ _ h
          · rw [if_neg c] at h
            refine V.aload_n (pc := 66) (i := 0) hK rfl ⟨_, rfl⟩ dX7_compile_66 ?_
            refine V.iconst (pc := 67) (v := 0) hK (by decide) dX7_compile_67 ?_
            obtain ⟨z3, hz3, h⟩ := v_bdS h
            refine V.cV (pc := 68) (ci := 7) hK (c_X7_fail E hL N _ _ hz3) Y_X7_fail cv_RX7_54 (by decide) rfl (hL.1 35 _ ls_35) dX7_compile_68 (by decide) rfl (Nat.le_of_ble_eq_true rfl) ?_
            refine V.pop (pc := 71) hK rfl dX7_compile_71 ?_
            refine V.aload_n (pc := 72) (i := 0) hK rfl ⟨_, rfl⟩ dX7_compile_72 ?_
            refine V.getI (pc := 73) hK fl_RX7_38 rfl (hL.1 35 _ ls_35) dX7_compile_73 ?_
            exact V.iret (pc := 76) hO dX7_compile_76 (v_finI h)
set_option maxHeartbeats 4000000 in
set_option maxRecDepth 100000 in
theorem c_X7_compile (E : v_E) {sh : v_S} {P : v_P} (hL : v_Lay sh P) (N : Nat) (qo : Nat) (hqo : v_Or sh P qo) (hro : P 35 1 = some qo) (M : v_M) {out : Int32 × v_M} (h : f_X7_compile N qo M = some out) : v_Ct E 39 yX7_compile cX7_compile 2 (some .int) 0 0 [v_rf E 35] sh P M (v_Q1 (some (.int out.1)) sh P out.2) := by
  refine v_Ct.of (by decide +kernel) (Nat.le_of_ble_eq_true rfl) (fun X hO => ?_)
  have hK : v_K E X cX7_compile RX7 2 39 := hO.1
  have hO : v_O E X cX7_compile RX7 2 39 (some .int) "compile" (v_Q1 (some (.int out.1)) sh P out.2) := hO
  show V E X (0, 0) 0 [(0, v_rf E 35)] [] sh P M
  unfold f_X7_compile at h
  refine V.aload_n (pc := 0) (i := 0) hK rfl ⟨_, rfl⟩ dX7_compile_0 ?_
  refine V.getR (pc := 1) hK fl_RX7_12 rfl (hL.1 35 _ ls_35) (hL.2 35 0 36 rfl) dX7_compile_1 ?_
  obtain ⟨z1, hz1, h⟩ := v_bdS h
  refine V.cVv (pc := 4) (ci := 9) hK (c_X9_split E hL N _ hz1) Y_X9_split cv_RX7_41 (by decide) rfl (hL.1 36 _ ls_36) dX7_compile_4 (by decide) rfl (Nat.le_of_ble_eq_true rfl) ?_
  refine V.aload_n (pc := 7) (i := 0) hK rfl ⟨_, rfl⟩ dX7_compile_7 ?_
  refine V.getR (pc := 8) hK fl_RX7_21 rfl (hL.1 35 _ ls_35) hro dX7_compile_8 ?_
  obtain ⟨z2, hz2, h⟩ := v_bdS h
  refine V.cVv (pc := 11) (ci := 5) hK (c_X5_clear E hL N _ hqo _ hz2) Y_X5_clear cv_RX7_44 (by decide) rfl (hqo.1 0 _ rfl) dX7_compile_11 (by decide) rfl (Nat.le_of_ble_eq_true rfl) ?_
  refine V.aload_n (pc := 14) (i := 0) hK rfl ⟨_, rfl⟩ dX7_compile_14 ?_
  refine V.iconst (pc := 15) (v := -1) hK (by decide) dX7_compile_15 ?_
  refine V.putI (pc := 16) hK fl_RX7_25 rfl rfl ⟨rfl, rfl⟩ (hL.1 35 _ ls_35) dX7_compile_16 ?_
  refine V.nmM (fun M3 eM3 => ?_)
  have h := v_lt eM3 h
  refine V.aload_n (pc := 19) (i := 0) hK rfl ⟨_, rfl⟩ dX7_compile_19 ?_
  refine V.iconst (pc := 20) (v := 0) hK (by decide) dX7_compile_20 ?_
  refine V.putI (pc := 21) hK fl_RX7_35 rfl rfl ⟨rfl, rfl⟩ (hL.1 35 _ ls_35) dX7_compile_21 ?_
  refine V.nmM (fun M4 eM4 => ?_)
  have h := v_lt eM4 h
  refine V.aload_n (pc := 24) (i := 0) hK rfl ⟨_, rfl⟩ dX7_compile_24 ?_
  refine V.iconst (pc := 25) (v := 0) hK (by decide) dX7_compile_25 ?_
  refine V.putI (pc := 26) hK fl_RX7_38 rfl rfl ⟨rfl, rfl⟩ (hL.1 35 _ ls_35) dX7_compile_26 ?_
  refine V.nmM (fun M5 eM5 => ?_)
  have h := v_lt eM5 h
  refine V.aload_n (pc := 29) (i := 0) hK rfl ⟨_, rfl⟩ dX7_compile_29 ?_
  obtain ⟨z6, hz6, h⟩ := v_bdS h
  refine V.cVv (pc := 30) (ci := 7) hK (c_X7_step E hL N _ hz6) Y_X7_step cv_RX7_47 (by decide) rfl (hL.1 35 _ ls_35) dX7_compile_30 (by decide) rfl (Nat.le_of_ble_eq_true rfl) ?_
  refine V.iconst (pc := 33) (v := 0) hK (by decide) dX7_compile_33 ?_
  refine V.istore_n (pc := 34) (i := 1) (lv' := [(0, _), (1, _)]) hK (by decide) rfl dX7_compile_34 ?_
  refine V.pick [0, 1] (l := [(0, _), (1, _)]) rfl ?_
  exact w_X7_compile_L35 hL qo hqo hro hO N N _ _ h
set_option maxHeartbeats 4000000 in
set_option maxRecDepth 100000 in
theorem w_X11_bound_L104 {E : v_E} {X : v_X} {sh : v_S} {P : v_P} {out : Int32 × v_M} (hL : v_Lay sh P) (hPO : v_PO sh P) (hO : v_O E X cX11_bound RX11 3 6 (some .int) "bound" (v_Q1 (some (.int out.1)) sh P out.2)) (N : Nat) (M : v_M) (h : f_X11_bound_L104 N P M = some out) : V E X (0, 0) 104 [] [] sh P M := by
  have hK := hO.1
  unfold f_X11_bound_L104 at h
  refine V.iconst (pc := 104) (v := 1) hK (by decide) dX11_bound_104 ?_
  refine V.goto (pc := 105) (tgt := 109) hK dX11_bound_105 (by decide) ?_
  obtain ⟨z1, hz1, h⟩ := v_bdS h
  refine V.cS (pc := 109) hK (c_X11_asNumber E hL N _ _ hz1) Y_X11_asNumber cs_RX11_163 dX11_bound_109 (by decide) rfl (Nat.le_of_ble_eq_true rfl) ?_
  exact V.iret (pc := 112) hO dX11_bound_112 (v_finI h)
set_option maxHeartbeats 4000000 in
set_option maxRecDepth 100000 in
theorem c_X11_bound (E : v_E) {sh : v_S} {P : v_P} (hL : v_Lay sh P) (N : Nat) (hPO : v_PO sh P) (x1 : Int32) (x2 : Int32) (M : v_M) {out : Int32 × v_M} (h : f_X11_bound N P x1 x2 M = some out) : v_Ct E 6 yX11_bound cX11_bound 3 (some .int) 0 0 [v_rf E 0, .int x1, .int x2] sh P M (v_Q1 (some (.int out.1)) sh P out.2) := by
  refine v_Ct.of (by decide +kernel) (Nat.le_of_ble_eq_true rfl) (fun X hO => ?_)
  have hK : v_K E X cX11_bound RX11 3 6 := hO.1
  have hO : v_O E X cX11_bound RX11 3 6 (some .int) "bound" (v_Q1 (some (.int out.1)) sh P out.2) := hO
  show V E X (0, 0) 0 [(0, v_rf E 0), (1, .int x1), (2, .int x2)] [] sh P M
  unfold f_X11_bound at h
  refine V.aload_n (pc := 0) (i := 0) hK rfl ⟨_, rfl⟩ dX11_bound_0 ?_
  refine V.iload_n (pc := 1) (i := 1) hK rfl dX11_bound_1 ?_
  obtain ⟨z1, hz1, h⟩ := v_bdS h
  refine V.cV (pc := 2) (ci := 11) hK (c_X11_hasMachine E hL N _ _ hz1) Y_X11_hasMachine cv_RX11_150 (by decide) rfl (hL.1 0 _ ls_0) dX11_bound_2 (by decide) rfl (Nat.le_of_ble_eq_true rfl) ?_
  refine V.if_ne (pc := 5) (tgt := 10) hK dX11_bound_5 (by decide) (fun c => ?_) (fun c => ?_)
  · rw [if_neg c] at h
    refine V.aload_n (pc := 10) (i := 0) hK rfl ⟨_, rfl⟩ dX11_bound_10 ?_
    refine V.iload_n (pc := 11) (i := 1) hK rfl dX11_bound_11 ?_
    obtain ⟨z2, hz2, h⟩ := v_bdS h
    refine V.cVv (pc := 12) (ci := 11) hK (c_X11_gatherBinding E hL N hPO _ _ hz2) Y_X11_gatherBinding cv_RX11_246 (by decide) rfl (hL.1 0 _ ls_0) dX11_bound_12 (by decide) rfl (Nat.le_of_ble_eq_true rfl) ?_
    refine V.iload_n (pc := 15) (i := 2) hK rfl dX11_bound_15 ?_
    by_cases c0 : x2 = (0 : Int32)
    · rw [if_pos c0] at h
      refine V.tableIn (pc := 16) (off := 36) (tgt := 52) hK dX11_bound_16 (by rw [c0]; decide) (by rw [c0]; decide) (by rw [c0]; decide) (by decide) ?_
      refine V.aload_n (pc := 52) (i := 0) hK rfl ⟨_, rfl⟩ dX11_bound_52 ?_
      refine V.getR (pc := 53) hK fl_RX11_60 rfl (hL.1 0 _ ls_0) (hL.2 0 8 49 rfl) dX11_bound_53 ?_
      refine V.getI (pc := 56) hK fl_RX11_249 rfl (hL.1 49 _ ls_49) dX11_bound_56 ?_
      exact V.iret (pc := 59) hO dX11_bound_59 (v_finI h)
    · rw [if_neg c0] at h
      by_cases c1 : x2 = (1 : Int32)
      · rw [if_pos c1] at h
        refine V.tableIn (pc := 16) (off := 44) (tgt := 60) hK dX11_bound_16 (by rw [c1]; decide) (by rw [c1]; decide) (by rw [c1]; decide) (by decide) ?_
        refine V.aload_n (pc := 60) (i := 0) hK rfl ⟨_, rfl⟩ dX11_bound_60 ?_
        refine V.getR (pc := 61) hK fl_RX11_60 rfl (hL.1 0 _ ls_0) (hL.2 0 8 49 rfl) dX11_bound_61 ?_
        refine V.getI (pc := 64) hK fl_RX11_252 rfl (hL.1 49 _ ls_49) dX11_bound_64 ?_
        exact V.iret (pc := 67) hO dX11_bound_67 (v_finI h)
      · rw [if_neg c1] at h
        by_cases c2 : x2 = (2 : Int32)
        · rw [if_pos c2] at h
          refine V.tableIn (pc := 16) (off := 52) (tgt := 68) hK dX11_bound_16 (by rw [c2]; decide) (by rw [c2]; decide) (by rw [c2]; decide) (by decide) ?_
          refine V.aload_n (pc := 68) (i := 0) hK rfl ⟨_, rfl⟩ dX11_bound_68 ?_
          refine V.getR (pc := 69) hK fl_RX11_60 rfl (hL.1 0 _ ls_0) (hL.2 0 8 49 rfl) dX11_bound_69 ?_
          obtain ⟨z3, hz3, h⟩ := v_bdS h
          refine V.cV (pc := 72) (ci := 0) hK (c_X0_heldForce E hL N _ hz3) Y_X0_heldForce cv_RX11_255 (by decide) rfl (hL.1 49 _ ls_49) dX11_bound_72 (by decide) rfl (Nat.le_of_ble_eq_true rfl) ?_
          exact V.iret (pc := 75) hO dX11_bound_75 (v_finI h)
        · rw [if_neg c2] at h
          by_cases c3 : x2 = (3 : Int32)
          · rw [if_pos c3] at h
            refine V.tableIn (pc := 16) (off := 60) (tgt := 76) hK dX11_bound_16 (by rw [c3]; decide) (by rw [c3]; decide) (by rw [c3]; decide) (by decide) ?_
            refine V.aload_n (pc := 76) (i := 0) hK rfl ⟨_, rfl⟩ dX11_bound_76 ?_
            refine V.getR (pc := 77) hK fl_RX11_60 rfl (hL.1 0 _ ls_0) (hL.2 0 8 49 rfl) dX11_bound_77 ?_
            refine V.getI (pc := 80) hK fl_RX11_258 rfl (hL.1 49 _ ls_49) dX11_bound_80 ?_
            exact V.iret (pc := 83) hO dX11_bound_83 (v_finI h)
          · rw [if_neg c3] at h
            by_cases c4 : x2 = (4 : Int32)
            · rw [if_pos c4] at h
              refine V.tableIn (pc := 16) (off := 68) (tgt := 84) hK dX11_bound_16 (by rw [c4]; decide) (by rw [c4]; decide) (by rw [c4]; decide) (by decide) ?_
              refine V.aload_n (pc := 84) (i := 0) hK rfl ⟨_, rfl⟩ dX11_bound_84 ?_
              refine V.getR (pc := 85) hK fl_RX11_60 rfl (hL.1 0 _ ls_0) (hL.2 0 8 49 rfl) dX11_bound_85 ?_
              refine V.getI (pc := 88) hK fl_RX11_261 rfl (hL.1 49 _ ls_49) dX11_bound_88 ?_
              refine V.if_ne (pc := 91) (tgt := 104) hK dX11_bound_91 (by decide) (fun c => ?_) (fun c => ?_)
              · rw [if_neg c] at h
                refine V.pick [] (l := []) rfl ?_
                exact w_X11_bound_L104 hL hPO hO N  _ h
              · rw [if_pos c] at h
                refine V.aload_n (pc := 94) (i := 0) hK rfl ⟨_, rfl⟩ dX11_bound_94 ?_
                refine V.getR (pc := 95) hK fl_RX11_60 rfl (hL.1 0 _ ls_0) (hL.2 0 8 49 rfl) dX11_bound_95 ?_
                refine V.getI (pc := 98) hK fl_RX11_252 rfl (hL.1 49 _ ls_49) dX11_bound_98 ?_
                refine V.if_eq (pc := 101) (tgt := 108) hK dX11_bound_101 (by decide) (fun c => ?_) (fun c => ?_)
                · rw [if_pos c] at h
                  refine V.iconst (pc := 108) (v := 0) hK (by decide) dX11_bound_108 ?_
                  obtain ⟨z4, hz4, h⟩ := v_bdS h
                  refine V.cS (pc := 109) hK (c_X11_asNumber E hL N _ _ hz4) Y_X11_asNumber cs_RX11_163 dX11_bound_109 (by decide) rfl (Nat.le_of_ble_eq_true rfl) ?_
                  exact V.iret (pc := 112) hO dX11_bound_112 (v_finI h)
                · rw [if_neg c] at h
                  refine V.pick [] (l := []) rfl ?_
                  exact w_X11_bound_L104 hL hPO hO N  _ h
            · rw [if_neg c4] at h
              refine V.tableOut (pc := 16) (tgt := 113) hK dX11_bound_16 (v_tout (fun i i1 i2 => ?_)) (by decide) ?_
              · rcases (show i = 0 ∨ i = 1 ∨ i = 2 ∨ i = 3 ∨ i = 4 by omega) with rfl | rfl | rfl | rfl | rfl
                · exact v_tne (by decide) c0
                · exact v_tne (by decide) c1
                · exact v_tne (by decide) c2
                · exact v_tne (by decide) c3
                · exact v_tne (by decide) c4
              · refine V.iconst (pc := 113) (v := -1) hK (by decide) dX11_bound_113 ?_
                exact V.iret (pc := 114) hO dX11_bound_114 (v_finI h)
  · rw [if_pos c] at h
    refine V.iconst (pc := 8) (v := -1) hK (by decide) dX11_bound_8 ?_
    exact V.iret (pc := 9) hO dX11_bound_9 (v_finI h)
