set_option maxHeartbeats 4000000 in
set_option maxRecDepth 100000 in
theorem c_X12_lookedBy (E : v_E) {sh : v_S} {P : v_P} (hL : v_Lay sh P) (N : Nat) (x0 : Int32) (M : v_M) {out : Int32 × v_M} (h : f_X12_lookedBy N x0 M = some out) : v_Ct E 0 yX12_lookedBy cX12_lookedBy 1 (some .int) 0 0 [.int x0] sh P M (v_Q1 (some (.int out.1)) sh P out.2) := by
  refine v_Ct.of (by decide +kernel) (Nat.le_of_ble_eq_true rfl) (fun X hO => ?_)
  have hK : v_K E X cX12_lookedBy RX12 1 0 := hO.1
  have hO : v_O E X cX12_lookedBy RX12 1 0 (some .int) "lookedBy" (v_Q1 (some (.int out.1)) sh P out.2) := hO
  show V E X (0, 0) 0 [(0, .int x0)] [] sh P M
  unfold f_X12_lookedBy at h
  refine V.iload_n (pc := 0) (i := 0) hK rfl dX12_lookedBy_0 ?_
  refine V.if_ne (pc := 1) (tgt := 8) hK dX12_lookedBy_1 (by decide) (fun c => ?_) (fun c => ?_)
  · rw [if_neg c] at h
    refine V.iload_n (pc := 8) (i := 0) hK rfl dX12_lookedBy_8 ?_
    refine V.iconst (pc := 9) (v := 3) hK (by decide) dX12_lookedBy_9 ?_
    refine V.icmp_ne (pc := 10) (tgt := 17) hK dX12_lookedBy_10 (by decide) (fun c => ?_) (fun c => ?_)
    · rw [if_neg c] at h
      refine V.iload_n (pc := 17) (i := 0) hK rfl dX12_lookedBy_17 ?_
      refine V.iconst (pc := 18) (v := 4) hK (by decide) dX12_lookedBy_18 ?_
      refine V.icmp_ne (pc := 19) (tgt := 26) hK dX12_lookedBy_19 (by decide) (fun c => ?_) (fun c => ?_)
      · rw [if_neg c] at h
        refine V.iload_n (pc := 26) (i := 0) hK rfl dX12_lookedBy_26 ?_
        refine V.iconst (pc := 27) (v := 5) hK (by decide) dX12_lookedBy_27 ?_
        refine V.icmp_ne (pc := 28) (tgt := 36) hK dX12_lookedBy_28 (by decide) (fun c => ?_) (fun c => ?_)
        · rw [if_neg c] at h
          refine V.iconst (pc := 36) (v := 0) hK (by decide) dX12_lookedBy_36 ?_
          exact V.iret (pc := 37) hO dX12_lookedBy_37 (v_finI h)
        · rw [if_pos c] at h
          refine V.bipush (pc := 31) (v := 8) hK (by decide) dX12_lookedBy_31 ?_
          refine V.goto (pc := 33) (tgt := 37) hK dX12_lookedBy_33 (by decide) ?_
          exact V.iret (pc := 37) hO dX12_lookedBy_37 (v_finI h)
      · rw [if_pos c] at h
        refine V.iconst (pc := 22) (v := 4) hK (by decide) dX12_lookedBy_22 ?_
        refine V.goto (pc := 23) (tgt := 37) hK dX12_lookedBy_23 (by decide) ?_
        exact V.iret (pc := 37) hO dX12_lookedBy_37 (v_finI h)
    · rw [if_pos c] at h
      refine V.iconst (pc := 13) (v := 2) hK (by decide) dX12_lookedBy_13 ?_
      refine V.goto (pc := 14) (tgt := 37) hK dX12_lookedBy_14 (by decide) ?_
      exact V.iret (pc := 37) hO dX12_lookedBy_37 (v_finI h)
  · rw [if_pos c] at h
    refine V.iconst (pc := 4) (v := 1) hK (by decide) dX12_lookedBy_4 ?_
    refine V.goto (pc := 5) (tgt := 37) hK dX12_lookedBy_5 (by decide) ?_
    exact V.iret (pc := 37) hO dX12_lookedBy_37 (v_finI h)
set_option maxHeartbeats 4000000 in
set_option maxRecDepth 100000 in
theorem w_X12_looksSo_L43 {E : v_E} {X : v_X} {sh : v_S} {P : v_P} {out : Int32 × v_M} (hL : v_Lay sh P) (hO : v_O E X cX12_looksSo RX12 4 1 (some .boolean) "looksSo" (v_Q1 (some (.int out.1)) sh P out.2)) (N : Nat) (k4 : Int32 → Int32 → Int32 → v_M → Option (Int32 × v_M)) (hk4 : ∀ (x1 : Int32) (x2 : Int32) (x3 : Int32) (M : v_M), k4 x1 x2 x3 M = some out → V E X (0, 0) 4 [(0, v_rf E 79), (1, .int x1), (2, .int x2), (3, .int x3)] [] sh P M) (x1 : Int32) (x3 : Int32) (t0 : Int32) (M : v_M) (h : f_X12_looksSo_L43 N k4 x1 x3 t0 M = some out) : V E X (0, 0) 43 [(0, v_rf E 79), (1, .int x1), (3, .int x3)] [.int t0] sh P M := by
  have hK := hO.1
  unfold f_X12_looksSo_L43 at h
  refine V.istore_n (pc := 43) (i := 2) (lv' := [(0, _), (1, _), (2, _), (3, _)]) hK (by decide) rfl dX12_looksSo_43 ?_
  refine V.iinc (pc := 44) (i := 3) (v := 1) (lv' := [(0, _), (1, _), (2, _), (3, _)]) hK rfl (by decide) (by decide) rfl dX12_looksSo_44 ?_
  refine V.goto (pc := 47) (tgt := 4) hK dX12_looksSo_47 (by decide) ?_
  refine V.pick [0, 1, 2, 3] (l := [(0, _), (1, _), (2, _), (3, _)]) rfl ?_
  exact hk4 _ _ _ _ h
set_option maxHeartbeats 4000000 in
set_option maxRecDepth 100000 in
theorem w_X12_looksSo_L42 {E : v_E} {X : v_X} {sh : v_S} {P : v_P} {out : Int32 × v_M} (hL : v_Lay sh P) (hO : v_O E X cX12_looksSo RX12 4 1 (some .boolean) "looksSo" (v_Q1 (some (.int out.1)) sh P out.2)) (N : Nat) (k4 : Int32 → Int32 → Int32 → v_M → Option (Int32 × v_M)) (hk4 : ∀ (x1 : Int32) (x2 : Int32) (x3 : Int32) (M : v_M), k4 x1 x2 x3 M = some out → V E X (0, 0) 4 [(0, v_rf E 79), (1, .int x1), (2, .int x2), (3, .int x3)] [] sh P M) (x1 : Int32) (x3 : Int32) (M : v_M) (h : f_X12_looksSo_L42 N k4 x1 x3 M = some out) : V E X (0, 0) 42 [(0, v_rf E 79), (1, .int x1), (3, .int x3)] [] sh P M := by
  have hK := hO.1
  unfold f_X12_looksSo_L42 at h
  refine V.iconst (pc := 42) (v := 0) hK (by decide) dX12_looksSo_42 ?_
  refine V.pick [0, 1, 3] (l := [(0, _), (1, _), (3, _)]) rfl ?_
  exact w_X12_looksSo_L43 hL hO N _ hk4 _ _ _ _ h
set_option maxHeartbeats 4000000 in
set_option maxRecDepth 100000 in
theorem w_X12_looksSo_L38 {E : v_E} {X : v_X} {sh : v_S} {P : v_P} {out : Int32 × v_M} (hL : v_Lay sh P) (hO : v_O E X cX12_looksSo RX12 4 1 (some .boolean) "looksSo" (v_Q1 (some (.int out.1)) sh P out.2)) (N : Nat) (k4 : Int32 → Int32 → Int32 → v_M → Option (Int32 × v_M)) (hk4 : ∀ (x1 : Int32) (x2 : Int32) (x3 : Int32) (M : v_M), k4 x1 x2 x3 M = some out → V E X (0, 0) 4 [(0, v_rf E 79), (1, .int x1), (2, .int x2), (3, .int x3)] [] sh P M) (x1 : Int32) (x3 : Int32) (M : v_M) (h : f_X12_looksSo_L38 N k4 x1 x3 M = some out) : V E X (0, 0) 38 [(0, v_rf E 79), (1, .int x1), (3, .int x3)] [] sh P M := by
  have hK := hO.1
  unfold f_X12_looksSo_L38 at h
  refine V.iconst (pc := 38) (v := 1) hK (by decide) dX12_looksSo_38 ?_
  refine V.goto (pc := 39) (tgt := 43) hK dX12_looksSo_39 (by decide) ?_
  refine V.pick [0, 1, 3] (l := [(0, _), (1, _), (3, _)]) rfl ?_
  exact w_X12_looksSo_L43 hL hO N _ hk4 _ _ _ _ h
set_option maxHeartbeats 4000000 in
set_option maxRecDepth 100000 in
theorem w_X12_looksSo_L4 {E : v_E} {X : v_X} {sh : v_S} {P : v_P} {out : Int32 × v_M} (hL : v_Lay sh P) (hO : v_O E X cX12_looksSo RX12 4 1 (some .boolean) "looksSo" (v_Q1 (some (.int out.1)) sh P out.2)) (N : Nat) (n : Nat) : ∀ (x1 : Int32) (x2 : Int32) (x3 : Int32) (M : v_M), f_X12_looksSo_L4 N n x1 x2 x3 M = some out → V E X (0, 0) 4 [(0, v_rf E 79), (1, .int x1), (2, .int x2), (3, .int x3)] [] sh P M := by
  have hK := hO.1
  induction n with
  | zero => intro x1 x2 x3 M h; rw [f_X12_looksSo_L4] at h; cases h
  | succ n ih =>
    intro x1 x2 x3 M h
    rw [f_X12_looksSo_L4] at h
    refine V.iload_n (pc := 4) (i := 3) hK rfl dX12_looksSo_4 ?_
    refine V.aload_n (pc := 5) (i := 0) hK rfl ⟨_, rfl⟩ dX12_looksSo_5 ?_
    refine V.getI (pc := 6) hK fl_RX12_236 rfl (hL.1 79 _ ls_79) dX12_looksSo_6 ?_
    refine V.icmp_ge (pc := 9) (tgt := 50) hK dX12_looksSo_9 (by decide) (fun c => ?_) (fun c => ?_)
    · rw [if_pos c] at h
      refine V.iload_n (pc := 50) (i := 2) hK rfl dX12_looksSo_50 ?_
      obtain ⟨hb, h⟩ := v_ckS h
      exact V.zret (pc := 51) hO (v_z01 hb) dX12_looksSo_51 (v_finI h)
    · rw [if_neg c] at h
      refine V.iload_n (pc := 12) (i := 2) hK rfl dX12_looksSo_12 ?_
      refine V.if_eq (pc := 13) (tgt := 42) hK dX12_looksSo_13 (by decide) (fun c => ?_) (fun c => ?_)
      · rw [if_pos c] at h
        refine V.pick [0, 1, 3] (l := [(0, _), (1, _), (3, _)]) rfl ?_
        exact w_X12_looksSo_L42 hL hO N _ ih _ _ _ h
      · rw [if_neg c] at h
        refine V.aload_n (pc := 16) (i := 0) hK rfl ⟨_, rfl⟩ dX12_looksSo_16 ?_
        refine V.getR (pc := 17) hK fl_RX12_9 rfl (hL.1 79 _ ls_79) (hL.2 79 4 80 rfl) dX12_looksSo_17 ?_
        refine V.iload_n (pc := 20) (i := 3) hK rfl dX12_looksSo_20 ?_
        obtain ⟨hb, h⟩ := v_ckS h
        refine V.iald (pc := 21) hK (hL.1 80 _ ls_80) (v_ibS hb) dX12_looksSo_21 ?_
        obtain ⟨z1, hz1, h⟩ := v_bdS h
        refine V.cS (pc := 22) hK (c_X12_lookedBy E hL N _ _ hz1) Y_X12_lookedBy cs_RX12_281 dX12_looksSo_22 (by decide) rfl (Nat.le_of_ble_eq_true rfl) ?_
        refine V.iload_n (pc := 25) (i := 1) hK rfl dX12_looksSo_25 ?_
        refine V.iand (pc := 26) hK dX12_looksSo_26 ?_
        refine V.if_eq (pc := 27) (tgt := 38) hK dX12_looksSo_27 (by decide) (fun c => ?_) (fun c => ?_)
        · rw [if_pos c] at h
          refine V.pick [0, 1, 3] (l := [(0, _), (1, _), (3, _)]) rfl ?_
          exact w_X12_looksSo_L38 hL hO N _ ih _ _ _ h
        · rw [if_neg c] at h
          refine V.aload_n (pc := 30) (i := 0) hK rfl ⟨_, rfl⟩ dX12_looksSo_30 ?_
          refine V.iload_n (pc := 31) (i := 3) hK rfl dX12_looksSo_31 ?_
          obtain ⟨z2, hz2, h⟩ := v_bdS h
          refine V.cV (pc := 32) (ci := 12) hK (c_X12_isOver E hL N _ _ hz2) Y_X12_isOver cv_RX12_278 (by decide) rfl (hL.1 79 _ ls_79) dX12_looksSo_32 (by decide) rfl (Nat.le_of_ble_eq_true rfl) ?_
          refine V.if_eq (pc := 35) (tgt := 42) hK dX12_looksSo_35 (by decide) (fun c => ?_) (fun c => ?_)
          · rw [if_pos c] at h
            refine V.pick [0, 1, 3] (l := [(0, _), (1, _), (3, _)]) rfl ?_
            exact w_X12_looksSo_L42 hL hO N _ ih _ _ _ h
          · rw [if_neg c] at h
            refine V.pick [0, 1, 3] (l := [(0, _), (1, _), (3, _)]) rfl ?_
            exact w_X12_looksSo_L38 hL hO N _ ih _ _ _ h
set_option maxHeartbeats 4000000 in
set_option maxRecDepth 100000 in
theorem c_X12_looksSo (E : v_E) {sh : v_S} {P : v_P} (hL : v_Lay sh P) (N : Nat) (x1 : Int32) (M : v_M) {out : Int32 × v_M} (h : f_X12_looksSo N x1 M = some out) : v_Ct E 1 yX12_looksSo cX12_looksSo 4 (some .boolean) 0 0 [v_rf E 79, .int x1] sh P M (v_Q1 (some (.int out.1)) sh P out.2) := by
  refine v_Ct.of (by decide +kernel) (Nat.le_of_ble_eq_true rfl) (fun X hO => ?_)
  have hK : v_K E X cX12_looksSo RX12 4 1 := hO.1
  have hO : v_O E X cX12_looksSo RX12 4 1 (some .boolean) "looksSo" (v_Q1 (some (.int out.1)) sh P out.2) := hO
  show V E X (0, 0) 0 [(0, v_rf E 79), (1, .int x1)] [] sh P M
  unfold f_X12_looksSo at h
  refine V.iconst (pc := 0) (v := 1) hK (by decide) dX12_looksSo_0 ?_
  refine V.istore_n (pc := 1) (i := 2) (lv' := [(0, _), (1, _), (2, _)]) hK (by decide) rfl dX12_looksSo_1 ?_
  refine V.iconst (pc := 2) (v := 0) hK (by decide) dX12_looksSo_2 ?_
  refine V.istore_n (pc := 3) (i := 3) (lv' := [(0, _), (1, _), (2, _), (3, _)]) hK (by decide) rfl dX12_looksSo_3 ?_
  refine V.pick [0, 1, 2, 3] (l := [(0, _), (1, _), (2, _), (3, _)]) rfl ?_
  exact w_X12_looksSo_L4 hL hO N N _ _ _ _ h
set_option maxHeartbeats 4000000 in
set_option maxRecDepth 100000 in
theorem c_X12_isUnlike (E : v_E) {sh : v_S} {P : v_P} (hL : v_Lay sh P) (N : Nat) (x1 : Int32) (M : v_M) {out : Int32 × v_M} (h : f_X12_isUnlike N x1 M = some out) : v_Ct E 2 yX12_isUnlike cX12_isUnlike 2 (some .boolean) 0 0 [v_rf E 79, .int x1] sh P M (v_Q1 (some (.int out.1)) sh P out.2) := by
  refine v_Ct.of (by decide +kernel) (Nat.le_of_ble_eq_true rfl) (fun X hO => ?_)
  have hK : v_K E X cX12_isUnlike RX12 2 2 := hO.1
  have hO : v_O E X cX12_isUnlike RX12 2 2 (some .boolean) "isUnlike" (v_Q1 (some (.int out.1)) sh P out.2) := hO
  show V E X (0, 0) 0 [(0, v_rf E 79), (1, .int x1)] [] sh P M
  unfold f_X12_isUnlike at h
  refine V.aload_n (pc := 0) (i := 0) hK rfl ⟨_, rfl⟩ dX12_isUnlike_0 ?_
  refine V.iload_n (pc := 1) (i := 1) hK rfl dX12_isUnlike_1 ?_
  obtain ⟨z1, hz1, h⟩ := v_bdS h
  refine V.cV (pc := 2) (ci := 12) hK (c_X12_looksSo E hL N _ _ hz1) Y_X12_looksSo cv_RX12_285 (by decide) rfl (hL.1 79 _ ls_79) dX12_isUnlike_2 (by decide) rfl (Nat.le_of_ble_eq_true rfl) ?_
  refine V.if_eq (pc := 5) (tgt := 19) hK dX12_isUnlike_5 (by decide) (fun c => ?_) (fun c => ?_)
  · rw [if_pos c] at h
    refine V.iconst (pc := 19) (v := 0) hK (by decide) dX12_isUnlike_19 ?_
    obtain ⟨hb, h⟩ := v_ckS h
    exact V.zret (pc := 20) hO (v_z01 hb) dX12_isUnlike_20 (v_finI h)
  · rw [if_neg c] at h
    refine V.aload_n (pc := 8) (i := 0) hK rfl ⟨_, rfl⟩ dX12_isUnlike_8 ?_
    obtain ⟨z2, hz2, h⟩ := v_bdS h
    refine V.cV (pc := 9) (ci := 12) hK (c_X12_isShut E hL N _ hz2) Y_X12_isShut cv_RX12_288 (by decide) rfl (hL.1 79 _ ls_79) dX12_isUnlike_9 (by decide) rfl (Nat.le_of_ble_eq_true rfl) ?_
    refine V.if_ne (pc := 12) (tgt := 19) hK dX12_isUnlike_12 (by decide) (fun c => ?_) (fun c => ?_)
    · rw [if_neg c] at h
      refine V.iconst (pc := 19) (v := 0) hK (by decide) dX12_isUnlike_19 ?_
      obtain ⟨hb, h⟩ := v_ckS h
      exact V.zret (pc := 20) hO (v_z01 hb) dX12_isUnlike_20 (v_finI h)
    · rw [if_pos c] at h
      refine V.iconst (pc := 15) (v := 1) hK (by decide) dX12_isUnlike_15 ?_
      refine V.goto (pc := 16) (tgt := 20) hK dX12_isUnlike_16 (by decide) ?_
      obtain ⟨hb, h⟩ := v_ckS h
      exact V.zret (pc := 20) hO (v_z01 hb) dX12_isUnlike_20 (v_finI h)
set_option maxHeartbeats 4000000 in
set_option maxRecDepth 100000 in
theorem w_X12_judged_L68 {E : v_E} {X : v_X} {sh : v_S} {P : v_P} {out : Int32 × v_M} (hL : v_Lay sh P) (hO : v_O E X cX12_judged RX12 5 3 (some .int) "judged" (v_Q1 (some (.int out.1)) sh P out.2)) (N : Nat) (t0 : Int32) (M : v_M) (h : f_X12_judged_L68 N t0 M = some out) : V E X (0, 0) 68 [] [.int t0] sh P M := by
  have hK := hO.1
  unfold f_X12_judged_L68 at h
  refine V.istore (pc := 68) (i := 4) (lv' := [(4, _)]) hK (by decide) rfl dX12_judged_68 ?_
  refine V.iload (pc := 70) (i := 4) hK rfl dX12_judged_70 ?_
  refine V.if_eq (pc := 72) (tgt := 79) hK dX12_judged_72 (by decide) (fun c => ?_) (fun c => ?_)
  · rw [if_pos c] at h
    refine V.iconst (pc := 79) (v := 0) hK (by decide) dX12_judged_79 ?_
    exact V.iret (pc := 80) hO dX12_judged_80 (v_finI h)
  · rw [if_neg c] at h
    refine V.iconst (pc := 75) (v := 1) hK (by decide) dX12_judged_75 ?_
    refine V.goto (pc := 76) (tgt := 80) hK dX12_judged_76 (by decide) ?_
    exact V.iret (pc := 80) hO dX12_judged_80 (v_finI h)
set_option maxHeartbeats 4000000 in
set_option maxRecDepth 100000 in
theorem c_X12_judged (E : v_E) {sh : v_S} {P : v_P} (hL : v_Lay sh P) (N : Nat) (x1 : Int32) (x2 : Int32) (x3 : Int32) (M : v_M) {out : Int32 × v_M} (h : f_X12_judged N x1 x2 x3 M = some out) : v_Ct E 3 yX12_judged cX12_judged 5 (some .int) 0 0 [v_rf E 79, .int x1, .int x2, .int x3] sh P M (v_Q1 (some (.int out.1)) sh P out.2) := by
  refine v_Ct.of (by decide +kernel) (Nat.le_of_ble_eq_true rfl) (fun X hO => ?_)
  have hK : v_K E X cX12_judged RX12 5 3 := hO.1
  have hO : v_O E X cX12_judged RX12 5 3 (some .int) "judged" (v_Q1 (some (.int out.1)) sh P out.2) := hO
  show V E X (0, 0) 0 [(0, v_rf E 79), (1, .int x1), (2, .int x2), (3, .int x3)] [] sh P M
  unfold f_X12_judged at h
  refine V.aload_n (pc := 0) (i := 0) hK rfl ⟨_, rfl⟩ dX12_judged_0 ?_
  refine V.iload_n (pc := 1) (i := 1) hK rfl dX12_judged_1 ?_
  obtain ⟨z1, hz1, h⟩ := v_bdS h
  refine V.cV (pc := 2) (ci := 12) hK (c_X12_isMachine E hL N _ _ hz1) Y_X12_isMachine cv_RX12_262 (by decide) rfl (hL.1 79 _ ls_79) dX12_judged_2 (by decide) rfl (Nat.le_of_ble_eq_true rfl) ?_
  refine V.if_eq (pc := 5) (tgt := 32) hK dX12_judged_5 (by decide) (fun c => ?_) (fun c => ?_)
  · rw [if_pos c] at h
    refine V.iconst (pc := 32) (v := -1) hK (by decide) dX12_judged_32 ?_
    exact V.iret (pc := 33) hO dX12_judged_33 (v_finI h)
  · rw [if_neg c] at h
    refine V.iload_n (pc := 8) (i := 2) hK rfl dX12_judged_8 ?_
    refine V.i2l (pc := 9) hK dX12_judged_9 ?_
    refine V.lconst (pc := 10) (v := 0) hK (by decide) dX12_judged_10 ?_
    refine V.ldc2 (pc := 11) hK tw_1477 dX12_judged_11 ?_
    obtain ⟨z2, hz2, h⟩ := v_bdS h
    refine V.cS (pc := 14) hK (c_X12_in E hL N _ _ _ _ hz2) Y_X12_in cs_RX12_229 dX12_judged_14 (by decide) rfl (Nat.le_of_ble_eq_true rfl) ?_
    refine V.if_eq (pc := 17) (tgt := 32) hK dX12_judged_17 (by decide) (fun c => ?_) (fun c => ?_)
    · rw [if_pos c] at h
      refine V.iconst (pc := 32) (v := -1) hK (by decide) dX12_judged_32 ?_
      exact V.iret (pc := 33) hO dX12_judged_33 (v_finI h)
    · rw [if_neg c] at h
      refine V.iload_n (pc := 20) (i := 3) hK rfl dX12_judged_20 ?_
      refine V.i2l (pc := 21) hK dX12_judged_21 ?_
      refine V.lconst (pc := 22) (v := 0) hK (by decide) dX12_judged_22 ?_
      refine V.ldc2 (pc := 23) hK tw_1478 dX12_judged_23 ?_
      obtain ⟨z3, hz3, h⟩ := v_bdS h
      refine V.cS (pc := 26) hK (c_X12_in E hL N _ _ _ _ hz3) Y_X12_in cs_RX12_229 dX12_judged_26 (by decide) rfl (Nat.le_of_ble_eq_true rfl) ?_
      refine V.if_ne (pc := 29) (tgt := 34) hK dX12_judged_29 (by decide) (fun c => ?_) (fun c => ?_)
      · rw [if_neg c] at h
        refine V.aload_n (pc := 34) (i := 0) hK rfl ⟨_, rfl⟩ dX12_judged_34 ?_
        refine V.iload_n (pc := 35) (i := 1) hK rfl dX12_judged_35 ?_
        obtain ⟨z4, hz4, h⟩ := v_bdS h
        refine V.cVv (pc := 36) (ci := 12) hK (c_X12_takes E hL N _ _ hz4) Y_X12_takes cv_RX12_270 (by decide) rfl (hL.1 79 _ ls_79) dX12_judged_36 (by decide) rfl (Nat.le_of_ble_eq_true rfl) ?_
        refine V.iload_n (pc := 39) (i := 2) hK rfl dX12_judged_39 ?_
        refine V.if_ne (pc := 40) (tgt := 50) hK dX12_judged_40 (by decide) (fun c => ?_) (fun c => ?_)
        · rw [if_neg c] at h
          refine V.iload_n (pc := 50) (i := 2) hK rfl dX12_judged_50 ?_
          refine V.iconst (pc := 51) (v := 1) hK (by decide) dX12_judged_51 ?_
          refine V.icmp_ne (pc := 52) (tgt := 63) hK dX12_judged_52 (by decide) (fun c => ?_) (fun c => ?_)
          · rw [if_neg c] at h
            refine V.aload_n (pc := 63) (i := 0) hK rfl ⟨_, rfl⟩ dX12_judged_63 ?_
            refine V.iload_n (pc := 64) (i := 3) hK rfl dX12_judged_64 ?_
            obtain ⟨z5, hz5, h⟩ := v_bdS h
            refine V.cV (pc := 65) (ci := 12) hK (c_X12_isUnlike E hL N _ _ hz5) Y_X12_isUnlike cv_RX12_296 (by decide) rfl (hL.1 79 _ ls_79) dX12_judged_65 (by decide) rfl (Nat.le_of_ble_eq_true rfl) ?_
            refine V.pick [] (l := []) rfl ?_
            exact w_X12_judged_L68 hL hO N _ _ h
          · rw [if_pos c] at h
            refine V.aload_n (pc := 55) (i := 0) hK rfl ⟨_, rfl⟩ dX12_judged_55 ?_
            refine V.iload_n (pc := 56) (i := 3) hK rfl dX12_judged_56 ?_
            obtain ⟨z6, hz6, h⟩ := v_bdS h
            refine V.cV (pc := 57) (ci := 12) hK (c_X12_looksSo E hL N _ _ hz6) Y_X12_looksSo cv_RX12_285 (by decide) rfl (hL.1 79 _ ls_79) dX12_judged_57 (by decide) rfl (Nat.le_of_ble_eq_true rfl) ?_
            refine V.goto (pc := 60) (tgt := 68) hK dX12_judged_60 (by decide) ?_
            refine V.pick [] (l := []) rfl ?_
            exact w_X12_judged_L68 hL hO N _ _ h
        · rw [if_pos c] at h
          refine V.aload_n (pc := 43) (i := 0) hK rfl ⟨_, rfl⟩ dX12_judged_43 ?_
          obtain ⟨z7, hz7, h⟩ := v_bdS h
          refine V.cV (pc := 44) (ci := 12) hK (c_X12_isShut E hL N _ hz7) Y_X12_isShut cv_RX12_288 (by decide) rfl (hL.1 79 _ ls_79) dX12_judged_44 (by decide) rfl (Nat.le_of_ble_eq_true rfl) ?_
          refine V.goto (pc := 47) (tgt := 68) hK dX12_judged_47 (by decide) ?_
          refine V.pick [] (l := []) rfl ?_
          exact w_X12_judged_L68 hL hO N _ _ h
      · rw [if_pos c] at h
        refine V.iconst (pc := 32) (v := -1) hK (by decide) dX12_judged_32 ?_
        exact V.iret (pc := 33) hO dX12_judged_33 (v_finI h)
set_option maxHeartbeats 4000000 in
set_option maxRecDepth 100000 in
theorem w_X12_alters_L119 {E : v_E} {X : v_X} {sh : v_S} {P : v_P} {out : Int32 × v_M} (hL : v_Lay sh P) (hO : v_O E X cX12_alters RX12 3 0 none "alters" (v_Q1 (none) sh P out.2)) (N : Nat) (k87 : Int32 → v_M → Option (Int32 × v_M)) (hk87 : ∀ (x2 : Int32) (M : v_M), k87 x2 M = some out → V E X (0, 0) 87 [(0, v_rf E 79), (2, .int x2)] [] sh P M) (x2 : Int32) (t0 : Int32) (t1 : Int32) (M : v_M) (h : f_X12_alters_L119 N k87 x2 t0 t1 M = some out) : V E X (0, 0) 119 [(0, v_rf E 79), (2, .int x2)] [.int t0, .int t1, v_rf E 94] sh P M := by
  have hK := hO.1
  unfold f_X12_alters_L119 at h
  obtain ⟨hb, h⟩ := v_ckS h
  refine V.iast (pc := 119) hK (hL.1 94 _ ls_94) (v_ibS hb) dX12_alters_119 ?_
  refine V.nmM (fun M1 eM1 => ?_)
  have h := v_lt eM1 h
  refine V.iinc (pc := 120) (i := 2) (v := 1) (lv' := [(0, _), (2, _)]) hK rfl (by decide) (by decide) rfl dX12_alters_120 ?_
  refine V.goto (pc := 123) (tgt := 87) hK dX12_alters_123 (by decide) ?_
  refine V.pick [0, 2] (l := [(0, _), (2, _)]) rfl ?_
  exact hk87 _ _ h
set_option maxHeartbeats 4000000 in
set_option maxRecDepth 100000 in
theorem w_X12_alters_L87 {E : v_E} {X : v_X} {sh : v_S} {P : v_P} {out : Int32 × v_M} (hL : v_Lay sh P) (hO : v_O E X cX12_alters RX12 3 0 none "alters" (v_Q1 (none) sh P out.2)) (N : Nat) (n : Nat) : ∀ (x2 : Int32) (M : v_M), f_X12_alters_L87 N n x2 M = some out → V E X (0, 0) 87 [(0, v_rf E 79), (2, .int x2)] [] sh P M := by
  have hK := hO.1
  induction n with
  | zero => intro x2 M h; rw [f_X12_alters_L87] at h; cases h
  | succ n ih =>
    intro x2 M h
    rw [f_X12_alters_L87] at h
    refine V.iload_n (pc := 87) (i := 2) hK rfl dX12_alters_87 ?_
    refine V.aload_n (pc := 88) (i := 0) hK rfl ⟨_, rfl⟩ dX12_alters_88 ?_
    refine V.getI (pc := 89) hK fl_RX12_236 rfl (hL.1 79 _ ls_79) dX12_alters_89 ?_
    refine V.icmp_ge (pc := 92) (tgt := 126) hK dX12_alters_92 (by decide) (fun c => ?_) (fun c => ?_)
    · rw [if_pos c] at h
      exact V.vret (pc := 126) hO dX12_alters_126 (v_finV h)
    · rw [if_neg c] at h
      refine V.aload_n (pc := 95) (i := 0) hK rfl ⟨_, rfl⟩ dX12_alters_95 ?_
      refine V.getR (pc := 96) hK fl_RX12_52 rfl (hL.1 79 _ ls_79) (hL.2 79 18 94 rfl) dX12_alters_96 ?_
      refine V.iload_n (pc := 99) (i := 2) hK rfl dX12_alters_99 ?_
      refine V.aload_n (pc := 100) (i := 0) hK rfl ⟨_, rfl⟩ dX12_alters_100 ?_
      refine V.getR (pc := 101) hK fl_RX12_52 rfl (hL.1 79 _ ls_79) (hL.2 79 18 94 rfl) dX12_alters_101 ?_
      refine V.iload_n (pc := 104) (i := 2) hK rfl dX12_alters_104 ?_
      obtain ⟨hb, h⟩ := v_ckS h
      refine V.iald (pc := 105) hK (hL.1 94 _ ls_94) (v_ibS hb) dX12_alters_105 ?_
      refine V.if_ge (pc := 106) (tgt := 113) hK dX12_alters_106 (by decide) (fun c => ?_) (fun c => ?_)
      · rw [if_pos c] at h
        refine V.aload_n (pc := 113) (i := 0) hK rfl ⟨_, rfl⟩ dX12_alters_113 ?_
        refine V.getR (pc := 114) hK fl_RX12_52 rfl (hL.1 79 _ ls_79) (hL.2 79 18 94 rfl) dX12_alters_114 ?_
        refine V.iload_n (pc := 117) (i := 2) hK rfl dX12_alters_117 ?_
        obtain ⟨hb, h⟩ := v_ckS h
        refine V.iald (pc := 118) hK (hL.1 94 _ ls_94) (v_ibS hb) dX12_alters_118 ?_
        refine V.pick [0, 2] (l := [(0, _), (2, _)]) rfl ?_
        exact w_X12_alters_L119 hL hO N _ ih _ _ _ _ h
      · rw [if_neg c] at h
        refine V.iconst (pc := 109) (v := 0) hK (by decide) dX12_alters_109 ?_
        refine V.goto (pc := 110) (tgt := 119) hK dX12_alters_110 (by decide) ?_
        refine V.pick [0, 2] (l := [(0, _), (2, _)]) rfl ?_
        exact w_X12_alters_L119 hL hO N _ ih _ _ _ _ h
set_option maxHeartbeats 4000000 in
set_option maxRecDepth 100000 in
theorem w_X12_alters_L79 {E : v_E} {X : v_X} {sh : v_S} {P : v_P} {out : Int32 × v_M} (hL : v_Lay sh P) (hO : v_O E X cX12_alters RX12 3 0 none "alters" (v_Q1 (none) sh P out.2)) (N : Nat) (k2 : Int32 → Int32 → v_M → Option (Int32 × v_M)) (hk2 : ∀ (x1 : Int32) (x2 : Int32) (M : v_M), k2 x1 x2 M = some out → V E X (0, 0) 2 [(0, v_rf E 79), (1, .int x1), (2, .int x2)] [] sh P M) (x1 : Int32) (x2 : Int32) (M : v_M) (h : f_X12_alters_L79 N k2 x1 x2 M = some out) : V E X (0, 0) 79 [(0, v_rf E 79), (1, .int x1), (2, .int x2)] [] sh P M := by
  have hK := hO.1
  unfold f_X12_alters_L79 at h
  refine V.iinc (pc := 79) (i := 2) (v := 1) (lv' := [(0, _), (1, _), (2, _)]) hK rfl (by decide) (by decide) rfl dX12_alters_79 ?_
  refine V.goto (pc := 82) (tgt := 2) hK dX12_alters_82 (by decide) ?_
  refine V.pick [0, 1, 2] (l := [(0, _), (1, _), (2, _)]) rfl ?_
  exact hk2 _ _ _ h
set_option maxHeartbeats 4000000 in
set_option maxRecDepth 100000 in
theorem w_X12_alters_L2 {E : v_E} {X : v_X} {sh : v_S} {P : v_P} {out : Int32 × v_M} (hL : v_Lay sh P) (hO : v_O E X cX12_alters RX12 3 0 none "alters" (v_Q1 (none) sh P out.2)) (N : Nat) (n : Nat) : ∀ (x1 : Int32) (x2 : Int32) (M : v_M), f_X12_alters_L2 N n x1 x2 M = some out → V E X (0, 0) 2 [(0, v_rf E 79), (1, .int x1), (2, .int x2)] [] sh P M := by
  have hK := hO.1
  induction n with
  | zero => intro x1 x2 M h; rw [f_X12_alters_L2] at h; cases h
  | succ n ih =>
    intro x1 x2 M h
    rw [f_X12_alters_L2] at h
    refine V.iload_n (pc := 2) (i := 2) hK rfl dX12_alters_2 ?_
    refine V.aload_n (pc := 3) (i := 0) hK rfl ⟨_, rfl⟩ dX12_alters_3 ?_
    refine V.getI (pc := 4) hK fl_RX12_299 rfl (hL.1 79 _ ls_79) dX12_alters_4 ?_
    refine V.icmp_ge (pc := 7) (tgt := 85) hK dX12_alters_7 (by decide) (fun c => ?_) (fun c => ?_)
    · rw [if_pos c] at h
      refine V.iconst (pc := 85) (v := 0) hK (by decide) dX12_alters_85 ?_
      refine V.istore_n (pc := 86) (i := 2) (lv' := [(0, _), (1, _), (2, _)]) hK (by decide) rfl dX12_alters_86 ?_
      refine V.pick [0, 2] (l := [(0, _), (2, _)]) rfl ?_
      exact w_X12_alters_L87 hL hO N N _ _ h
    · rw [if_neg c] at h
      refine V.iload_n (pc := 10) (i := 1) hK rfl dX12_alters_10 ?_
      refine V.iload_n (pc := 11) (i := 2) hK rfl dX12_alters_11 ?_
      refine V.ishr (pc := 12) hK dX12_alters_12 ?_
      refine V.iconst (pc := 13) (v := 1) hK (by decide) dX12_alters_13 ?_
      refine V.iand (pc := 14) hK dX12_alters_14 ?_
      refine V.iconst (pc := 15) (v := 1) hK (by decide) dX12_alters_15 ?_
      refine V.icmp_ne (pc := 16) (tgt := 79) hK dX12_alters_16 (by decide) (fun c => ?_) (fun c => ?_)
      · rw [if_neg c] at h
        refine V.pick [0, 1, 2] (l := [(0, _), (1, _), (2, _)]) rfl ?_
        exact w_X12_alters_L79 hL hO N _ ih _ _ _ h
      · rw [if_pos c] at h
        refine V.aload_n (pc := 19) (i := 0) hK rfl ⟨_, rfl⟩ dX12_alters_19 ?_
        refine V.getR (pc := 20) hK fl_RX12_52 rfl (hL.1 79 _ ls_79) (hL.2 79 18 94 rfl) dX12_alters_20 ?_
        refine V.aload_n (pc := 23) (i := 0) hK rfl ⟨_, rfl⟩ dX12_alters_23 ?_
        refine V.getR (pc := 24) hK fl_RX12_73 rfl (hL.1 79 _ ls_79) (hL.2 79 26 101 rfl) dX12_alters_24 ?_
        refine V.iload_n (pc := 27) (i := 2) hK rfl dX12_alters_27 ?_
        obtain ⟨hb, h⟩ := v_ckS h
        refine V.iald (pc := 28) hK (hL.1 101 _ ls_101) (v_ibS hb) dX12_alters_28 ?_
        refine V.dup2 (pc := 29) hK rfl rfl dX12_alters_29 ?_
        obtain ⟨hb, h⟩ := v_ckS h
        refine V.iald (pc := 30) hK (hL.1 94 _ ls_94) (v_ibS hb) dX12_alters_30 ?_
        refine V.aload_n (pc := 31) (i := 0) hK rfl ⟨_, rfl⟩ dX12_alters_31 ?_
        refine V.getR (pc := 32) hK fl_RX12_76 rfl (hL.1 79 _ ls_79) (hL.2 79 27 102 rfl) dX12_alters_32 ?_
        refine V.iload_n (pc := 35) (i := 2) hK rfl dX12_alters_35 ?_
        obtain ⟨hb, h⟩ := v_ckS h
        refine V.iald (pc := 36) hK (hL.1 102 _ ls_102) (v_ibS hb) dX12_alters_36 ?_
        refine V.isub (pc := 37) hK dX12_alters_37 ?_
        obtain ⟨hb, h⟩ := v_ckS h
        refine V.iast (pc := 38) hK (hL.1 94 _ ls_94) (v_ibS hb) dX12_alters_38 ?_
        refine V.nmM (fun M1 eM1 => ?_)
        have h := v_lt eM1 h
        refine V.aload_n (pc := 39) (i := 0) hK rfl ⟨_, rfl⟩ dX12_alters_39 ?_
        refine V.getR (pc := 40) hK fl_RX12_55 rfl (hL.1 79 _ ls_79) (hL.2 79 19 95 rfl) dX12_alters_40 ?_
        refine V.aload_n (pc := 43) (i := 0) hK rfl ⟨_, rfl⟩ dX12_alters_43 ?_
        refine V.getR (pc := 44) hK fl_RX12_73 rfl (hL.1 79 _ ls_79) (hL.2 79 26 101 rfl) dX12_alters_44 ?_
        refine V.iload_n (pc := 47) (i := 2) hK rfl dX12_alters_47 ?_
        obtain ⟨hb, h⟩ := v_ckS h
        refine V.iald (pc := 48) hK (hL.1 101 _ ls_101) (v_ibS hb) dX12_alters_48 ?_
        refine V.dup2 (pc := 49) hK rfl rfl dX12_alters_49 ?_
        obtain ⟨hb, h⟩ := v_ckS h
        refine V.iald (pc := 50) hK (hL.1 95 _ ls_95) (v_ibS hb) dX12_alters_50 ?_
        refine V.aload_n (pc := 51) (i := 0) hK rfl ⟨_, rfl⟩ dX12_alters_51 ?_
        refine V.getR (pc := 52) hK fl_RX12_79 rfl (hL.1 79 _ ls_79) (hL.2 79 28 103 rfl) dX12_alters_52 ?_
        refine V.iload_n (pc := 55) (i := 2) hK rfl dX12_alters_55 ?_
        obtain ⟨hb, h⟩ := v_ckS h
        refine V.iald (pc := 56) hK (hL.1 103 _ ls_103) (v_ibS hb) dX12_alters_56 ?_
        refine V.iadd (pc := 57) hK dX12_alters_57 ?_
        obtain ⟨hb, h⟩ := v_ckS h
        refine V.iast (pc := 58) hK (hL.1 95 _ ls_95) (v_ibS hb) dX12_alters_58 ?_
        refine V.nmM (fun M2 eM2 => ?_)
        have h := v_lt eM2 h
        refine V.aload_n (pc := 59) (i := 0) hK rfl ⟨_, rfl⟩ dX12_alters_59 ?_
        refine V.getR (pc := 60) hK fl_RX12_58 rfl (hL.1 79 _ ls_79) (hL.2 79 20 96 rfl) dX12_alters_60 ?_
        refine V.aload_n (pc := 63) (i := 0) hK rfl ⟨_, rfl⟩ dX12_alters_63 ?_
        refine V.getR (pc := 64) hK fl_RX12_73 rfl (hL.1 79 _ ls_79) (hL.2 79 26 101 rfl) dX12_alters_64 ?_
        refine V.iload_n (pc := 67) (i := 2) hK rfl dX12_alters_67 ?_
        obtain ⟨hb, h⟩ := v_ckS h
        refine V.iald (pc := 68) hK (hL.1 101 _ ls_101) (v_ibS hb) dX12_alters_68 ?_
        refine V.dup2 (pc := 69) hK rfl rfl dX12_alters_69 ?_
        obtain ⟨hb, h⟩ := v_ckS h
        refine V.iald (pc := 70) hK (hL.1 96 _ ls_96) (v_ibS hb) dX12_alters_70 ?_
        refine V.aload_n (pc := 71) (i := 0) hK rfl ⟨_, rfl⟩ dX12_alters_71 ?_
        refine V.getR (pc := 72) hK fl_RX12_82 rfl (hL.1 79 _ ls_79) (hL.2 79 29 104 rfl) dX12_alters_72 ?_
        refine V.iload_n (pc := 75) (i := 2) hK rfl dX12_alters_75 ?_
        obtain ⟨hb, h⟩ := v_ckS h
        refine V.iald (pc := 76) hK (hL.1 104 _ ls_104) (v_ibS hb) dX12_alters_76 ?_
        refine V.iadd (pc := 77) hK dX12_alters_77 ?_
        obtain ⟨hb, h⟩ := v_ckS h
        refine V.iast (pc := 78) hK (hL.1 96 _ ls_96) (v_ibS hb) dX12_alters_78 ?_
        refine V.nmM (fun M3 eM3 => ?_)
        have h := v_lt eM3 h
        refine V.pick [0, 1, 2] (l := [(0, _), (1, _), (2, _)]) rfl ?_
        exact w_X12_alters_L79 hL hO N _ ih _ _ _ h
set_option maxHeartbeats 4000000 in
set_option maxRecDepth 100000 in
theorem c_X12_alters (E : v_E) {sh : v_S} {P : v_P} (hL : v_Lay sh P) (N : Nat) (x1 : Int32) (M : v_M) {out : Int32 × v_M} (h : f_X12_alters N x1 M = some out) : v_Ct E 0 yX12_alters cX12_alters 3 none 0 0 [v_rf E 79, .int x1] sh P M (v_Q1 (none) sh P out.2) := by
  refine v_Ct.of (by decide +kernel) (Nat.le_of_ble_eq_true rfl) (fun X hO => ?_)
  have hK : v_K E X cX12_alters RX12 3 0 := hO.1
  have hO : v_O E X cX12_alters RX12 3 0 none "alters" (v_Q1 (none) sh P out.2) := hO
  show V E X (0, 0) 0 [(0, v_rf E 79), (1, .int x1)] [] sh P M
  unfold f_X12_alters at h
  refine V.iconst (pc := 0) (v := 0) hK (by decide) dX12_alters_0 ?_
  refine V.istore_n (pc := 1) (i := 2) (lv' := [(0, _), (1, _), (2, _)]) hK (by decide) rfl dX12_alters_1 ?_
  refine V.pick [0, 1, 2] (l := [(0, _), (1, _), (2, _)]) rfl ?_
  exact w_X12_alters_L2 hL hO N N _ _ _ h
set_option maxHeartbeats 4000000 in
set_option maxRecDepth 100000 in
theorem w_X12_unlikes_L88 {E : v_E} {X : v_X} {sh : v_S} {P : v_P} {out : Int32 × v_M} (hL : v_Lay sh P) (hO : v_O E X cX12_unlikes RX12 12 3 (some .int) "unlikes" (v_Q1 (some (.int out.1)) sh P out.2)) (N : Nat) (k17 : Int32 → Int32 → Int32 → Int32 → Int32 → Int32 → Int32 → Int32 → v_M → Option (Int32 × v_M)) (hk17 : ∀ (x2 : Int32) (x3 : Int32) (x4 : Int32) (x5 : Int32) (x6 : Int32) (x8 : Int32) (x9 : Int32) (x10 : Int32) (M : v_M), k17 x2 x3 x4 x5 x6 x8 x9 x10 M = some out → V E X (0, 0) 17 [(0, v_rf E 79), (2, .int x2), (3, .int x3), (4, .int x4), (5, .int x5), (6, .int x6), (8, .int x8), (9, .int x9), (10, .int x10)] [] sh P M) (k27 : Int32 → Int32 → Int32 → Int32 → Int32 → Int32 → Int32 → Int32 → Int32 → v_M → Option (Int32 × v_M)) (hk27 : ∀ (x2 : Int32) (x3 : Int32) (x4 : Int32) (x5 : Int32) (x6 : Int32) (x8 : Int32) (x9 : Int32) (x10 : Int32) (x11 : Int32) (M : v_M), k27 x2 x3 x4 x5 x6 x8 x9 x10 x11 M = some out → V E X (0, 0) 27 [(0, v_rf E 79), (2, .int x2), (3, .int x3), (4, .int x4), (5, .int x5), (6, .int x6), (8, .int x8), (9, .int x9), (10, .int x10), (11, .int x11)] [] sh P M) (x2 : Int32) (x3 : Int32) (x4 : Int32) (x5 : Int32) (x6 : Int32) (x8 : Int32) (x9 : Int32) (x10 : Int32) (x11 : Int32) (M : v_M) (h : f_X12_unlikes_L88 N k17 k27 x2 x3 x4 x5 x6 x8 x9 x10 x11 M = some out) : V E X (0, 0) 88 [(0, v_rf E 79), (2, .int x2), (3, .int x3), (4, .int x4), (5, .int x5), (6, .int x6), (8, .int x8), (9, .int x9), (10, .int x10), (11, .int x11)] [] sh P M := by
  have hK := hO.1
  unfold f_X12_unlikes_L88 at h
  refine V.iinc (pc := 88) (i := 11) (v := 1) (lv' := [(0, _), (2, _), (3, _), (4, _), (5, _), (6, _), (8, _), (9, _), (10, _), (11, _)]) hK rfl (by decide) (by decide) rfl dX12_unlikes_88 ?_
  refine V.goto (pc := 91) (tgt := 27) hK dX12_unlikes_91 (by decide) ?_
  refine V.pick [0, 2, 3, 4, 5, 6, 8, 9, 10, 11] (l := [(0, _), (2, _), (3, _), (4, _), (5, _), (6, _), (8, _), (9, _), (10, _), (11, _)]) rfl ?_
  exact hk27 _ _ _ _ _ _ _ _ _ _ h
set_option maxHeartbeats 4000000 in
set_option maxRecDepth 100000 in
theorem w_X12_unlikes_L27 {E : v_E} {X : v_X} {sh : v_S} {P : v_P} {out : Int32 × v_M} (hL : v_Lay sh P) (hO : v_O E X cX12_unlikes RX12 12 3 (some .int) "unlikes" (v_Q1 (some (.int out.1)) sh P out.2)) (N : Nat) (k17 : Int32 → Int32 → Int32 → Int32 → Int32 → Int32 → Int32 → Int32 → v_M → Option (Int32 × v_M)) (hk17 : ∀ (x2 : Int32) (x3 : Int32) (x4 : Int32) (x5 : Int32) (x6 : Int32) (x8 : Int32) (x9 : Int32) (x10 : Int32) (M : v_M), k17 x2 x3 x4 x5 x6 x8 x9 x10 M = some out → V E X (0, 0) 17 [(0, v_rf E 79), (2, .int x2), (3, .int x3), (4, .int x4), (5, .int x5), (6, .int x6), (8, .int x8), (9, .int x9), (10, .int x10)] [] sh P M) (n : Nat) : ∀ (x2 : Int32) (x3 : Int32) (x4 : Int32) (x5 : Int32) (x6 : Int32) (x8 : Int32) (x9 : Int32) (x10 : Int32) (x11 : Int32) (M : v_M), f_X12_unlikes_L27 N k17 n x2 x3 x4 x5 x6 x8 x9 x10 x11 M = some out → V E X (0, 0) 27 [(0, v_rf E 79), (2, .int x2), (3, .int x3), (4, .int x4), (5, .int x5), (6, .int x6), (8, .int x8), (9, .int x9), (10, .int x10), (11, .int x11)] [] sh P M := by
  have hK := hO.1
  induction n with
  | zero => intro x2 x3 x4 x5 x6 x8 x9 x10 x11 M h; rw [f_X12_unlikes_L27] at h; cases h
  | succ n ih =>
    intro x2 x3 x4 x5 x6 x8 x9 x10 x11 M h
    rw [f_X12_unlikes_L27] at h
    refine V.iload (pc := 27) (i := 11) hK rfl dX12_unlikes_27 ?_
    refine V.iload (pc := 29) (i := 4) hK rfl dX12_unlikes_29 ?_
    refine V.icmp_gt (pc := 31) (tgt := 94) hK dX12_unlikes_31 (by decide) (fun c => ?_) (fun c => ?_)
    · rw [if_pos c] at h
      refine V.iinc (pc := 94) (i := 10) (v := 1) (lv' := [(0, _), (2, _), (3, _), (4, _), (5, _), (6, _), (8, _), (9, _), (10, _), (11, _)]) hK rfl (by decide) (by decide) rfl dX12_unlikes_94 ?_
      refine V.goto (pc := 97) (tgt := 17) hK dX12_unlikes_97 (by decide) ?_
      refine V.pick [0, 2, 3, 4, 5, 6, 8, 9, 10] (l := [(0, _), (2, _), (3, _), (4, _), (5, _), (6, _), (8, _), (9, _), (10, _)]) rfl ?_
      exact hk17 _ _ _ _ _ _ _ _ _ h
    · rw [if_neg c] at h
      refine V.aload_n (pc := 34) (i := 0) hK rfl ⟨_, rfl⟩ dX12_unlikes_34 ?_
      refine V.getR (pc := 35) hK fl_RX12_61 rfl (hL.1 79 _ ls_79) (hL.2 79 21 97 rfl) dX12_unlikes_35 ?_
      refine V.iload_n (pc := 38) (i := 2) hK rfl dX12_unlikes_38 ?_
      refine V.iload (pc := 39) (i := 10) hK rfl dX12_unlikes_39 ?_
      obtain ⟨hb, h⟩ := v_ckS h
      refine V.iast (pc := 41) hK (hL.1 97 _ ls_97) (v_ibS hb) dX12_unlikes_41 ?_
      refine V.nmM (fun M1 eM1 => ?_)
      have h := v_lt eM1 h
      refine V.aload_n (pc := 42) (i := 0) hK rfl ⟨_, rfl⟩ dX12_unlikes_42 ?_
      refine V.getR (pc := 43) hK fl_RX12_61 rfl (hL.1 79 _ ls_79) (hL.2 79 21 97 rfl) dX12_unlikes_43 ?_
      refine V.iload_n (pc := 46) (i := 3) hK rfl dX12_unlikes_46 ?_
      refine V.iload (pc := 47) (i := 11) hK rfl dX12_unlikes_47 ?_
      obtain ⟨hb, h⟩ := v_ckS h
      refine V.iast (pc := 49) hK (hL.1 97 _ ls_97) (v_ibS hb) dX12_unlikes_49 ?_
      refine V.nmM (fun M2 eM2 => ?_)
      have h := v_lt eM2 h
      refine V.aload_n (pc := 50) (i := 0) hK rfl ⟨_, rfl⟩ dX12_unlikes_50 ?_
      refine V.sipush (pc := 51) (v := 999) hK (by decide) dX12_unlikes_51 ?_
      refine V.iload (pc := 54) (i := 5) hK rfl dX12_unlikes_54 ?_
      obtain ⟨z3, hz3, h⟩ := v_bdS h
      refine V.cV (pc := 56) (ci := 12) hK (c_X12_pushes E hL N _ _ _ hz3) Y_X12_pushes cv_RX12_274 (by decide) rfl (hL.1 79 _ ls_79) dX12_unlikes_56 (by decide) rfl (Nat.le_of_ble_eq_true rfl) ?_
      refine V.pop (pc := 59) hK rfl dX12_unlikes_59 ?_
      refine V.aload_n (pc := 60) (i := 0) hK rfl ⟨_, rfl⟩ dX12_unlikes_60 ?_
      refine V.iload (pc := 61) (i := 6) hK rfl dX12_unlikes_61 ?_
      obtain ⟨z4, hz4, h⟩ := v_bdS h
      refine V.cV (pc := 63) (ci := 12) hK (c_X12_isUnlike E hL N _ _ hz4) Y_X12_isUnlike cv_RX12_296 (by decide) rfl (hL.1 79 _ ls_79) dX12_unlikes_63 (by decide) rfl (Nat.le_of_ble_eq_true rfl) ?_
      refine V.if_eq (pc := 66) (tgt := 88) hK dX12_unlikes_66 (by decide) (fun c => ?_) (fun c => ?_)
      · rw [if_pos c] at h
        refine V.pick [0, 2, 3, 4, 5, 6, 8, 9, 10, 11] (l := [(0, _), (2, _), (3, _), (4, _), (5, _), (6, _), (8, _), (9, _), (10, _), (11, _)]) rfl ?_
        exact w_X12_unlikes_L88 hL hO N _ hk17 _ ih _ _ _ _ _ _ _ _ _ _ h
      · rw [if_neg c] at h
        refine V.iload (pc := 69) (i := 9) hK rfl dX12_unlikes_69 ?_
        refine V.iload (pc := 71) (i := 8) hK rfl dX12_unlikes_71 ?_
        refine V.icmp_ne (pc := 73) (tgt := 85) hK dX12_unlikes_73 (by decide) (fun c => ?_) (fun c => ?_)
        · rw [if_neg c] at h
          refine V.iinc (pc := 85) (i := 9) (v := 1) (lv' := [(0, _), (2, _), (3, _), (4, _), (5, _), (6, _), (8, _), (9, _), (10, _), (11, _)]) hK rfl (by decide) (by decide) rfl dX12_unlikes_85 ?_
          refine V.pick [0, 2, 3, 4, 5, 6, 8, 9, 10, 11] (l := [(0, _), (2, _), (3, _), (4, _), (5, _), (6, _), (8, _), (9, _), (10, _), (11, _)]) rfl ?_
          exact w_X12_unlikes_L88 hL hO N _ hk17 _ ih _ _ _ _ _ _ _ _ _ _ h
        · rw [if_pos c] at h
          refine V.bipush (pc := 76) (v := 16) hK (by decide) dX12_unlikes_76 ?_
          refine V.iload (pc := 78) (i := 10) hK rfl dX12_unlikes_78 ?_
          refine V.imul (pc := 80) hK dX12_unlikes_80 ?_
          refine V.iload (pc := 81) (i := 11) hK rfl dX12_unlikes_81 ?_
          refine V.iadd (pc := 83) hK dX12_unlikes_83 ?_
          exact V.iret (pc := 84) hO dX12_unlikes_84 (v_finI h)
set_option maxHeartbeats 4000000 in
set_option maxRecDepth 100000 in
theorem w_X12_unlikes_L17 {E : v_E} {X : v_X} {sh : v_S} {P : v_P} {out : Int32 × v_M} (hL : v_Lay sh P) (hO : v_O E X cX12_unlikes RX12 12 3 (some .int) "unlikes" (v_Q1 (some (.int out.1)) sh P out.2)) (N : Nat) (n : Nat) : ∀ (x2 : Int32) (x3 : Int32) (x4 : Int32) (x5 : Int32) (x6 : Int32) (x8 : Int32) (x9 : Int32) (x10 : Int32) (M : v_M), f_X12_unlikes_L17 N n x2 x3 x4 x5 x6 x8 x9 x10 M = some out → V E X (0, 0) 17 [(0, v_rf E 79), (2, .int x2), (3, .int x3), (4, .int x4), (5, .int x5), (6, .int x6), (8, .int x8), (9, .int x9), (10, .int x10)] [] sh P M := by
  have hK := hO.1
  induction n with
  | zero => intro x2 x3 x4 x5 x6 x8 x9 x10 M h; rw [f_X12_unlikes_L17] at h; cases h
  | succ n ih =>
    intro x2 x3 x4 x5 x6 x8 x9 x10 M h
    rw [f_X12_unlikes_L17] at h
    refine V.iload (pc := 17) (i := 10) hK rfl dX12_unlikes_17 ?_
    refine V.iload (pc := 19) (i := 4) hK rfl dX12_unlikes_19 ?_
    refine V.icmp_gt (pc := 21) (tgt := 100) hK dX12_unlikes_21 (by decide) (fun c => ?_) (fun c => ?_)
    · rw [if_pos c] at h
      refine V.iload (pc := 100) (i := 8) hK rfl dX12_unlikes_100 ?_
      refine V.iconst (pc := 102) (v := -1) hK (by decide) dX12_unlikes_102 ?_
      refine V.icmp_ne (pc := 103) (tgt := 111) hK dX12_unlikes_103 (by decide) (fun c => ?_) (fun c => ?_)
      · rw [if_neg c] at h
        refine V.iconst (pc := 111) (v := -1) hK (by decide) dX12_unlikes_111 ?_
        exact V.iret (pc := 112) hO dX12_unlikes_112 (v_finI h)
      · rw [if_pos c] at h
        refine V.iload (pc := 106) (i := 9) hK rfl dX12_unlikes_106 ?_
        refine V.goto (pc := 108) (tgt := 112) hK dX12_unlikes_108 (by decide) ?_
        exact V.iret (pc := 112) hO dX12_unlikes_112 (v_finI h)
    · rw [if_neg c] at h
      refine V.iconst (pc := 24) (v := 0) hK (by decide) dX12_unlikes_24 ?_
      refine V.istore (pc := 25) (i := 11) (lv' := [(0, _), (2, _), (3, _), (4, _), (5, _), (6, _), (8, _), (9, _), (10, _), (11, _)]) hK (by decide) rfl dX12_unlikes_25 ?_
      refine V.pick [0, 2, 3, 4, 5, 6, 8, 9, 10, 11] (l := [(0, _), (2, _), (3, _), (4, _), (5, _), (6, _), (8, _), (9, _), (10, _), (11, _)]) rfl ?_
      exact w_X12_unlikes_L27 hL hO N _ ih N _ _ _ _ _ _ _ _ _ _ h
set_option maxHeartbeats 4000000 in
set_option maxRecDepth 100000 in
theorem c_X12_unlikes (E : v_E) {sh : v_S} {P : v_P} (hL : v_Lay sh P) (N : Nat) (x1 : Int32) (x2 : Int32) (x3 : Int32) (x4 : Int32) (x5 : Int32) (x6 : Int32) (x7 : Int32) (x8 : Int32) (M : v_M) {out : Int32 × v_M} (h : f_X12_unlikes N x1 x2 x3 x4 x5 x6 x7 x8 M = some out) : v_Ct E 3 yX12_unlikes cX12_unlikes 12 (some .int) 0 0 [v_rf E 79, .int x1, .int x2, .int x3, .int x4, .int x5, .int x6, .int x7, .int x8] sh P M (v_Q1 (some (.int out.1)) sh P out.2) := by
  refine v_Ct.of (by decide +kernel) (Nat.le_of_ble_eq_true rfl) (fun X hO => ?_)
  have hK : v_K E X cX12_unlikes RX12 12 3 := hO.1
  have hO : v_O E X cX12_unlikes RX12 12 3 (some .int) "unlikes" (v_Q1 (some (.int out.1)) sh P out.2) := hO
  show V E X (0, 0) 0 [(0, v_rf E 79), (1, .int x1), (2, .int x2), (3, .int x3), (4, .int x4), (5, .int x5), (6, .int x6), (7, .int x7), (8, .int x8)] [] sh P M
  unfold f_X12_unlikes at h
  refine V.aload_n (pc := 0) (i := 0) hK rfl ⟨_, rfl⟩ dX12_unlikes_0 ?_
  refine V.iload_n (pc := 1) (i := 1) hK rfl dX12_unlikes_1 ?_
  obtain ⟨z1, hz1, h⟩ := v_bdS h
  refine V.cVv (pc := 2) (ci := 12) hK (c_X12_takes E hL N _ _ hz1) Y_X12_takes cv_RX12_270 (by decide) rfl (hL.1 79 _ ls_79) dX12_unlikes_2 (by decide) rfl (Nat.le_of_ble_eq_true rfl) ?_
  refine V.aload_n (pc := 5) (i := 0) hK rfl ⟨_, rfl⟩ dX12_unlikes_5 ?_
  refine V.iload (pc := 6) (i := 7) hK rfl dX12_unlikes_6 ?_
  obtain ⟨z2, hz2, h⟩ := v_bdS h
  refine V.cVv (pc := 8) (ci := 12) hK (c_X12_alters E hL N _ _ hz2) Y_X12_alters cv_RX12_302 (by decide) rfl (hL.1 79 _ ls_79) dX12_unlikes_8 (by decide) rfl (Nat.le_of_ble_eq_true rfl) ?_
  refine V.iconst (pc := 11) (v := 0) hK (by decide) dX12_unlikes_11 ?_
  refine V.istore (pc := 12) (i := 9) (lv' := [(0, _), (1, _), (2, _), (3, _), (4, _), (5, _), (6, _), (7, _), (8, _), (9, _)]) hK (by decide) rfl dX12_unlikes_12 ?_
  refine V.iconst (pc := 14) (v := 0) hK (by decide) dX12_unlikes_14 ?_
  refine V.istore (pc := 15) (i := 10) (lv' := [(0, _), (1, _), (2, _), (3, _), (4, _), (5, _), (6, _), (7, _), (8, _), (9, _), (10, _)]) hK (by decide) rfl dX12_unlikes_15 ?_
  refine V.pick [0, 2, 3, 4, 5, 6, 8, 9, 10] (l := [(0, _), (2, _), (3, _), (4, _), (5, _), (6, _), (8, _), (9, _), (10, _)]) rfl ?_
  exact w_X12_unlikes_L17 hL hO N N _ _ _ _ _ _ _ _ _ h
set_option maxHeartbeats 4000000 in
set_option maxRecDepth 100000 in
theorem c_X12_isTrial (E : v_E) {sh : v_S} {P : v_P} (hL : v_Lay sh P) (N : Nat) (x1 : Int32) (x2 : Int32) (x3 : Int32) (x4 : Int32) (x5 : Int32) (x6 : Int32) (M : v_M) {out : Int32 × v_M} (h : f_X12_isTrial N x1 x2 x3 x4 x5 x6 M = some out) : v_Ct E 2 yX12_isTrial cX12_isTrial 7 (some .boolean) 0 0 [v_rf E 79, .int x1, .int x2, .int x3, .int x4, .int x5, .int x6] sh P M (v_Q1 (some (.int out.1)) sh P out.2) := by
  refine v_Ct.of (by decide +kernel) (Nat.le_of_ble_eq_true rfl) (fun X hO => ?_)
  have hK : v_K E X cX12_isTrial RX12 7 2 := hO.1
  have hO : v_O E X cX12_isTrial RX12 7 2 (some .boolean) "isTrial" (v_Q1 (some (.int out.1)) sh P out.2) := hO
  show V E X (0, 0) 0 [(0, v_rf E 79), (1, .int x1), (2, .int x2), (3, .int x3), (4, .int x4), (5, .int x5), (6, .int x6)] [] sh P M
  unfold f_X12_isTrial at h
  refine V.aload_n (pc := 0) (i := 0) hK rfl ⟨_, rfl⟩ dX12_isTrial_0 ?_
  refine V.iload_n (pc := 1) (i := 1) hK rfl dX12_isTrial_1 ?_
  obtain ⟨z1, hz1, h⟩ := v_bdS h
  refine V.cV (pc := 2) (ci := 12) hK (c_X12_isMachine E hL N _ _ hz1) Y_X12_isMachine cv_RX12_262 (by decide) rfl (hL.1 79 _ ls_79) dX12_isTrial_2 (by decide) rfl (Nat.le_of_ble_eq_true rfl) ?_
  refine V.if_eq (pc := 5) (tgt := 72) hK dX12_isTrial_5 (by decide) (fun c => ?_) (fun c => ?_)
  · rw [if_pos c] at h
    refine V.iconst (pc := 72) (v := 0) hK (by decide) dX12_isTrial_72 ?_
    obtain ⟨hb, h⟩ := v_ckS h
    exact V.zret (pc := 73) hO (v_z01 hb) dX12_isTrial_73 (v_finI h)
  · rw [if_neg c] at h
    refine V.aload_n (pc := 8) (i := 0) hK rfl ⟨_, rfl⟩ dX12_isTrial_8 ?_
    refine V.iload_n (pc := 9) (i := 2) hK rfl dX12_isTrial_9 ?_
    obtain ⟨z2, hz2, h⟩ := v_bdS h
    refine V.cV (pc := 10) (ci := 12) hK (c_X12_isPart E hL N _ _ hz2) Y_X12_isPart cv_RX12_242 (by decide) rfl (hL.1 79 _ ls_79) dX12_isTrial_10 (by decide) rfl (Nat.le_of_ble_eq_true rfl) ?_
    refine V.if_eq (pc := 13) (tgt := 72) hK dX12_isTrial_13 (by decide) (fun c => ?_) (fun c => ?_)
    · rw [if_pos c] at h
      refine V.iconst (pc := 72) (v := 0) hK (by decide) dX12_isTrial_72 ?_
      obtain ⟨hb, h⟩ := v_ckS h
      exact V.zret (pc := 73) hO (v_z01 hb) dX12_isTrial_73 (v_finI h)
    · rw [if_neg c] at h
      refine V.aload_n (pc := 16) (i := 0) hK rfl ⟨_, rfl⟩ dX12_isTrial_16 ?_
      refine V.iload_n (pc := 17) (i := 3) hK rfl dX12_isTrial_17 ?_
      obtain ⟨z3, hz3, h⟩ := v_bdS h
      refine V.cV (pc := 18) (ci := 12) hK (c_X12_isPart E hL N _ _ hz3) Y_X12_isPart cv_RX12_242 (by decide) rfl (hL.1 79 _ ls_79) dX12_isTrial_18 (by decide) rfl (Nat.le_of_ble_eq_true rfl) ?_
      refine V.if_eq (pc := 21) (tgt := 72) hK dX12_isTrial_21 (by decide) (fun c => ?_) (fun c => ?_)
      · rw [if_pos c] at h
        refine V.iconst (pc := 72) (v := 0) hK (by decide) dX12_isTrial_72 ?_
        obtain ⟨hb, h⟩ := v_ckS h
        exact V.zret (pc := 73) hO (v_z01 hb) dX12_isTrial_73 (v_finI h)
      · rw [if_neg c] at h
        refine V.iload_n (pc := 24) (i := 2) hK rfl dX12_isTrial_24 ?_
        refine V.iload_n (pc := 25) (i := 3) hK rfl dX12_isTrial_25 ?_
        refine V.icmp_eq (pc := 26) (tgt := 72) hK dX12_isTrial_26 (by decide) (fun c => ?_) (fun c => ?_)
        · rw [if_pos c] at h
          refine V.iconst (pc := 72) (v := 0) hK (by decide) dX12_isTrial_72 ?_
          obtain ⟨hb, h⟩ := v_ckS h
          exact V.zret (pc := 73) hO (v_z01 hb) dX12_isTrial_73 (v_finI h)
        · rw [if_neg c] at h
          refine V.iload (pc := 29) (i := 4) hK rfl dX12_isTrial_29 ?_
          refine V.i2l (pc := 31) hK dX12_isTrial_31 ?_
          refine V.lconst (pc := 32) (v := 0) hK (by decide) dX12_isTrial_32 ?_
          refine V.ldc2 (pc := 33) hK tw_1478 dX12_isTrial_33 ?_
          obtain ⟨z4, hz4, h⟩ := v_bdS h
          refine V.cS (pc := 36) hK (c_X12_in E hL N _ _ _ _ hz4) Y_X12_in cs_RX12_229 dX12_isTrial_36 (by decide) rfl (Nat.le_of_ble_eq_true rfl) ?_
          refine V.if_eq (pc := 39) (tgt := 72) hK dX12_isTrial_39 (by decide) (fun c => ?_) (fun c => ?_)
          · rw [if_pos c] at h
            refine V.iconst (pc := 72) (v := 0) hK (by decide) dX12_isTrial_72 ?_
            obtain ⟨hb, h⟩ := v_ckS h
            exact V.zret (pc := 73) hO (v_z01 hb) dX12_isTrial_73 (v_finI h)
          · rw [if_neg c] at h
            refine V.iload (pc := 42) (i := 5) hK rfl dX12_isTrial_42 ?_
            refine V.i2l (pc := 44) hK dX12_isTrial_44 ?_
            refine V.lconst (pc := 45) (v := 0) hK (by decide) dX12_isTrial_45 ?_
            refine V.ldc2 (pc := 46) hK tw_1423 dX12_isTrial_46 ?_
            obtain ⟨z5, hz5, h⟩ := v_bdS h
            refine V.cS (pc := 49) hK (c_X12_in E hL N _ _ _ _ hz5) Y_X12_in cs_RX12_229 dX12_isTrial_49 (by decide) rfl (Nat.le_of_ble_eq_true rfl) ?_
            refine V.if_eq (pc := 52) (tgt := 72) hK dX12_isTrial_52 (by decide) (fun c => ?_) (fun c => ?_)
            · rw [if_pos c] at h
              refine V.iconst (pc := 72) (v := 0) hK (by decide) dX12_isTrial_72 ?_
              obtain ⟨hb, h⟩ := v_ckS h
              exact V.zret (pc := 73) hO (v_z01 hb) dX12_isTrial_73 (v_finI h)
            · rw [if_neg c] at h
              refine V.iload (pc := 55) (i := 6) hK rfl dX12_isTrial_55 ?_
              refine V.i2l (pc := 57) hK dX12_isTrial_57 ?_
              refine V.lconst (pc := 58) (v := 0) hK (by decide) dX12_isTrial_58 ?_
              refine V.ldc2 (pc := 59) hK tw_1478 dX12_isTrial_59 ?_
              obtain ⟨z6, hz6, h⟩ := v_bdS h
              refine V.cS (pc := 62) hK (c_X12_in E hL N _ _ _ _ hz6) Y_X12_in cs_RX12_229 dX12_isTrial_62 (by decide) rfl (Nat.le_of_ble_eq_true rfl) ?_
              refine V.if_eq (pc := 65) (tgt := 72) hK dX12_isTrial_65 (by decide) (fun c => ?_) (fun c => ?_)
              · rw [if_pos c] at h
                refine V.iconst (pc := 72) (v := 0) hK (by decide) dX12_isTrial_72 ?_
                obtain ⟨hb, h⟩ := v_ckS h
                exact V.zret (pc := 73) hO (v_z01 hb) dX12_isTrial_73 (v_finI h)
              · rw [if_neg c] at h
                refine V.iconst (pc := 68) (v := 1) hK (by decide) dX12_isTrial_68 ?_
                refine V.goto (pc := 69) (tgt := 73) hK dX12_isTrial_69 (by decide) ?_
                obtain ⟨hb, h⟩ := v_ckS h
                exact V.zret (pc := 73) hO (v_z01 hb) dX12_isTrial_73 (v_finI h)
set_option maxHeartbeats 4000000 in
set_option maxRecDepth 100000 in
theorem c_X12_tried (E : v_E) {sh : v_S} {P : v_P} (hL : v_Lay sh P) (N : Nat) (x1 : Int32) (x2 : Int32) (x3 : Int32) (x4 : Int32) (x5 : Int32) (x6 : Int32) (x7 : Int32) (M : v_M) {out : Int32 × v_M} (h : f_X12_tried N x1 x2 x3 x4 x5 x6 x7 M = some out) : v_Ct E 4 yX12_tried cX12_tried 8 (some .int) 0 0 [v_rf E 79, .int x1, .int x2, .int x3, .int x4, .int x5, .int x6, .int x7] sh P M (v_Q1 (some (.int out.1)) sh P out.2) := by
  refine v_Ct.of (by decide +kernel) (Nat.le_of_ble_eq_true rfl) (fun X hO => ?_)
  have hK : v_K E X cX12_tried RX12 8 4 := hO.1
  have hO : v_O E X cX12_tried RX12 8 4 (some .int) "tried" (v_Q1 (some (.int out.1)) sh P out.2) := hO
  show V E X (0, 0) 0 [(0, v_rf E 79), (1, .int x1), (2, .int x2), (3, .int x3), (4, .int x4), (5, .int x5), (6, .int x6), (7, .int x7)] [] sh P M
  unfold f_X12_tried at h
  refine V.aload_n (pc := 0) (i := 0) hK rfl ⟨_, rfl⟩ dX12_tried_0 ?_
  refine V.iload_n (pc := 1) (i := 1) hK rfl dX12_tried_1 ?_
  refine V.iload_n (pc := 2) (i := 2) hK rfl dX12_tried_2 ?_
  refine V.iload_n (pc := 3) (i := 3) hK rfl dX12_tried_3 ?_
  refine V.iload (pc := 4) (i := 4) hK rfl dX12_tried_4 ?_
  refine V.iload (pc := 6) (i := 5) hK rfl dX12_tried_6 ?_
  refine V.iload (pc := 8) (i := 6) hK rfl dX12_tried_8 ?_
  obtain ⟨z1, hz1, h⟩ := v_bdS h
  refine V.cV (pc := 10) (ci := 12) hK (c_X12_isTrial E hL N _ _ _ _ _ _ _ hz1) Y_X12_isTrial cv_RX12_305 (by decide) rfl (hL.1 79 _ ls_79) dX12_tried_10 (by decide) rfl (Nat.le_of_ble_eq_true rfl) ?_
  refine V.if_eq (pc := 13) (tgt := 35) hK dX12_tried_13 (by decide) (fun c => ?_) (fun c => ?_)
  · rw [if_pos c] at h
    refine V.iconst (pc := 35) (v := -1) hK (by decide) dX12_tried_35 ?_
    exact V.iret (pc := 36) hO dX12_tried_36 (v_finI h)
  · rw [if_neg c] at h
    refine V.aload_n (pc := 16) (i := 0) hK rfl ⟨_, rfl⟩ dX12_tried_16 ?_
    refine V.iload_n (pc := 17) (i := 1) hK rfl dX12_tried_17 ?_
    refine V.iload_n (pc := 18) (i := 2) hK rfl dX12_tried_18 ?_
    refine V.iload_n (pc := 19) (i := 3) hK rfl dX12_tried_19 ?_
    refine V.iload (pc := 20) (i := 4) hK rfl dX12_tried_20 ?_
    refine V.iload (pc := 22) (i := 5) hK rfl dX12_tried_22 ?_
    refine V.iload (pc := 24) (i := 6) hK rfl dX12_tried_24 ?_
    refine V.iconst (pc := 26) (v := 0) hK (by decide) dX12_tried_26 ?_
    refine V.iload (pc := 27) (i := 7) hK rfl dX12_tried_27 ?_
    obtain ⟨z2, hz2, h⟩ := v_bdS h
    refine V.cV (pc := 29) (ci := 12) hK (c_X12_unlikes E hL N _ _ _ _ _ _ _ _ _ hz2) Y_X12_unlikes cv_RX12_309 (by decide) rfl (hL.1 79 _ ls_79) dX12_tried_29 (by decide) rfl (Nat.le_of_ble_eq_true rfl) ?_
    refine V.goto (pc := 32) (tgt := 36) hK dX12_tried_32 (by decide) ?_
    exact V.iret (pc := 36) hO dX12_tried_36 (v_finI h)
set_option maxHeartbeats 4000000 in
set_option maxRecDepth 100000 in
theorem c_X12_change (E : v_E) {sh : v_S} {P : v_P} (hL : v_Lay sh P) (N : Nat) (x1 : Int32) (x2 : Int32) (x3 : Int32) (x4 : Int32) (x5 : Int32) (M : v_M) {out : Int32 × v_M} (h : f_X12_change N x1 x2 x3 x4 x5 M = some out) : v_Ct E 2 yX12_change cX12_change 6 (some .int) 0 0 [v_rf E 79, .int x1, .int x2, .int x3, .int x4, .int x5] sh P M (v_Q1 (some (.int out.1)) sh P out.2) := by
  refine v_Ct.of (by decide +kernel) (Nat.le_of_ble_eq_true rfl) (fun X hO => ?_)
  have hK : v_K E X cX12_change RX12 6 2 := hO.1
  have hO : v_O E X cX12_change RX12 6 2 (some .int) "change" (v_Q1 (some (.int out.1)) sh P out.2) := hO
  show V E X (0, 0) 0 [(0, v_rf E 79), (1, .int x1), (2, .int x2), (3, .int x3), (4, .int x4), (5, .int x5)] [] sh P M
  unfold f_X12_change at h
  refine V.aload_n (pc := 0) (i := 0) hK rfl ⟨_, rfl⟩ dX12_change_0 ?_
  refine V.getI (pc := 1) hK fl_RX12_299 rfl (hL.1 79 _ ls_79) dX12_change_1 ?_
  refine V.bipush (pc := 4) (v := 8) hK (by decide) dX12_change_4 ?_
  refine V.icmp_eq (pc := 6) (tgt := 69) hK dX12_change_6 (by decide) (fun c => ?_) (fun c => ?_)
  · rw [if_pos c] at h
    refine V.iconst (pc := 69) (v := -1) hK (by decide) dX12_change_69 ?_
    exact V.iret (pc := 70) hO dX12_change_70 (v_finI h)
  · rw [if_neg c] at h
    refine V.aload_n (pc := 9) (i := 0) hK rfl ⟨_, rfl⟩ dX12_change_9 ?_
    refine V.iload_n (pc := 10) (i := 1) hK rfl dX12_change_10 ?_
    obtain ⟨z1, hz1, h⟩ := v_bdS h
    refine V.cV (pc := 11) (ci := 12) hK (c_X12_isPart E hL N _ _ hz1) Y_X12_isPart cv_RX12_242 (by decide) rfl (hL.1 79 _ ls_79) dX12_change_11 (by decide) rfl (Nat.le_of_ble_eq_true rfl) ?_
    refine V.if_eq (pc := 14) (tgt := 69) hK dX12_change_14 (by decide) (fun c => ?_) (fun c => ?_)
    · rw [if_pos c] at h
      refine V.iconst (pc := 69) (v := -1) hK (by decide) dX12_change_69 ?_
      exact V.iret (pc := 70) hO dX12_change_70 (v_finI h)
    · rw [if_neg c] at h
      refine V.iload_n (pc := 17) (i := 2) hK rfl dX12_change_17 ?_
      refine V.i2l (pc := 18) hK dX12_change_18 ?_
      refine V.lconst (pc := 19) (v := 0) hK (by decide) dX12_change_19 ?_
      refine V.ldc2 (pc := 20) hK tw_1421 dX12_change_20 ?_
      obtain ⟨z2, hz2, h⟩ := v_bdS h
      refine V.cS (pc := 23) hK (c_X12_in E hL N _ _ _ _ hz2) Y_X12_in cs_RX12_229 dX12_change_23 (by decide) rfl (Nat.le_of_ble_eq_true rfl) ?_
      refine V.if_eq (pc := 26) (tgt := 69) hK dX12_change_26 (by decide) (fun c => ?_) (fun c => ?_)
      · rw [if_pos c] at h
        refine V.iconst (pc := 69) (v := -1) hK (by decide) dX12_change_69 ?_
        exact V.iret (pc := 70) hO dX12_change_70 (v_finI h)
      · rw [if_neg c] at h
        refine V.iload_n (pc := 29) (i := 3) hK rfl dX12_change_29 ?_
        refine V.i2l (pc := 30) hK dX12_change_30 ?_
        refine V.ldc2 (pc := 31) hK tw_1440 dX12_change_31 ?_
        refine V.ldc2 (pc := 34) hK tw_1421 dX12_change_34 ?_
        obtain ⟨z3, hz3, h⟩ := v_bdS h
        refine V.cS (pc := 37) hK (c_X12_in E hL N _ _ _ _ hz3) Y_X12_in cs_RX12_229 dX12_change_37 (by decide) rfl (Nat.le_of_ble_eq_true rfl) ?_
        refine V.if_eq (pc := 40) (tgt := 69) hK dX12_change_40 (by decide) (fun c => ?_) (fun c => ?_)
        · rw [if_pos c] at h
          refine V.iconst (pc := 69) (v := -1) hK (by decide) dX12_change_69 ?_
          exact V.iret (pc := 70) hO dX12_change_70 (v_finI h)
        · rw [if_neg c] at h
          refine V.iload (pc := 43) (i := 4) hK rfl dX12_change_43 ?_
          refine V.i2l (pc := 45) hK dX12_change_45 ?_
          refine V.lconst (pc := 46) (v := 0) hK (by decide) dX12_change_46 ?_
          refine V.ldc2 (pc := 47) hK tw_1423 dX12_change_47 ?_
          obtain ⟨z4, hz4, h⟩ := v_bdS h
          refine V.cS (pc := 50) hK (c_X12_in E hL N _ _ _ _ hz4) Y_X12_in cs_RX12_229 dX12_change_50 (by decide) rfl (Nat.le_of_ble_eq_true rfl) ?_
          refine V.if_eq (pc := 53) (tgt := 69) hK dX12_change_53 (by decide) (fun c => ?_) (fun c => ?_)
          · rw [if_pos c] at h
            refine V.iconst (pc := 69) (v := -1) hK (by decide) dX12_change_69 ?_
            exact V.iret (pc := 70) hO dX12_change_70 (v_finI h)
          · rw [if_neg c] at h
            refine V.iload (pc := 56) (i := 5) hK rfl dX12_change_56 ?_
            refine V.i2l (pc := 58) hK dX12_change_58 ?_
            refine V.lconst (pc := 59) (v := 0) hK (by decide) dX12_change_59 ?_
            refine V.ldc2 (pc := 60) hK tw_1423 dX12_change_60 ?_
            obtain ⟨z5, hz5, h⟩ := v_bdS h
            refine V.cS (pc := 63) hK (c_X12_in E hL N _ _ _ _ hz5) Y_X12_in cs_RX12_229 dX12_change_63 (by decide) rfl (Nat.le_of_ble_eq_true rfl) ?_
            refine V.if_ne (pc := 66) (tgt := 71) hK dX12_change_66 (by decide) (fun c => ?_) (fun c => ?_)
            · rw [if_neg c] at h
              refine V.aload_n (pc := 71) (i := 0) hK rfl ⟨_, rfl⟩ dX12_change_71 ?_
              refine V.getR (pc := 72) hK fl_RX12_73 rfl (hL.1 79 _ ls_79) (hL.2 79 26 101 rfl) dX12_change_72 ?_
              refine V.aload_n (pc := 75) (i := 0) hK rfl ⟨_, rfl⟩ dX12_change_75 ?_
              refine V.getI (pc := 76) hK fl_RX12_299 rfl (hL.1 79 _ ls_79) dX12_change_76 ?_
              refine V.iload_n (pc := 79) (i := 1) hK rfl dX12_change_79 ?_
              obtain ⟨hb, h⟩ := v_ckS h
              refine V.iast (pc := 80) hK (hL.1 101 _ ls_101) (v_ibS hb) dX12_change_80 ?_
              refine V.nmM (fun M6 eM6 => ?_)
              have h := v_lt eM6 h
              refine V.aload_n (pc := 81) (i := 0) hK rfl ⟨_, rfl⟩ dX12_change_81 ?_
              refine V.getR (pc := 82) hK fl_RX12_76 rfl (hL.1 79 _ ls_79) (hL.2 79 27 102 rfl) dX12_change_82 ?_
              refine V.aload_n (pc := 85) (i := 0) hK rfl ⟨_, rfl⟩ dX12_change_85 ?_
              refine V.getI (pc := 86) hK fl_RX12_299 rfl (hL.1 79 _ ls_79) dX12_change_86 ?_
              refine V.iload_n (pc := 89) (i := 2) hK rfl dX12_change_89 ?_
              obtain ⟨hb, h⟩ := v_ckS h
              refine V.iast (pc := 90) hK (hL.1 102 _ ls_102) (v_ibS hb) dX12_change_90 ?_
              refine V.nmM (fun M7 eM7 => ?_)
              have h := v_lt eM7 h
              refine V.aload_n (pc := 91) (i := 0) hK rfl ⟨_, rfl⟩ dX12_change_91 ?_
              refine V.getR (pc := 92) hK fl_RX12_79 rfl (hL.1 79 _ ls_79) (hL.2 79 28 103 rfl) dX12_change_92 ?_
              refine V.aload_n (pc := 95) (i := 0) hK rfl ⟨_, rfl⟩ dX12_change_95 ?_
              refine V.getI (pc := 96) hK fl_RX12_299 rfl (hL.1 79 _ ls_79) dX12_change_96 ?_
              refine V.iload_n (pc := 99) (i := 3) hK rfl dX12_change_99 ?_
              obtain ⟨hb, h⟩ := v_ckS h
              refine V.iast (pc := 100) hK (hL.1 103 _ ls_103) (v_ibS hb) dX12_change_100 ?_
              refine V.nmM (fun M8 eM8 => ?_)
              have h := v_lt eM8 h
              refine V.aload_n (pc := 101) (i := 0) hK rfl ⟨_, rfl⟩ dX12_change_101 ?_
              refine V.getR (pc := 102) hK fl_RX12_82 rfl (hL.1 79 _ ls_79) (hL.2 79 29 104 rfl) dX12_change_102 ?_
              refine V.aload_n (pc := 105) (i := 0) hK rfl ⟨_, rfl⟩ dX12_change_105 ?_
              refine V.getI (pc := 106) hK fl_RX12_299 rfl (hL.1 79 _ ls_79) dX12_change_106 ?_
              refine V.iload (pc := 109) (i := 4) hK rfl dX12_change_109 ?_
              obtain ⟨hb, h⟩ := v_ckS h
              refine V.iast (pc := 111) hK (hL.1 104 _ ls_104) (v_ibS hb) dX12_change_111 ?_
              refine V.nmM (fun M9 eM9 => ?_)
              have h := v_lt eM9 h
              refine V.aload_n (pc := 112) (i := 0) hK rfl ⟨_, rfl⟩ dX12_change_112 ?_
              refine V.getR (pc := 113) hK fl_RX12_85 rfl (hL.1 79 _ ls_79) (hL.2 79 30 105 rfl) dX12_change_113 ?_
              refine V.aload_n (pc := 116) (i := 0) hK rfl ⟨_, rfl⟩ dX12_change_116 ?_
              refine V.getI (pc := 117) hK fl_RX12_299 rfl (hL.1 79 _ ls_79) dX12_change_117 ?_
              refine V.iload (pc := 120) (i := 5) hK rfl dX12_change_120 ?_
              obtain ⟨hb, h⟩ := v_ckS h
              refine V.iast (pc := 122) hK (hL.1 105 _ ls_105) (v_ibS hb) dX12_change_122 ?_
              refine V.nmM (fun M10 eM10 => ?_)
              have h := v_lt eM10 h
              refine V.aload_n (pc := 123) (i := 0) hK rfl ⟨_, rfl⟩ dX12_change_123 ?_
              refine V.dup (pc := 124) hK rfl dX12_change_124 ?_
              refine V.getI (pc := 125) hK fl_RX12_299 rfl (hL.1 79 _ ls_79) dX12_change_125 ?_
              refine V.iconst (pc := 128) (v := 1) hK (by decide) dX12_change_128 ?_
              refine V.iadd (pc := 129) hK dX12_change_129 ?_
              refine V.putI (pc := 130) hK fl_RX12_299 rfl rfl ⟨rfl, rfl⟩ (hL.1 79 _ ls_79) dX12_change_130 ?_
              refine V.nmM (fun M11 eM11 => ?_)
              have h := v_lt eM11 h
              refine V.aload_n (pc := 133) (i := 0) hK rfl ⟨_, rfl⟩ dX12_change_133 ?_
              refine V.getI (pc := 134) hK fl_RX12_299 rfl (hL.1 79 _ ls_79) dX12_change_134 ?_
              refine V.iconst (pc := 137) (v := 1) hK (by decide) dX12_change_137 ?_
              refine V.isub (pc := 138) hK dX12_change_138 ?_
              exact V.iret (pc := 139) hO dX12_change_139 (v_finI h)
            · rw [if_pos c] at h
              refine V.iconst (pc := 69) (v := -1) hK (by decide) dX12_change_69 ?_
              exact V.iret (pc := 70) hO dX12_change_70 (v_finI h)
set_option maxHeartbeats 4000000 in
set_option maxRecDepth 100000 in
theorem w_X12_bits_L4 {E : v_E} {X : v_X} {sh : v_S} {P : v_P} {out : Int32 × v_M} (hL : v_Lay sh P) (hO : v_O E X cX12_bits RX12 3 0 (some .int) "bits" (v_Q1 (some (.int out.1)) sh P out.2)) (N : Nat) (n : Nat) : ∀ (x1 : Int32) (x2 : Int32) (M : v_M), f_X12_bits_L4 N n x1 x2 M = some out → V E X (0, 0) 4 [(1, .int x1), (2, .int x2)] [] sh P M := by
  have hK := hO.1
  induction n with
  | zero => intro x1 x2 M h; rw [f_X12_bits_L4] at h; cases h
  | succ n ih =>
    intro x1 x2 M h
    rw [f_X12_bits_L4] at h
    refine V.iload_n (pc := 4) (i := 2) hK rfl dX12_bits_4 ?_
    refine V.if_eq (pc := 5) (tgt := 20) hK dX12_bits_5 (by decide) (fun c => ?_) (fun c => ?_)
    · rw [if_pos c] at h
      refine V.iload_n (pc := 20) (i := 1) hK rfl dX12_bits_20 ?_
      exact V.iret (pc := 21) hO dX12_bits_21 (v_finI h)
    · rw [if_neg c] at h
      refine V.iinc (pc := 8) (i := 1) (v := 1) (lv' := [(1, _), (2, _)]) hK rfl (by decide) (by decide) rfl dX12_bits_8 ?_
      refine V.iload_n (pc := 11) (i := 2) hK rfl dX12_bits_11 ?_
      refine V.iload_n (pc := 12) (i := 2) hK rfl dX12_bits_12 ?_
      refine V.iconst (pc := 13) (v := 1) hK (by decide) dX12_bits_13 ?_
      refine V.isub (pc := 14) hK dX12_bits_14 ?_
      refine V.iand (pc := 15) hK dX12_bits_15 ?_
      refine V.topi (fun y1 ey1 => ?_)
      have h := v_lt ey1 h
      refine V.istore_n (pc := 16) (i := 2) (lv' := [(1, _), (2, _)]) hK (by decide) rfl dX12_bits_16 ?_
      refine V.goto (pc := 17) (tgt := 4) hK dX12_bits_17 (by decide) ?_
      refine V.pick [1, 2] (l := [(1, _), (2, _)]) rfl ?_
      exact ih _ _ _ h
set_option maxHeartbeats 4000000 in
set_option maxRecDepth 100000 in
theorem c_X12_bits (E : v_E) {sh : v_S} {P : v_P} (hL : v_Lay sh P) (N : Nat) (x0 : Int32) (M : v_M) {out : Int32 × v_M} (h : f_X12_bits N x0 M = some out) : v_Ct E 0 yX12_bits cX12_bits 3 (some .int) 0 0 [.int x0] sh P M (v_Q1 (some (.int out.1)) sh P out.2) := by
  refine v_Ct.of (by decide +kernel) (Nat.le_of_ble_eq_true rfl) (fun X hO => ?_)
  have hK : v_K E X cX12_bits RX12 3 0 := hO.1
  have hO : v_O E X cX12_bits RX12 3 0 (some .int) "bits" (v_Q1 (some (.int out.1)) sh P out.2) := hO
  show V E X (0, 0) 0 [(0, .int x0)] [] sh P M
  unfold f_X12_bits at h
  refine V.iconst (pc := 0) (v := 0) hK (by decide) dX12_bits_0 ?_
  refine V.istore_n (pc := 1) (i := 1) (lv' := [(0, _), (1, _)]) hK (by decide) rfl dX12_bits_1 ?_
  refine V.iload_n (pc := 2) (i := 0) hK rfl dX12_bits_2 ?_
  refine V.istore_n (pc := 3) (i := 2) (lv' := [(0, _), (1, _), (2, _)]) hK (by decide) rfl dX12_bits_3 ?_
  refine V.pick [1, 2] (l := [(1, _), (2, _)]) rfl ?_
  exact w_X12_bits_L4 hL hO N N _ _ _ h
set_option maxHeartbeats 4000000 in
set_option maxRecDepth 100000 in
theorem w_X12_cheapest_L161 {E : v_E} {X : v_X} {sh : v_S} {P : v_P} {out : Int32 × v_M} (hL : v_Lay sh P) (hO : v_O E X cX12_cheapest RX12 12 4 (some .int) "cheapest" (v_Q1 (some (.int out.1)) sh P out.2)) (N : Nat) (k28 : Int32 → Int32 → Int32 → Int32 → Int32 → Int32 → Int32 → Int32 → Int32 → v_M → Option (Int32 × v_M)) (hk28 : ∀ (x1 : Int32) (x2 : Int32) (x3 : Int32) (x4 : Int32) (x5 : Int32) (x6 : Int32) (x7 : Int32) (x8 : Int32) (x9 : Int32) (M : v_M), k28 x1 x2 x3 x4 x5 x6 x7 x8 x9 M = some out → V E X (0, 0) 28 [(0, v_rf E 79), (1, .int x1), (2, .int x2), (3, .int x3), (4, .int x4), (5, .int x5), (6, .int x6), (7, .int x7), (8, .int x8), (9, .int x9)] [] sh P M) (x1 : Int32) (x2 : Int32) (x3 : Int32) (x4 : Int32) (x5 : Int32) (x6 : Int32) (x7 : Int32) (x8 : Int32) (x9 : Int32) (M : v_M) (h : f_X12_cheapest_L161 N k28 x1 x2 x3 x4 x5 x6 x7 x8 x9 M = some out) : V E X (0, 0) 161 [(0, v_rf E 79), (1, .int x1), (2, .int x2), (3, .int x3), (4, .int x4), (5, .int x5), (6, .int x6), (7, .int x7), (8, .int x8), (9, .int x9)] [] sh P M := by
  have hK := hO.1
  unfold f_X12_cheapest_L161 at h
  refine V.iinc (pc := 161) (i := 9) (v := 1) (lv' := [(0, _), (1, _), (2, _), (3, _), (4, _), (5, _), (6, _), (7, _), (8, _), (9, _)]) hK rfl (by decide) (by decide) rfl dX12_cheapest_161 ?_
  refine V.goto (pc := 164) (tgt := 28) hK dX12_cheapest_164 (by decide) ?_
  refine V.pick [0, 1, 2, 3, 4, 5, 6, 7, 8, 9] (l := [(0, _), (1, _), (2, _), (3, _), (4, _), (5, _), (6, _), (7, _), (8, _), (9, _)]) rfl ?_
  exact hk28 _ _ _ _ _ _ _ _ _ _ h
set_option maxHeartbeats 4000000 in
set_option maxRecDepth 100000 in
theorem w_X12_cheapest_L126 {E : v_E} {X : v_X} {sh : v_S} {P : v_P} {out : Int32 × v_M} (hL : v_Lay sh P) (hO : v_O E X cX12_cheapest RX12 12 4 (some .int) "cheapest" (v_Q1 (some (.int out.1)) sh P out.2)) (N : Nat) (k28 : Int32 → Int32 → Int32 → Int32 → Int32 → Int32 → Int32 → Int32 → Int32 → v_M → Option (Int32 × v_M)) (hk28 : ∀ (x1 : Int32) (x2 : Int32) (x3 : Int32) (x4 : Int32) (x5 : Int32) (x6 : Int32) (x7 : Int32) (x8 : Int32) (x9 : Int32) (M : v_M), k28 x1 x2 x3 x4 x5 x6 x7 x8 x9 M = some out → V E X (0, 0) 28 [(0, v_rf E 79), (1, .int x1), (2, .int x2), (3, .int x3), (4, .int x4), (5, .int x5), (6, .int x6), (7, .int x7), (8, .int x8), (9, .int x9)] [] sh P M) (x1 : Int32) (x2 : Int32) (x3 : Int32) (x4 : Int32) (x5 : Int32) (x6 : Int32) (x7 : Int32) (x8 : Int32) (x9 : Int32) (x10 : Int32) (t0 : Int32) (M : v_M) (h : f_X12_cheapest_L126 N k28 x1 x2 x3 x4 x5 x6 x7 x8 x9 x10 t0 M = some out) : V E X (0, 0) 126 [(0, v_rf E 79), (1, .int x1), (2, .int x2), (3, .int x3), (4, .int x4), (5, .int x5), (6, .int x6), (7, .int x7), (8, .int x8), (9, .int x9), (10, .int x10)] [.int t0] sh P M := by
  have hK := hO.1
  unfold f_X12_cheapest_L126 at h
  refine V.istore (pc := 126) (i := 11) (lv' := [(0, _), (1, _), (2, _), (3, _), (4, _), (5, _), (6, _), (7, _), (8, _), (9, _), (10, _), (11, _)]) hK (by decide) rfl dX12_cheapest_126 ?_
  refine V.iload (pc := 128) (i := 11) hK rfl dX12_cheapest_128 ?_
  refine V.if_eq (pc := 130) (tgt := 161) hK dX12_cheapest_130 (by decide) (fun c => ?_) (fun c => ?_)
  · rw [if_pos c] at h
    refine V.pick [0, 1, 2, 3, 4, 5, 6, 7, 8, 9] (l := [(0, _), (1, _), (2, _), (3, _), (4, _), (5, _), (6, _), (7, _), (8, _), (9, _)]) rfl ?_
    exact w_X12_cheapest_L161 hL hO N _ hk28 _ _ _ _ _ _ _ _ _ _ h
  · rw [if_neg c] at h
    refine V.aload_n (pc := 133) (i := 0) hK rfl ⟨_, rfl⟩ dX12_cheapest_133 ?_
    refine V.iload_n (pc := 134) (i := 1) hK rfl dX12_cheapest_134 ?_
    refine V.iload_n (pc := 135) (i := 2) hK rfl dX12_cheapest_135 ?_
    refine V.iload_n (pc := 136) (i := 3) hK rfl dX12_cheapest_136 ?_
    refine V.iload (pc := 137) (i := 4) hK rfl dX12_cheapest_137 ?_
    refine V.iload (pc := 139) (i := 5) hK rfl dX12_cheapest_139 ?_
    refine V.iload (pc := 141) (i := 6) hK rfl dX12_cheapest_141 ?_
    refine V.iload (pc := 143) (i := 9) hK rfl dX12_cheapest_143 ?_
    refine V.iconst (pc := 145) (v := 0) hK (by decide) dX12_cheapest_145 ?_
    obtain ⟨z1, hz1, h⟩ := v_bdS h
    refine V.cV (pc := 146) (ci := 12) hK (c_X12_unlikes E hL N _ _ _ _ _ _ _ _ _ hz1) Y_X12_unlikes cv_RX12_309 (by decide) rfl (hL.1 79 _ ls_79) dX12_cheapest_146 (by decide) rfl (Nat.le_of_ble_eq_true rfl) ?_
    refine V.iconst (pc := 149) (v := -1) hK (by decide) dX12_cheapest_149 ?_
    refine V.icmp_ne (pc := 150) (tgt := 161) hK dX12_cheapest_150 (by decide) (fun c => ?_) (fun c => ?_)
    · rw [if_neg c] at h
      refine V.pick [0, 1, 2, 3, 4, 5, 6, 7, 8, 9] (l := [(0, _), (1, _), (2, _), (3, _), (4, _), (5, _), (6, _), (7, _), (8, _), (9, _)]) rfl ?_
      exact w_X12_cheapest_L161 hL hO N _ hk28 _ _ _ _ _ _ _ _ _ _ h
    · rw [if_pos c] at h
      refine V.iload (pc := 153) (i := 9) hK rfl dX12_cheapest_153 ?_
      refine V.istore (pc := 155) (i := 7) (lv' := [(0, _), (1, _), (2, _), (3, _), (4, _), (5, _), (6, _), (7, _), (8, _), (9, _), (10, _), (11, _)]) hK (by decide) rfl dX12_cheapest_155 ?_
      refine V.iload (pc := 157) (i := 10) hK rfl dX12_cheapest_157 ?_
      refine V.istore (pc := 159) (i := 8) (lv' := [(0, _), (1, _), (2, _), (3, _), (4, _), (5, _), (6, _), (7, _), (8, _), (9, _), (10, _), (11, _)]) hK (by decide) rfl dX12_cheapest_159 ?_
      refine V.pick [0, 1, 2, 3, 4, 5, 6, 7, 8, 9] (l := [(0, _), (1, _), (2, _), (3, _), (4, _), (5, _), (6, _), (7, _), (8, _), (9, _)]) rfl ?_
      exact w_X12_cheapest_L161 hL hO N _ hk28 _ _ _ _ _ _ _ _ _ _ h
set_option maxHeartbeats 4000000 in
set_option maxRecDepth 100000 in
theorem w_X12_cheapest_L125 {E : v_E} {X : v_X} {sh : v_S} {P : v_P} {out : Int32 × v_M} (hL : v_Lay sh P) (hO : v_O E X cX12_cheapest RX12 12 4 (some .int) "cheapest" (v_Q1 (some (.int out.1)) sh P out.2)) (N : Nat) (k28 : Int32 → Int32 → Int32 → Int32 → Int32 → Int32 → Int32 → Int32 → Int32 → v_M → Option (Int32 × v_M)) (hk28 : ∀ (x1 : Int32) (x2 : Int32) (x3 : Int32) (x4 : Int32) (x5 : Int32) (x6 : Int32) (x7 : Int32) (x8 : Int32) (x9 : Int32) (M : v_M), k28 x1 x2 x3 x4 x5 x6 x7 x8 x9 M = some out → V E X (0, 0) 28 [(0, v_rf E 79), (1, .int x1), (2, .int x2), (3, .int x3), (4, .int x4), (5, .int x5), (6, .int x6), (7, .int x7), (8, .int x8), (9, .int x9)] [] sh P M) (x1 : Int32) (x2 : Int32) (x3 : Int32) (x4 : Int32) (x5 : Int32) (x6 : Int32) (x7 : Int32) (x8 : Int32) (x9 : Int32) (x10 : Int32) (M : v_M) (h : f_X12_cheapest_L125 N k28 x1 x2 x3 x4 x5 x6 x7 x8 x9 x10 M = some out) : V E X (0, 0) 125 [(0, v_rf E 79), (1, .int x1), (2, .int x2), (3, .int x3), (4, .int x4), (5, .int x5), (6, .int x6), (7, .int x7), (8, .int x8), (9, .int x9), (10, .int x10)] [] sh P M := by
  have hK := hO.1
  unfold f_X12_cheapest_L125 at h
  refine V.iconst (pc := 125) (v := 0) hK (by decide) dX12_cheapest_125 ?_
  refine V.pick [0, 1, 2, 3, 4, 5, 6, 7, 8, 9, 10] (l := [(0, _), (1, _), (2, _), (3, _), (4, _), (5, _), (6, _), (7, _), (8, _), (9, _), (10, _)]) rfl ?_
  exact w_X12_cheapest_L126 hL hO N _ hk28 _ _ _ _ _ _ _ _ _ _ _ _ h
set_option maxHeartbeats 4000000 in
set_option maxRecDepth 100000 in
theorem w_X12_cheapest_L121 {E : v_E} {X : v_X} {sh : v_S} {P : v_P} {out : Int32 × v_M} (hL : v_Lay sh P) (hO : v_O E X cX12_cheapest RX12 12 4 (some .int) "cheapest" (v_Q1 (some (.int out.1)) sh P out.2)) (N : Nat) (k28 : Int32 → Int32 → Int32 → Int32 → Int32 → Int32 → Int32 → Int32 → Int32 → v_M → Option (Int32 × v_M)) (hk28 : ∀ (x1 : Int32) (x2 : Int32) (x3 : Int32) (x4 : Int32) (x5 : Int32) (x6 : Int32) (x7 : Int32) (x8 : Int32) (x9 : Int32) (M : v_M), k28 x1 x2 x3 x4 x5 x6 x7 x8 x9 M = some out → V E X (0, 0) 28 [(0, v_rf E 79), (1, .int x1), (2, .int x2), (3, .int x3), (4, .int x4), (5, .int x5), (6, .int x6), (7, .int x7), (8, .int x8), (9, .int x9)] [] sh P M) (x1 : Int32) (x2 : Int32) (x3 : Int32) (x4 : Int32) (x5 : Int32) (x6 : Int32) (x7 : Int32) (x8 : Int32) (x9 : Int32) (x10 : Int32) (M : v_M) (h : f_X12_cheapest_L121 N k28 x1 x2 x3 x4 x5 x6 x7 x8 x9 x10 M = some out) : V E X (0, 0) 121 [(0, v_rf E 79), (1, .int x1), (2, .int x2), (3, .int x3), (4, .int x4), (5, .int x5), (6, .int x6), (7, .int x7), (8, .int x8), (9, .int x9), (10, .int x10)] [] sh P M := by
  have hK := hO.1
  unfold f_X12_cheapest_L121 at h
  refine V.iconst (pc := 121) (v := 1) hK (by decide) dX12_cheapest_121 ?_
  refine V.goto (pc := 122) (tgt := 126) hK dX12_cheapest_122 (by decide) ?_
  refine V.pick [0, 1, 2, 3, 4, 5, 6, 7, 8, 9, 10] (l := [(0, _), (1, _), (2, _), (3, _), (4, _), (5, _), (6, _), (7, _), (8, _), (9, _), (10, _)]) rfl ?_
  exact w_X12_cheapest_L126 hL hO N _ hk28 _ _ _ _ _ _ _ _ _ _ _ _ h
set_option maxHeartbeats 4000000 in
set_option maxRecDepth 100000 in
theorem w_X12_cheapest_L78 {E : v_E} {X : v_X} {sh : v_S} {P : v_P} {out : Int32 × v_M} (hL : v_Lay sh P) (hO : v_O E X cX12_cheapest RX12 12 4 (some .int) "cheapest" (v_Q1 (some (.int out.1)) sh P out.2)) (N : Nat) (k28 : Int32 → Int32 → Int32 → Int32 → Int32 → Int32 → Int32 → Int32 → Int32 → v_M → Option (Int32 × v_M)) (hk28 : ∀ (x1 : Int32) (x2 : Int32) (x3 : Int32) (x4 : Int32) (x5 : Int32) (x6 : Int32) (x7 : Int32) (x8 : Int32) (x9 : Int32) (M : v_M), k28 x1 x2 x3 x4 x5 x6 x7 x8 x9 M = some out → V E X (0, 0) 28 [(0, v_rf E 79), (1, .int x1), (2, .int x2), (3, .int x3), (4, .int x4), (5, .int x5), (6, .int x6), (7, .int x7), (8, .int x8), (9, .int x9)] [] sh P M) (k45 : Int32 → Int32 → Int32 → Int32 → Int32 → Int32 → Int32 → Int32 → Int32 → Int32 → Int32 → v_M → Option (Int32 × v_M)) (hk45 : ∀ (x1 : Int32) (x2 : Int32) (x3 : Int32) (x4 : Int32) (x5 : Int32) (x6 : Int32) (x7 : Int32) (x8 : Int32) (x9 : Int32) (x10 : Int32) (x11 : Int32) (M : v_M), k45 x1 x2 x3 x4 x5 x6 x7 x8 x9 x10 x11 M = some out → V E X (0, 0) 45 [(0, v_rf E 79), (1, .int x1), (2, .int x2), (3, .int x3), (4, .int x4), (5, .int x5), (6, .int x6), (7, .int x7), (8, .int x8), (9, .int x9), (10, .int x10), (11, .int x11)] [] sh P M) (x1 : Int32) (x2 : Int32) (x3 : Int32) (x4 : Int32) (x5 : Int32) (x6 : Int32) (x7 : Int32) (x8 : Int32) (x9 : Int32) (x11 : Int32) (t0 : Int32) (t1 : Int32) (M : v_M) (h : f_X12_cheapest_L78 N k28 k45 x1 x2 x3 x4 x5 x6 x7 x8 x9 x11 t0 t1 M = some out) : V E X (0, 0) 78 [(0, v_rf E 79), (1, .int x1), (2, .int x2), (3, .int x3), (4, .int x4), (5, .int x5), (6, .int x6), (7, .int x7), (8, .int x8), (9, .int x9), (11, .int x11)] [.int t0, .int t1] sh P M := by
  have hK := hO.1
  unfold f_X12_cheapest_L78 at h
  refine V.iadd (pc := 78) hK dX12_cheapest_78 ?_
  refine V.topi (fun y1 ey1 => ?_)
  have h := v_lt ey1 h
  refine V.istore (pc := 79) (i := 10) (lv' := [(0, _), (1, _), (2, _), (3, _), (4, _), (5, _), (6, _), (7, _), (8, _), (9, _), (10, _), (11, _)]) hK (by decide) rfl dX12_cheapest_79 ?_
  refine V.iinc (pc := 81) (i := 11) (v := 1) (lv' := [(0, _), (1, _), (2, _), (3, _), (4, _), (5, _), (6, _), (7, _), (8, _), (9, _), (10, _), (11, _)]) hK rfl (by decide) (by decide) rfl dX12_cheapest_81 ?_
  refine V.goto (pc := 84) (tgt := 45) hK dX12_cheapest_84 (by decide) ?_
  refine V.pick [0, 1, 2, 3, 4, 5, 6, 7, 8, 9, 10, 11] (l := [(0, _), (1, _), (2, _), (3, _), (4, _), (5, _), (6, _), (7, _), (8, _), (9, _), (10, _), (11, _)]) rfl ?_
  exact hk45 _ _ _ _ _ _ _ _ _ _ _ _ h
set_option maxHeartbeats 4000000 in
set_option maxRecDepth 100000 in
theorem w_X12_cheapest_L45 {E : v_E} {X : v_X} {sh : v_S} {P : v_P} {out : Int32 × v_M} (hL : v_Lay sh P) (hO : v_O E X cX12_cheapest RX12 12 4 (some .int) "cheapest" (v_Q1 (some (.int out.1)) sh P out.2)) (N : Nat) (k28 : Int32 → Int32 → Int32 → Int32 → Int32 → Int32 → Int32 → Int32 → Int32 → v_M → Option (Int32 × v_M)) (hk28 : ∀ (x1 : Int32) (x2 : Int32) (x3 : Int32) (x4 : Int32) (x5 : Int32) (x6 : Int32) (x7 : Int32) (x8 : Int32) (x9 : Int32) (M : v_M), k28 x1 x2 x3 x4 x5 x6 x7 x8 x9 M = some out → V E X (0, 0) 28 [(0, v_rf E 79), (1, .int x1), (2, .int x2), (3, .int x3), (4, .int x4), (5, .int x5), (6, .int x6), (7, .int x7), (8, .int x8), (9, .int x9)] [] sh P M) (n : Nat) : ∀ (x1 : Int32) (x2 : Int32) (x3 : Int32) (x4 : Int32) (x5 : Int32) (x6 : Int32) (x7 : Int32) (x8 : Int32) (x9 : Int32) (x10 : Int32) (x11 : Int32) (M : v_M), f_X12_cheapest_L45 N k28 n x1 x2 x3 x4 x5 x6 x7 x8 x9 x10 x11 M = some out → V E X (0, 0) 45 [(0, v_rf E 79), (1, .int x1), (2, .int x2), (3, .int x3), (4, .int x4), (5, .int x5), (6, .int x6), (7, .int x7), (8, .int x8), (9, .int x9), (10, .int x10), (11, .int x11)] [] sh P M := by
  have hK := hO.1
  induction n with
  | zero => intro x1 x2 x3 x4 x5 x6 x7 x8 x9 x10 x11 M h; rw [f_X12_cheapest_L45] at h; cases h
  | succ n ih =>
    intro x1 x2 x3 x4 x5 x6 x7 x8 x9 x10 x11 M h
    rw [f_X12_cheapest_L45] at h
    refine V.iload (pc := 45) (i := 11) hK rfl dX12_cheapest_45 ?_
    refine V.aload_n (pc := 47) (i := 0) hK rfl ⟨_, rfl⟩ dX12_cheapest_47 ?_
    refine V.getI (pc := 48) hK fl_RX12_299 rfl (hL.1 79 _ ls_79) dX12_cheapest_48 ?_
    refine V.icmp_ge (pc := 51) (tgt := 87) hK dX12_cheapest_51 (by decide) (fun c => ?_) (fun c => ?_)
    · rw [if_pos c] at h
      refine V.iload (pc := 87) (i := 7) hK rfl dX12_cheapest_87 ?_
      refine V.bipush (pc := 89) (v := -2) hK (by decide) dX12_cheapest_89 ?_
      refine V.icmp_eq (pc := 91) (tgt := 121) hK dX12_cheapest_91 (by decide) (fun c => ?_) (fun c => ?_)
      · rw [if_pos c] at h
        refine V.pick [0, 1, 2, 3, 4, 5, 6, 7, 8, 9, 10] (l := [(0, _), (1, _), (2, _), (3, _), (4, _), (5, _), (6, _), (7, _), (8, _), (9, _), (10, _)]) rfl ?_
        exact w_X12_cheapest_L121 hL hO N _ hk28 _ _ _ _ _ _ _ _ _ _ _ h
      · rw [if_neg c] at h
        refine V.iload (pc := 94) (i := 10) hK rfl dX12_cheapest_94 ?_
        refine V.iload (pc := 96) (i := 8) hK rfl dX12_cheapest_96 ?_
        refine V.icmp_lt (pc := 98) (tgt := 121) hK dX12_cheapest_98 (by decide) (fun c => ?_) (fun c => ?_)
        · rw [if_pos c] at h
          refine V.pick [0, 1, 2, 3, 4, 5, 6, 7, 8, 9, 10] (l := [(0, _), (1, _), (2, _), (3, _), (4, _), (5, _), (6, _), (7, _), (8, _), (9, _), (10, _)]) rfl ?_
          exact w_X12_cheapest_L121 hL hO N _ hk28 _ _ _ _ _ _ _ _ _ _ _ h
        · rw [if_neg c] at h
          refine V.iload (pc := 101) (i := 10) hK rfl dX12_cheapest_101 ?_
          refine V.iload (pc := 103) (i := 8) hK rfl dX12_cheapest_103 ?_
          refine V.icmp_ne (pc := 105) (tgt := 125) hK dX12_cheapest_105 (by decide) (fun c => ?_) (fun c => ?_)
          · rw [if_neg c] at h
            refine V.pick [0, 1, 2, 3, 4, 5, 6, 7, 8, 9, 10] (l := [(0, _), (1, _), (2, _), (3, _), (4, _), (5, _), (6, _), (7, _), (8, _), (9, _), (10, _)]) rfl ?_
            exact w_X12_cheapest_L125 hL hO N _ hk28 _ _ _ _ _ _ _ _ _ _ _ h
          · rw [if_pos c] at h
            refine V.iload (pc := 108) (i := 9) hK rfl dX12_cheapest_108 ?_
            obtain ⟨z1, hz1, h⟩ := v_bdS h
            refine V.cS (pc := 110) hK (c_X12_bits E hL N _ _ hz1) Y_X12_bits cs_RX12_313 dX12_cheapest_110 (by decide) rfl (Nat.le_of_ble_eq_true rfl) ?_
            refine V.iload (pc := 113) (i := 7) hK rfl dX12_cheapest_113 ?_
            obtain ⟨z2, hz2, h⟩ := v_bdS h
            refine V.cS (pc := 115) hK (c_X12_bits E hL N _ _ hz2) Y_X12_bits cs_RX12_313 dX12_cheapest_115 (by decide) rfl (Nat.le_of_ble_eq_true rfl) ?_
            refine V.icmp_ge (pc := 118) (tgt := 125) hK dX12_cheapest_118 (by decide) (fun c => ?_) (fun c => ?_)
            · rw [if_pos c] at h
              refine V.pick [0, 1, 2, 3, 4, 5, 6, 7, 8, 9, 10] (l := [(0, _), (1, _), (2, _), (3, _), (4, _), (5, _), (6, _), (7, _), (8, _), (9, _), (10, _)]) rfl ?_
              exact w_X12_cheapest_L125 hL hO N _ hk28 _ _ _ _ _ _ _ _ _ _ _ h
            · rw [if_neg c] at h
              refine V.pick [0, 1, 2, 3, 4, 5, 6, 7, 8, 9, 10] (l := [(0, _), (1, _), (2, _), (3, _), (4, _), (5, _), (6, _), (7, _), (8, _), (9, _), (10, _)]) rfl ?_
              exact w_X12_cheapest_L121 hL hO N _ hk28 _ _ _ _ _ _ _ _ _ _ _ h
    · rw [if_neg c] at h
      refine V.iload (pc := 54) (i := 10) hK rfl dX12_cheapest_54 ?_
      refine V.iload (pc := 56) (i := 9) hK rfl dX12_cheapest_56 ?_
      refine V.iload (pc := 58) (i := 11) hK rfl dX12_cheapest_58 ?_
      refine V.ishr (pc := 60) hK dX12_cheapest_60 ?_
      refine V.iconst (pc := 61) (v := 1) hK (by decide) dX12_cheapest_61 ?_
      refine V.iand (pc := 62) hK dX12_cheapest_62 ?_
      refine V.iconst (pc := 63) (v := 1) hK (by decide) dX12_cheapest_63 ?_
      refine V.icmp_ne (pc := 64) (tgt := 77) hK dX12_cheapest_64 (by decide) (fun c => ?_) (fun c => ?_)
      · rw [if_neg c] at h
        refine V.iconst (pc := 77) (v := 0) hK (by decide) dX12_cheapest_77 ?_
        refine V.pick [0, 1, 2, 3, 4, 5, 6, 7, 8, 9, 11] (l := [(0, _), (1, _), (2, _), (3, _), (4, _), (5, _), (6, _), (7, _), (8, _), (9, _), (11, _)]) rfl ?_
        exact w_X12_cheapest_L78 hL hO N _ hk28 _ ih _ _ _ _ _ _ _ _ _ _ _ _ _ h
      · rw [if_pos c] at h
        refine V.aload_n (pc := 67) (i := 0) hK rfl ⟨_, rfl⟩ dX12_cheapest_67 ?_
        refine V.getR (pc := 68) hK fl_RX12_85 rfl (hL.1 79 _ ls_79) (hL.2 79 30 105 rfl) dX12_cheapest_68 ?_
        refine V.iload (pc := 71) (i := 11) hK rfl dX12_cheapest_71 ?_
        obtain ⟨hb, h⟩ := v_ckS h
        refine V.iald (pc := 73) hK (hL.1 105 _ ls_105) (v_ibS hb) dX12_cheapest_73 ?_
        refine V.goto (pc := 74) (tgt := 78) hK dX12_cheapest_74 (by decide) ?_
        refine V.pick [0, 1, 2, 3, 4, 5, 6, 7, 8, 9, 11] (l := [(0, _), (1, _), (2, _), (3, _), (4, _), (5, _), (6, _), (7, _), (8, _), (9, _), (11, _)]) rfl ?_
        exact w_X12_cheapest_L78 hL hO N _ hk28 _ ih _ _ _ _ _ _ _ _ _ _ _ _ _ h
set_option maxHeartbeats 4000000 in
set_option maxRecDepth 100000 in
theorem w_X12_cheapest_L28 {E : v_E} {X : v_X} {sh : v_S} {P : v_P} {out : Int32 × v_M} (hL : v_Lay sh P) (hO : v_O E X cX12_cheapest RX12 12 4 (some .int) "cheapest" (v_Q1 (some (.int out.1)) sh P out.2)) (N : Nat) (n : Nat) : ∀ (x1 : Int32) (x2 : Int32) (x3 : Int32) (x4 : Int32) (x5 : Int32) (x6 : Int32) (x7 : Int32) (x8 : Int32) (x9 : Int32) (M : v_M), f_X12_cheapest_L28 N n x1 x2 x3 x4 x5 x6 x7 x8 x9 M = some out → V E X (0, 0) 28 [(0, v_rf E 79), (1, .int x1), (2, .int x2), (3, .int x3), (4, .int x4), (5, .int x5), (6, .int x6), (7, .int x7), (8, .int x8), (9, .int x9)] [] sh P M := by
  have hK := hO.1
  induction n with
  | zero => intro x1 x2 x3 x4 x5 x6 x7 x8 x9 M h; rw [f_X12_cheapest_L28] at h; cases h
  | succ n ih =>
    intro x1 x2 x3 x4 x5 x6 x7 x8 x9 M h
    rw [f_X12_cheapest_L28] at h
    refine V.iload (pc := 28) (i := 9) hK rfl dX12_cheapest_28 ?_
    refine V.iconst (pc := 30) (v := 1) hK (by decide) dX12_cheapest_30 ?_
    refine V.aload_n (pc := 31) (i := 0) hK rfl ⟨_, rfl⟩ dX12_cheapest_31 ?_
    refine V.getI (pc := 32) hK fl_RX12_299 rfl (hL.1 79 _ ls_79) dX12_cheapest_32 ?_
    refine V.ishl (pc := 35) hK dX12_cheapest_35 ?_
    refine V.icmp_ge (pc := 36) (tgt := 167) hK dX12_cheapest_36 (by decide) (fun c => ?_) (fun c => ?_)
    · rw [if_pos c] at h
      refine V.iload (pc := 167) (i := 7) hK rfl dX12_cheapest_167 ?_
      exact V.iret (pc := 169) hO dX12_cheapest_169 (v_finI h)
    · rw [if_neg c] at h
      refine V.iconst (pc := 39) (v := 0) hK (by decide) dX12_cheapest_39 ?_
      refine V.istore (pc := 40) (i := 10) (lv' := [(0, _), (1, _), (2, _), (3, _), (4, _), (5, _), (6, _), (7, _), (8, _), (9, _), (10, _)]) hK (by decide) rfl dX12_cheapest_40 ?_
      refine V.iconst (pc := 42) (v := 0) hK (by decide) dX12_cheapest_42 ?_
      refine V.istore (pc := 43) (i := 11) (lv' := [(0, _), (1, _), (2, _), (3, _), (4, _), (5, _), (6, _), (7, _), (8, _), (9, _), (10, _), (11, _)]) hK (by decide) rfl dX12_cheapest_43 ?_
      refine V.pick [0, 1, 2, 3, 4, 5, 6, 7, 8, 9, 10, 11] (l := [(0, _), (1, _), (2, _), (3, _), (4, _), (5, _), (6, _), (7, _), (8, _), (9, _), (10, _), (11, _)]) rfl ?_
      exact w_X12_cheapest_L45 hL hO N _ ih N _ _ _ _ _ _ _ _ _ _ _ _ h
set_option maxHeartbeats 4000000 in
set_option maxRecDepth 100000 in
theorem c_X12_cheapest (E : v_E) {sh : v_S} {P : v_P} (hL : v_Lay sh P) (N : Nat) (x1 : Int32) (x2 : Int32) (x3 : Int32) (x4 : Int32) (x5 : Int32) (x6 : Int32) (M : v_M) {out : Int32 × v_M} (h : f_X12_cheapest N x1 x2 x3 x4 x5 x6 M = some out) : v_Ct E 4 yX12_cheapest cX12_cheapest 12 (some .int) 0 0 [v_rf E 79, .int x1, .int x2, .int x3, .int x4, .int x5, .int x6] sh P M (v_Q1 (some (.int out.1)) sh P out.2) := by
  refine v_Ct.of (by decide +kernel) (Nat.le_of_ble_eq_true rfl) (fun X hO => ?_)
  have hK : v_K E X cX12_cheapest RX12 12 4 := hO.1
  have hO : v_O E X cX12_cheapest RX12 12 4 (some .int) "cheapest" (v_Q1 (some (.int out.1)) sh P out.2) := hO
  show V E X (0, 0) 0 [(0, v_rf E 79), (1, .int x1), (2, .int x2), (3, .int x3), (4, .int x4), (5, .int x5), (6, .int x6)] [] sh P M
  unfold f_X12_cheapest at h
  refine V.aload_n (pc := 0) (i := 0) hK rfl ⟨_, rfl⟩ dX12_cheapest_0 ?_
  refine V.iload_n (pc := 1) (i := 1) hK rfl dX12_cheapest_1 ?_
  refine V.iload_n (pc := 2) (i := 2) hK rfl dX12_cheapest_2 ?_
  refine V.iload_n (pc := 3) (i := 3) hK rfl dX12_cheapest_3 ?_
  refine V.iload (pc := 4) (i := 4) hK rfl dX12_cheapest_4 ?_
  refine V.iload (pc := 6) (i := 5) hK rfl dX12_cheapest_6 ?_
  refine V.iload (pc := 8) (i := 6) hK rfl dX12_cheapest_8 ?_
  obtain ⟨z1, hz1, h⟩ := v_bdS h
  refine V.cV (pc := 10) (ci := 12) hK (c_X12_isTrial E hL N _ _ _ _ _ _ _ hz1) Y_X12_isTrial cv_RX12_305 (by decide) rfl (hL.1 79 _ ls_79) dX12_cheapest_10 (by decide) rfl (Nat.le_of_ble_eq_true rfl) ?_
  refine V.if_ne (pc := 13) (tgt := 18) hK dX12_cheapest_13 (by decide) (fun c => ?_) (fun c => ?_)
  · rw [if_neg c] at h
    refine V.bipush (pc := 18) (v := -2) hK (by decide) dX12_cheapest_18 ?_
    refine V.istore (pc := 20) (i := 7) (lv' := [(0, _), (1, _), (2, _), (3, _), (4, _), (5, _), (6, _), (7, _)]) hK (by decide) rfl dX12_cheapest_20 ?_
    refine V.iconst (pc := 22) (v := 0) hK (by decide) dX12_cheapest_22 ?_
    refine V.istore (pc := 23) (i := 8) (lv' := [(0, _), (1, _), (2, _), (3, _), (4, _), (5, _), (6, _), (7, _), (8, _)]) hK (by decide) rfl dX12_cheapest_23 ?_
    refine V.iconst (pc := 25) (v := 0) hK (by decide) dX12_cheapest_25 ?_
    refine V.istore (pc := 26) (i := 9) (lv' := [(0, _), (1, _), (2, _), (3, _), (4, _), (5, _), (6, _), (7, _), (8, _), (9, _)]) hK (by decide) rfl dX12_cheapest_26 ?_
    refine V.pick [0, 1, 2, 3, 4, 5, 6, 7, 8, 9] (l := [(0, _), (1, _), (2, _), (3, _), (4, _), (5, _), (6, _), (7, _), (8, _), (9, _)]) rfl ?_
    exact w_X12_cheapest_L28 hL hO N N _ _ _ _ _ _ _ _ _ _ h
  · rw [if_pos c] at h
    refine V.iconst (pc := 16) (v := -1) hK (by decide) dX12_cheapest_16 ?_
    exact V.iret (pc := 17) hO dX12_cheapest_17 (v_finI h)
set_option maxHeartbeats 4000000 in
set_option maxRecDepth 100000 in
theorem w_X12_goes_L250 {E : v_E} {X : v_X} {sh : v_S} {P : v_P} {out : Int32 × v_M} (hL : v_Lay sh P) (hO : v_O E X cX12_goes RX12 11 2 (some .int) "goes" (v_Q1 (some (.int out.1)) sh P out.2)) (N : Nat) (k140 : Int32 → Int32 → Int32 → Int32 → v_M → Option (Int32 × v_M)) (hk140 : ∀ (x2 : Int32) (x3 : Int32) (x4 : Int32) (x5 : Int32) (M : v_M), k140 x2 x3 x4 x5 M = some out → V E X (0, 0) 140 [(0, v_rf E 79), (2, .int x2), (3, .int x3), (4, .int x4), (5, .int x5)] [] sh P M) (x2 : Int32) (x3 : Int32) (x4 : Int32) (x5 : Int32) (M : v_M) (h : f_X12_goes_L250 N k140 x2 x3 x4 x5 M = some out) : V E X (0, 0) 250 [(0, v_rf E 79), (2, .int x2), (3, .int x3), (4, .int x4), (5, .int x5)] [] sh P M := by
  have hK := hO.1
  unfold f_X12_goes_L250 at h
  refine V.iload (pc := 250) (i := 4) hK rfl dX12_goes_250 ?_
  refine V.if_ne (pc := 252) (tgt := 258) hK dX12_goes_252 (by decide) (fun c => ?_) (fun c => ?_)
  · rw [if_neg c] at h
    refine V.iinc (pc := 258) (i := 5) (v := 1) (lv' := [(0, _), (2, _), (3, _), (4, _), (5, _)]) hK rfl (by decide) (by decide) rfl dX12_goes_258 ?_
    refine V.goto (pc := 261) (tgt := 140) hK dX12_goes_261 (by decide) ?_
    refine V.pick [0, 2, 3, 4, 5] (l := [(0, _), (2, _), (3, _), (4, _), (5, _)]) rfl ?_
    exact hk140 _ _ _ _ _ h
  · rw [if_pos c] at h
    refine V.iload (pc := 255) (i := 5) hK rfl dX12_goes_255 ?_
    exact V.iret (pc := 257) hO dX12_goes_257 (v_finI h)
set_option maxHeartbeats 4000000 in
set_option maxRecDepth 100000 in
theorem w_X12_goes_L237 {E : v_E} {X : v_X} {sh : v_S} {P : v_P} {out : Int32 × v_M} (hL : v_Lay sh P) (hO : v_O E X cX12_goes RX12 11 2 (some .int) "goes" (v_Q1 (some (.int out.1)) sh P out.2)) (N : Nat) (k140 : Int32 → Int32 → Int32 → Int32 → v_M → Option (Int32 × v_M)) (hk140 : ∀ (x2 : Int32) (x3 : Int32) (x4 : Int32) (x5 : Int32) (M : v_M), k140 x2 x3 x4 x5 M = some out → V E X (0, 0) 140 [(0, v_rf E 79), (2, .int x2), (3, .int x3), (4, .int x4), (5, .int x5)] [] sh P M) (k159 : Int32 → Int32 → Int32 → Int32 → Int32 → Int32 → v_M → Option (Int32 × v_M)) (hk159 : ∀ (x2 : Int32) (x3 : Int32) (x4 : Int32) (x5 : Int32) (x6 : Int32) (x7 : Int32) (M : v_M), k159 x2 x3 x4 x5 x6 x7 M = some out → V E X (0, 0) 159 [(0, v_rf E 79), (2, .int x2), (3, .int x3), (4, .int x4), (5, .int x5), (6, .int x6), (7, .int x7)] [] sh P M) (k191 : Int32 → Int32 → Int32 → Int32 → Int32 → Int32 → Int32 → Int32 → v_M → Option (Int32 × v_M)) (hk191 : ∀ (x2 : Int32) (x3 : Int32) (x5 : Int32) (x6 : Int32) (x7 : Int32) (x8 : Int32) (x9 : Int32) (x10 : Int32) (M : v_M), k191 x2 x3 x5 x6 x7 x8 x9 x10 M = some out → V E X (0, 0) 191 [(0, v_rf E 79), (2, .int x2), (3, .int x3), (5, .int x5), (6, .int x6), (7, .int x7), (8, .int x8), (9, .int x9), (10, .int x10)] [] sh P M) (x2 : Int32) (x3 : Int32) (x5 : Int32) (x6 : Int32) (x7 : Int32) (x8 : Int32) (x9 : Int32) (x10 : Int32) (M : v_M) (h : f_X12_goes_L237 N k140 k159 k191 x2 x3 x5 x6 x7 x8 x9 x10 M = some out) : V E X (0, 0) 237 [(0, v_rf E 79), (2, .int x2), (3, .int x3), (5, .int x5), (6, .int x6), (7, .int x7), (8, .int x8), (9, .int x9), (10, .int x10)] [] sh P M := by
  have hK := hO.1
  unfold f_X12_goes_L237 at h
  refine V.iinc (pc := 237) (i := 10) (v := 1) (lv' := [(0, _), (2, _), (3, _), (5, _), (6, _), (7, _), (8, _), (9, _), (10, _)]) hK rfl (by decide) (by decide) rfl dX12_goes_237 ?_
  refine V.goto (pc := 240) (tgt := 191) hK dX12_goes_240 (by decide) ?_
  refine V.pick [0, 2, 3, 5, 6, 7, 8, 9, 10] (l := [(0, _), (2, _), (3, _), (5, _), (6, _), (7, _), (8, _), (9, _), (10, _)]) rfl ?_
  exact hk191 _ _ _ _ _ _ _ _ _ h
set_option maxHeartbeats 4000000 in
set_option maxRecDepth 100000 in
theorem w_X12_goes_L191 {E : v_E} {X : v_X} {sh : v_S} {P : v_P} {out : Int32 × v_M} (hL : v_Lay sh P) (hO : v_O E X cX12_goes RX12 11 2 (some .int) "goes" (v_Q1 (some (.int out.1)) sh P out.2)) (N : Nat) (k140 : Int32 → Int32 → Int32 → Int32 → v_M → Option (Int32 × v_M)) (hk140 : ∀ (x2 : Int32) (x3 : Int32) (x4 : Int32) (x5 : Int32) (M : v_M), k140 x2 x3 x4 x5 M = some out → V E X (0, 0) 140 [(0, v_rf E 79), (2, .int x2), (3, .int x3), (4, .int x4), (5, .int x5)] [] sh P M) (k159 : Int32 → Int32 → Int32 → Int32 → Int32 → Int32 → v_M → Option (Int32 × v_M)) (hk159 : ∀ (x2 : Int32) (x3 : Int32) (x4 : Int32) (x5 : Int32) (x6 : Int32) (x7 : Int32) (M : v_M), k159 x2 x3 x4 x5 x6 x7 M = some out → V E X (0, 0) 159 [(0, v_rf E 79), (2, .int x2), (3, .int x3), (4, .int x4), (5, .int x5), (6, .int x6), (7, .int x7)] [] sh P M) (n : Nat) : ∀ (x2 : Int32) (x3 : Int32) (x5 : Int32) (x6 : Int32) (x7 : Int32) (x8 : Int32) (x9 : Int32) (x10 : Int32) (M : v_M), f_X12_goes_L191 N k140 k159 n x2 x3 x5 x6 x7 x8 x9 x10 M = some out → V E X (0, 0) 191 [(0, v_rf E 79), (2, .int x2), (3, .int x3), (5, .int x5), (6, .int x6), (7, .int x7), (8, .int x8), (9, .int x9), (10, .int x10)] [] sh P M := by
  have hK := hO.1
  induction n with
  | zero => intro x2 x3 x5 x6 x7 x8 x9 x10 M h; rw [f_X12_goes_L191] at h; cases h
  | succ n ih =>
    intro x2 x3 x5 x6 x7 x8 x9 x10 M h
    rw [f_X12_goes_L191] at h
    refine V.iload (pc := 191) (i := 10) hK rfl dX12_goes_191 ?_
    refine V.aload_n (pc := 193) (i := 0) hK rfl ⟨_, rfl⟩ dX12_goes_193 ?_
    refine V.getI (pc := 194) hK fl_RX12_236 rfl (hL.1 79 _ ls_79) dX12_goes_194 ?_
    refine V.icmp_ge (pc := 197) (tgt := 243) hK dX12_goes_197 (by decide) (fun c => ?_) (fun c => ?_)
    · rw [if_pos c] at h
      refine V.iload (pc := 243) (i := 9) hK rfl dX12_goes_243 ?_
      refine V.istore (pc := 245) (i := 4) (lv' := [(0, _), (2, _), (3, _), (4, _), (5, _), (6, _), (7, _), (8, _), (9, _), (10, _)]) hK (by decide) rfl dX12_goes_245 ?_
      refine V.goto (pc := 247) (tgt := 159) hK dX12_goes_247 (by decide) ?_
      refine V.pick [0, 2, 3, 4, 5, 6, 7] (l := [(0, _), (2, _), (3, _), (4, _), (5, _), (6, _), (7, _)]) rfl ?_
      exact hk159 _ _ _ _ _ _ _ h
    · rw [if_neg c] at h
      refine V.aload_n (pc := 200) (i := 0) hK rfl ⟨_, rfl⟩ dX12_goes_200 ?_
      refine V.getR (pc := 201) hK fl_RX12_88 rfl (hL.1 79 _ ls_79) (hL.2 79 31 106 rfl) dX12_goes_201 ?_
      refine V.iload (pc := 204) (i := 10) hK rfl dX12_goes_204 ?_
      obtain ⟨hb, h⟩ := v_ckS h
      refine V.iald (pc := 206) hK (hL.1 106 _ ls_106) (v_ibS hb) dX12_goes_206 ?_
      refine V.iconst (pc := 207) (v := -1) hK (by decide) dX12_goes_207 ?_
      refine V.icmp_eq (pc := 208) (tgt := 237) hK dX12_goes_208 (by decide) (fun c => ?_) (fun c => ?_)
      · rw [if_pos c] at h
        refine V.pick [0, 2, 3, 5, 6, 7, 8, 9, 10] (l := [(0, _), (2, _), (3, _), (5, _), (6, _), (7, _), (8, _), (9, _), (10, _)]) rfl ?_
        exact w_X12_goes_L237 hL hO N _ hk140 _ hk159 _ ih _ _ _ _ _ _ _ _ _ h
      · rw [if_neg c] at h
        refine V.aload_n (pc := 211) (i := 0) hK rfl ⟨_, rfl⟩ dX12_goes_211 ?_
        refine V.getR (pc := 212) hK fl_RX12_88 rfl (hL.1 79 _ ls_79) (hL.2 79 31 106 rfl) dX12_goes_212 ?_
        refine V.iload (pc := 215) (i := 10) hK rfl dX12_goes_215 ?_
        obtain ⟨hb, h⟩ := v_ckS h
        refine V.iald (pc := 217) hK (hL.1 106 _ ls_106) (v_ibS hb) dX12_goes_217 ?_
        refine V.iload (pc := 218) (i := 8) hK rfl dX12_goes_218 ?_
        refine V.icmp_ge (pc := 220) (tgt := 237) hK dX12_goes_220 (by decide) (fun c => ?_) (fun c => ?_)
        · rw [if_pos c] at h
          refine V.pick [0, 2, 3, 5, 6, 7, 8, 9, 10] (l := [(0, _), (2, _), (3, _), (5, _), (6, _), (7, _), (8, _), (9, _), (10, _)]) rfl ?_
          exact w_X12_goes_L237 hL hO N _ hk140 _ hk159 _ ih _ _ _ _ _ _ _ _ _ h
        · rw [if_neg c] at h
          refine V.aload_n (pc := 223) (i := 0) hK rfl ⟨_, rfl⟩ dX12_goes_223 ?_
          refine V.getR (pc := 224) hK fl_RX12_88 rfl (hL.1 79 _ ls_79) (hL.2 79 31 106 rfl) dX12_goes_224 ?_
          refine V.iload (pc := 227) (i := 10) hK rfl dX12_goes_227 ?_
          refine V.iconst (pc := 229) (v := -1) hK (by decide) dX12_goes_229 ?_
          obtain ⟨hb, h⟩ := v_ckS h
          refine V.iast (pc := 230) hK (hL.1 106 _ ls_106) (v_ibS hb) dX12_goes_230 ?_
          refine V.nmM (fun M1 eM1 => ?_)
          have h := v_lt eM1 h
          refine V.iinc (pc := 231) (i := 9) (v := -1) (lv' := [(0, _), (2, _), (3, _), (5, _), (6, _), (7, _), (8, _), (9, _), (10, _)]) hK rfl (by decide) (by decide) rfl dX12_goes_231 ?_
          refine V.iconst (pc := 234) (v := 1) hK (by decide) dX12_goes_234 ?_
          refine V.istore (pc := 235) (i := 7) (lv' := [(0, _), (2, _), (3, _), (5, _), (6, _), (7, _), (8, _), (9, _), (10, _)]) hK (by decide) rfl dX12_goes_235 ?_
          refine V.pick [0, 2, 3, 5, 6, 7, 8, 9, 10] (l := [(0, _), (2, _), (3, _), (5, _), (6, _), (7, _), (8, _), (9, _), (10, _)]) rfl ?_
          exact w_X12_goes_L237 hL hO N _ hk140 _ hk159 _ ih _ _ _ _ _ _ _ _ _ h
set_option maxHeartbeats 4000000 in
set_option maxRecDepth 100000 in
theorem w_X12_goes_L159 {E : v_E} {X : v_X} {sh : v_S} {P : v_P} {out : Int32 × v_M} (hL : v_Lay sh P) (hO : v_O E X cX12_goes RX12 11 2 (some .int) "goes" (v_Q1 (some (.int out.1)) sh P out.2)) (N : Nat) (k140 : Int32 → Int32 → Int32 → Int32 → v_M → Option (Int32 × v_M)) (hk140 : ∀ (x2 : Int32) (x3 : Int32) (x4 : Int32) (x5 : Int32) (M : v_M), k140 x2 x3 x4 x5 M = some out → V E X (0, 0) 140 [(0, v_rf E 79), (2, .int x2), (3, .int x3), (4, .int x4), (5, .int x5)] [] sh P M) (n : Nat) : ∀ (x2 : Int32) (x3 : Int32) (x4 : Int32) (x5 : Int32) (x6 : Int32) (x7 : Int32) (M : v_M), f_X12_goes_L159 N k140 n x2 x3 x4 x5 x6 x7 M = some out → V E X (0, 0) 159 [(0, v_rf E 79), (2, .int x2), (3, .int x3), (4, .int x4), (5, .int x5), (6, .int x6), (7, .int x7)] [] sh P M := by
  have hK := hO.1
  induction n with
  | zero => intro x2 x3 x4 x5 x6 x7 M h; rw [f_X12_goes_L159] at h; cases h
  | succ n ih =>
    intro x2 x3 x4 x5 x6 x7 M h
    rw [f_X12_goes_L159] at h
    refine V.iload (pc := 159) (i := 7) hK rfl dX12_goes_159 ?_
    refine V.if_eq (pc := 161) (tgt := 250) hK dX12_goes_161 (by decide) (fun c => ?_) (fun c => ?_)
    · rw [if_pos c] at h
      refine V.pick [0, 2, 3, 4, 5] (l := [(0, _), (2, _), (3, _), (4, _), (5, _)]) rfl ?_
      exact w_X12_goes_L250 hL hO N _ hk140 _ _ _ _ _ h
    · rw [if_neg c] at h
      refine V.iload (pc := 164) (i := 4) hK rfl dX12_goes_164 ?_
      refine V.if_le (pc := 166) (tgt := 250) hK dX12_goes_166 (by decide) (fun c => ?_) (fun c => ?_)
      · rw [if_pos c] at h
        refine V.pick [0, 2, 3, 4, 5] (l := [(0, _), (2, _), (3, _), (4, _), (5, _)]) rfl ?_
        exact w_X12_goes_L250 hL hO N _ hk140 _ _ _ _ _ h
      · rw [if_neg c] at h
        refine V.iload (pc := 169) (i := 6) hK rfl dX12_goes_169 ?_
        refine V.iload (pc := 171) (i := 4) hK rfl dX12_goes_171 ?_
        refine V.iadd (pc := 173) hK dX12_goes_173 ?_
        refine V.iconst (pc := 174) (v := 1) hK (by decide) dX12_goes_174 ?_
        refine V.isub (pc := 175) hK dX12_goes_175 ?_
        refine V.iload (pc := 176) (i := 4) hK rfl dX12_goes_176 ?_
        obtain ⟨hb, h⟩ := v_ckS h
        refine V.idiv (pc := 178) hK (v_nzS hb) dX12_goes_178 ?_
        refine V.topi (fun y1 ey1 => ?_)
        have h := v_lt ey1 h
        refine V.istore (pc := 179) (i := 8) (lv' := [(0, _), (2, _), (3, _), (4, _), (5, _), (6, _), (7, _), (8, _)]) hK (by decide) rfl dX12_goes_179 ?_
        refine V.iconst (pc := 181) (v := 0) hK (by decide) dX12_goes_181 ?_
        refine V.istore (pc := 182) (i := 7) (lv' := [(0, _), (2, _), (3, _), (4, _), (5, _), (6, _), (7, _), (8, _)]) hK (by decide) rfl dX12_goes_182 ?_
        refine V.iload (pc := 184) (i := 4) hK rfl dX12_goes_184 ?_
        refine V.istore (pc := 186) (i := 9) (lv' := [(0, _), (2, _), (3, _), (4, _), (5, _), (6, _), (7, _), (8, _), (9, _)]) hK (by decide) rfl dX12_goes_186 ?_
        refine V.iconst (pc := 188) (v := 0) hK (by decide) dX12_goes_188 ?_
        refine V.istore (pc := 189) (i := 10) (lv' := [(0, _), (2, _), (3, _), (4, _), (5, _), (6, _), (7, _), (8, _), (9, _), (10, _)]) hK (by decide) rfl dX12_goes_189 ?_
        refine V.pick [0, 2, 3, 5, 6, 7, 8, 9, 10] (l := [(0, _), (2, _), (3, _), (5, _), (6, _), (7, _), (8, _), (9, _), (10, _)]) rfl ?_
        exact w_X12_goes_L191 hL hO N _ hk140 _ ih N _ _ _ _ _ _ _ _ _ h
set_option maxHeartbeats 4000000 in
set_option maxRecDepth 100000 in
theorem w_X12_goes_L140 {E : v_E} {X : v_X} {sh : v_S} {P : v_P} {out : Int32 × v_M} (hL : v_Lay sh P) (hO : v_O E X cX12_goes RX12 11 2 (some .int) "goes" (v_Q1 (some (.int out.1)) sh P out.2)) (N : Nat) (n : Nat) : ∀ (x2 : Int32) (x3 : Int32) (x4 : Int32) (x5 : Int32) (M : v_M), f_X12_goes_L140 N n x2 x3 x4 x5 M = some out → V E X (0, 0) 140 [(0, v_rf E 79), (2, .int x2), (3, .int x3), (4, .int x4), (5, .int x5)] [] sh P M := by
  have hK := hO.1
  induction n with
  | zero => intro x2 x3 x4 x5 M h; rw [f_X12_goes_L140] at h; cases h
  | succ n ih =>
    intro x2 x3 x4 x5 M h
    rw [f_X12_goes_L140] at h
    refine V.iload (pc := 140) (i := 5) hK rfl dX12_goes_140 ?_
    refine V.sipush (pc := 142) (v := 400) hK (by decide) dX12_goes_142 ?_
    refine V.icmp_gt (pc := 145) (tgt := 264) hK dX12_goes_145 (by decide) (fun c => ?_) (fun c => ?_)
    · rw [if_pos c] at h
      refine V.bipush (pc := 264) (v := -2) hK (by decide) dX12_goes_264 ?_
      exact V.iret (pc := 266) hO dX12_goes_266 (v_finI h)
    · rw [if_neg c] at h
      refine V.iload (pc := 148) (i := 5) hK rfl dX12_goes_148 ?_
      refine V.iload_n (pc := 150) (i := 2) hK rfl dX12_goes_150 ?_
      refine V.imul (pc := 151) hK dX12_goes_151 ?_
      refine V.iload_n (pc := 152) (i := 3) hK rfl dX12_goes_152 ?_
      refine V.imul (pc := 153) hK dX12_goes_153 ?_
      refine V.topi (fun y1 ey1 => ?_)
      have h := v_lt ey1 h
      refine V.istore (pc := 154) (i := 6) (lv' := [(0, _), (2, _), (3, _), (4, _), (5, _), (6, _)]) hK (by decide) rfl dX12_goes_154 ?_
      refine V.iconst (pc := 156) (v := 1) hK (by decide) dX12_goes_156 ?_
      refine V.istore (pc := 157) (i := 7) (lv' := [(0, _), (2, _), (3, _), (4, _), (5, _), (6, _), (7, _)]) hK (by decide) rfl dX12_goes_157 ?_
      refine V.pick [0, 2, 3, 4, 5, 6, 7] (l := [(0, _), (2, _), (3, _), (4, _), (5, _), (6, _), (7, _)]) rfl ?_
      exact w_X12_goes_L159 hL hO N _ ih N _ _ _ _ _ _ _ h
set_option maxHeartbeats 4000000 in
set_option maxRecDepth 100000 in
theorem w_X12_goes_L128 {E : v_E} {X : v_X} {sh : v_S} {P : v_P} {out : Int32 × v_M} (hL : v_Lay sh P) (hO : v_O E X cX12_goes RX12 11 2 (some .int) "goes" (v_Q1 (some (.int out.1)) sh P out.2)) (N : Nat) (k45 : Int32 → Int32 → Int32 → Int32 → v_M → Option (Int32 × v_M)) (hk45 : ∀ (x2 : Int32) (x3 : Int32) (x4 : Int32) (x5 : Int32) (M : v_M), k45 x2 x3 x4 x5 M = some out → V E X (0, 0) 45 [(0, v_rf E 79), (2, .int x2), (3, .int x3), (4, .int x4), (5, .int x5)] [] sh P M) (x2 : Int32) (x3 : Int32) (x5 : Int32) (t0 : Int32) (t1 : Int32) (M : v_M) (h : f_X12_goes_L128 N k45 x2 x3 x5 t0 t1 M = some out) : V E X (0, 0) 128 [(0, v_rf E 79), (2, .int x2), (3, .int x3), (5, .int x5)] [.int t0, .int t1] sh P M := by
  have hK := hO.1
  unfold f_X12_goes_L128 at h
  refine V.iadd (pc := 128) hK dX12_goes_128 ?_
  refine V.topi (fun y1 ey1 => ?_)
  have h := v_lt ey1 h
  refine V.istore (pc := 129) (i := 4) (lv' := [(0, _), (2, _), (3, _), (4, _), (5, _)]) hK (by decide) rfl dX12_goes_129 ?_
  refine V.iinc (pc := 131) (i := 5) (v := 1) (lv' := [(0, _), (2, _), (3, _), (4, _), (5, _)]) hK rfl (by decide) (by decide) rfl dX12_goes_131 ?_
  refine V.goto (pc := 134) (tgt := 45) hK dX12_goes_134 (by decide) ?_
  refine V.pick [0, 2, 3, 4, 5] (l := [(0, _), (2, _), (3, _), (4, _), (5, _)]) rfl ?_
  exact hk45 _ _ _ _ _ h
set_option maxHeartbeats 4000000 in
set_option maxRecDepth 100000 in
theorem w_X12_goes_L109 {E : v_E} {X : v_X} {sh : v_S} {P : v_P} {out : Int32 × v_M} (hL : v_Lay sh P) (hO : v_O E X cX12_goes RX12 11 2 (some .int) "goes" (v_Q1 (some (.int out.1)) sh P out.2)) (N : Nat) (k45 : Int32 → Int32 → Int32 → Int32 → v_M → Option (Int32 × v_M)) (hk45 : ∀ (x2 : Int32) (x3 : Int32) (x4 : Int32) (x5 : Int32) (M : v_M), k45 x2 x3 x4 x5 M = some out → V E X (0, 0) 45 [(0, v_rf E 79), (2, .int x2), (3, .int x3), (4, .int x4), (5, .int x5)] [] sh P M) (x2 : Int32) (x3 : Int32) (x4 : Int32) (x5 : Int32) (t0 : Int32) (t1 : Int32) (M : v_M) (h : f_X12_goes_L109 N k45 x2 x3 x4 x5 t0 t1 M = some out) : V E X (0, 0) 109 [(0, v_rf E 79), (2, .int x2), (3, .int x3), (4, .int x4), (5, .int x5)] [.int t0, .int t1, v_rf E 106] sh P M := by
  have hK := hO.1
  unfold f_X12_goes_L109 at h
  obtain ⟨hb, h⟩ := v_ckS h
  refine V.iast (pc := 109) hK (hL.1 106 _ ls_106) (v_ibS hb) dX12_goes_109 ?_
  refine V.nmM (fun M1 eM1 => ?_)
  have h := v_lt eM1 h
  refine V.iload (pc := 110) (i := 4) hK rfl dX12_goes_110 ?_
  refine V.aload_n (pc := 112) (i := 0) hK rfl ⟨_, rfl⟩ dX12_goes_112 ?_
  refine V.getR (pc := 113) hK fl_RX12_88 rfl (hL.1 79 _ ls_79) (hL.2 79 31 106 rfl) dX12_goes_113 ?_
  refine V.iload (pc := 116) (i := 5) hK rfl dX12_goes_116 ?_
  obtain ⟨hb, h⟩ := v_ckS h
  refine V.iald (pc := 118) hK (hL.1 106 _ ls_106) (v_ibS hb) dX12_goes_118 ?_
  refine V.iconst (pc := 119) (v := -1) hK (by decide) dX12_goes_119 ?_
  refine V.icmp_eq (pc := 120) (tgt := 127) hK dX12_goes_120 (by decide) (fun c => ?_) (fun c => ?_)
  · rw [if_pos c] at h
    refine V.iconst (pc := 127) (v := 0) hK (by decide) dX12_goes_127 ?_
    refine V.pick [0, 2, 3, 5] (l := [(0, _), (2, _), (3, _), (5, _)]) rfl ?_
    exact w_X12_goes_L128 hL hO N _ hk45 _ _ _ _ _ _ h
  · rw [if_neg c] at h
    refine V.iconst (pc := 123) (v := 1) hK (by decide) dX12_goes_123 ?_
    refine V.goto (pc := 124) (tgt := 128) hK dX12_goes_124 (by decide) ?_
    refine V.pick [0, 2, 3, 5] (l := [(0, _), (2, _), (3, _), (5, _)]) rfl ?_
    exact w_X12_goes_L128 hL hO N _ hk45 _ _ _ _ _ _ h
set_option maxHeartbeats 4000000 in
set_option maxRecDepth 100000 in
theorem w_X12_goes_L108 {E : v_E} {X : v_X} {sh : v_S} {P : v_P} {out : Int32 × v_M} (hL : v_Lay sh P) (hO : v_O E X cX12_goes RX12 11 2 (some .int) "goes" (v_Q1 (some (.int out.1)) sh P out.2)) (N : Nat) (k45 : Int32 → Int32 → Int32 → Int32 → v_M → Option (Int32 × v_M)) (hk45 : ∀ (x2 : Int32) (x3 : Int32) (x4 : Int32) (x5 : Int32) (M : v_M), k45 x2 x3 x4 x5 M = some out → V E X (0, 0) 45 [(0, v_rf E 79), (2, .int x2), (3, .int x3), (4, .int x4), (5, .int x5)] [] sh P M) (x2 : Int32) (x3 : Int32) (x4 : Int32) (x5 : Int32) (t0 : Int32) (M : v_M) (h : f_X12_goes_L108 N k45 x2 x3 x4 x5 t0 M = some out) : V E X (0, 0) 108 [(0, v_rf E 79), (2, .int x2), (3, .int x3), (4, .int x4), (5, .int x5)] [.int t0, v_rf E 106] sh P M := by
  have hK := hO.1
  unfold f_X12_goes_L108 at h
  refine V.iconst (pc := 108) (v := -1) hK (by decide) dX12_goes_108 ?_
  refine V.pick [0, 2, 3, 4, 5] (l := [(0, _), (2, _), (3, _), (4, _), (5, _)]) rfl ?_
  exact w_X12_goes_L109 hL hO N _ hk45 _ _ _ _ _ _ _ h
set_option maxHeartbeats 4000000 in
set_option maxRecDepth 100000 in
theorem w_X12_goes_L45 {E : v_E} {X : v_X} {sh : v_S} {P : v_P} {out : Int32 × v_M} (hL : v_Lay sh P) (hO : v_O E X cX12_goes RX12 11 2 (some .int) "goes" (v_Q1 (some (.int out.1)) sh P out.2)) (N : Nat) (n : Nat) : ∀ (x2 : Int32) (x3 : Int32) (x4 : Int32) (x5 : Int32) (M : v_M), f_X12_goes_L45 N n x2 x3 x4 x5 M = some out → V E X (0, 0) 45 [(0, v_rf E 79), (2, .int x2), (3, .int x3), (4, .int x4), (5, .int x5)] [] sh P M := by
  have hK := hO.1
  induction n with
  | zero => intro x2 x3 x4 x5 M h; rw [f_X12_goes_L45] at h; cases h
  | succ n ih =>
    intro x2 x3 x4 x5 M h
    rw [f_X12_goes_L45] at h
    refine V.iload (pc := 45) (i := 5) hK rfl dX12_goes_45 ?_
    refine V.aload_n (pc := 47) (i := 0) hK rfl ⟨_, rfl⟩ dX12_goes_47 ?_
    refine V.getI (pc := 48) hK fl_RX12_236 rfl (hL.1 79 _ ls_79) dX12_goes_48 ?_
    refine V.icmp_ge (pc := 51) (tgt := 137) hK dX12_goes_51 (by decide) (fun c => ?_) (fun c => ?_)
    · rw [if_pos c] at h
      refine V.iconst (pc := 137) (v := 0) hK (by decide) dX12_goes_137 ?_
      refine V.istore (pc := 138) (i := 5) (lv' := [(0, _), (2, _), (3, _), (4, _), (5, _)]) hK (by decide) rfl dX12_goes_138 ?_
      refine V.pick [0, 2, 3, 4, 5] (l := [(0, _), (2, _), (3, _), (4, _), (5, _)]) rfl ?_
      exact w_X12_goes_L140 hL hO N N _ _ _ _ _ h
    · rw [if_neg c] at h
      refine V.aload_n (pc := 54) (i := 0) hK rfl ⟨_, rfl⟩ dX12_goes_54 ?_
      refine V.getR (pc := 55) hK fl_RX12_88 rfl (hL.1 79 _ ls_79) (hL.2 79 31 106 rfl) dX12_goes_55 ?_
      refine V.iload (pc := 58) (i := 5) hK rfl dX12_goes_58 ?_
      refine V.aload_n (pc := 60) (i := 0) hK rfl ⟨_, rfl⟩ dX12_goes_60 ?_
      refine V.getR (pc := 61) hK fl_RX12_9 rfl (hL.1 79 _ ls_79) (hL.2 79 4 80 rfl) dX12_goes_61 ?_
      refine V.iload (pc := 64) (i := 5) hK rfl dX12_goes_64 ?_
      obtain ⟨hb, h⟩ := v_ckS h
      refine V.iald (pc := 66) hK (hL.1 80 _ ls_80) (v_ibS hb) dX12_goes_66 ?_
      refine V.iconst (pc := 67) (v := 2) hK (by decide) dX12_goes_67 ?_
      refine V.icmp_ne (pc := 68) (tgt := 108) hK dX12_goes_68 (by decide) (fun c => ?_) (fun c => ?_)
      · rw [if_neg c] at h
        refine V.pick [0, 2, 3, 4, 5] (l := [(0, _), (2, _), (3, _), (4, _), (5, _)]) rfl ?_
        exact w_X12_goes_L108 hL hO N _ ih _ _ _ _ _ _ h
      · rw [if_pos c] at h
        refine V.aload_n (pc := 71) (i := 0) hK rfl ⟨_, rfl⟩ dX12_goes_71 ?_
        refine V.iload (pc := 72) (i := 5) hK rfl dX12_goes_72 ?_
        obtain ⟨z1, hz1, h⟩ := v_bdS h
        refine V.cV (pc := 74) (ci := 12) hK (c_X12_isOver E hL N _ _ hz1) Y_X12_isOver cv_RX12_278 (by decide) rfl (hL.1 79 _ ls_79) dX12_goes_74 (by decide) rfl (Nat.le_of_ble_eq_true rfl) ?_
        refine V.if_eq (pc := 77) (tgt := 108) hK dX12_goes_77 (by decide) (fun c => ?_) (fun c => ?_)
        · rw [if_pos c] at h
          refine V.pick [0, 2, 3, 4, 5] (l := [(0, _), (2, _), (3, _), (4, _), (5, _)]) rfl ?_
          exact w_X12_goes_L108 hL hO N _ ih _ _ _ _ _ _ h
        · rw [if_neg c] at h
          refine V.aload_n (pc := 80) (i := 0) hK rfl ⟨_, rfl⟩ dX12_goes_80 ?_
          refine V.getR (pc := 81) hK fl_RX12_25 rfl (hL.1 79 _ ls_79) (hL.2 79 9 85 rfl) dX12_goes_81 ?_
          refine V.iload (pc := 84) (i := 5) hK rfl dX12_goes_84 ?_
          obtain ⟨hb, h⟩ := v_ckS h
          refine V.iald (pc := 86) hK (hL.1 85 _ ls_85) (v_ibS hb) dX12_goes_86 ?_
          refine V.iconst (pc := 87) (v := 5) hK (by decide) dX12_goes_87 ?_
          refine V.aload_n (pc := 88) (i := 0) hK rfl ⟨_, rfl⟩ dX12_goes_88 ?_
          refine V.getR (pc := 89) hK fl_RX12_67 rfl (hL.1 79 _ ls_79) (hL.2 79 23 99 rfl) dX12_goes_89 ?_
          refine V.iload (pc := 92) (i := 5) hK rfl dX12_goes_92 ?_
          obtain ⟨hb, h⟩ := v_ckS h
          refine V.iald (pc := 94) hK (hL.1 99 _ ls_99) (v_ibS hb) dX12_goes_94 ?_
          refine V.aload_n (pc := 95) (i := 0) hK rfl ⟨_, rfl⟩ dX12_goes_95 ?_
          refine V.getR (pc := 96) hK fl_RX12_55 rfl (hL.1 79 _ ls_79) (hL.2 79 19 95 rfl) dX12_goes_96 ?_
          refine V.iload (pc := 99) (i := 5) hK rfl dX12_goes_99 ?_
          obtain ⟨hb, h⟩ := v_ckS h
          refine V.iald (pc := 101) hK (hL.1 95 _ ls_95) (v_ibS hb) dX12_goes_101 ?_
          refine V.isub (pc := 102) hK dX12_goes_102 ?_
          refine V.imul (pc := 103) hK dX12_goes_103 ?_
          refine V.iadd (pc := 104) hK dX12_goes_104 ?_
          refine V.goto (pc := 105) (tgt := 109) hK dX12_goes_105 (by decide) ?_
          refine V.pick [0, 2, 3, 4, 5] (l := [(0, _), (2, _), (3, _), (4, _), (5, _)]) rfl ?_
          exact w_X12_goes_L109 hL hO N _ ih _ _ _ _ _ _ _ h
set_option maxHeartbeats 4000000 in
set_option maxRecDepth 100000 in
theorem c_X12_goes (E : v_E) {sh : v_S} {P : v_P} (hL : v_Lay sh P) (N : Nat) (x1 : Int32) (x2 : Int32) (x3 : Int32) (M : v_M) {out : Int32 × v_M} (h : f_X12_goes N x1 x2 x3 M = some out) : v_Ct E 2 yX12_goes cX12_goes 11 (some .int) 0 0 [v_rf E 79, .int x1, .int x2, .int x3] sh P M (v_Q1 (some (.int out.1)) sh P out.2) := by
  refine v_Ct.of (by decide +kernel) (Nat.le_of_ble_eq_true rfl) (fun X hO => ?_)
  have hK : v_K E X cX12_goes RX12 11 2 := hO.1
  have hO : v_O E X cX12_goes RX12 11 2 (some .int) "goes" (v_Q1 (some (.int out.1)) sh P out.2) := hO
  show V E X (0, 0) 0 [(0, v_rf E 79), (1, .int x1), (2, .int x2), (3, .int x3)] [] sh P M
  unfold f_X12_goes at h
  refine V.aload_n (pc := 0) (i := 0) hK rfl ⟨_, rfl⟩ dX12_goes_0 ?_
  refine V.iload_n (pc := 1) (i := 1) hK rfl dX12_goes_1 ?_
  obtain ⟨z1, hz1, h⟩ := v_bdS h
  refine V.cV (pc := 2) (ci := 12) hK (c_X12_isMachine E hL N _ _ hz1) Y_X12_isMachine cv_RX12_262 (by decide) rfl (hL.1 79 _ ls_79) dX12_goes_2 (by decide) rfl (Nat.le_of_ble_eq_true rfl) ?_
  refine V.if_eq (pc := 5) (tgt := 32) hK dX12_goes_5 (by decide) (fun c => ?_) (fun c => ?_)
  · rw [if_pos c] at h
    refine V.iconst (pc := 32) (v := -1) hK (by decide) dX12_goes_32 ?_
    exact V.iret (pc := 33) hO dX12_goes_33 (v_finI h)
  · rw [if_neg c] at h
    refine V.iload_n (pc := 8) (i := 2) hK rfl dX12_goes_8 ?_
    refine V.i2l (pc := 9) hK dX12_goes_9 ?_
    refine V.lconst (pc := 10) (v := 1) hK (by decide) dX12_goes_10 ?_
    refine V.ldc2 (pc := 11) hK tw_1421 dX12_goes_11 ?_
    obtain ⟨z2, hz2, h⟩ := v_bdS h
    refine V.cS (pc := 14) hK (c_X12_in E hL N _ _ _ _ hz2) Y_X12_in cs_RX12_229 dX12_goes_14 (by decide) rfl (Nat.le_of_ble_eq_true rfl) ?_
    refine V.if_eq (pc := 17) (tgt := 32) hK dX12_goes_17 (by decide) (fun c => ?_) (fun c => ?_)
    · rw [if_pos c] at h
      refine V.iconst (pc := 32) (v := -1) hK (by decide) dX12_goes_32 ?_
      exact V.iret (pc := 33) hO dX12_goes_33 (v_finI h)
    · rw [if_neg c] at h
      refine V.iload_n (pc := 20) (i := 3) hK rfl dX12_goes_20 ?_
      refine V.i2l (pc := 21) hK dX12_goes_21 ?_
      refine V.lconst (pc := 22) (v := 1) hK (by decide) dX12_goes_22 ?_
      refine V.ldc2 (pc := 23) hK tw_1423 dX12_goes_23 ?_
      obtain ⟨z3, hz3, h⟩ := v_bdS h
      refine V.cS (pc := 26) hK (c_X12_in E hL N _ _ _ _ hz3) Y_X12_in cs_RX12_229 dX12_goes_26 (by decide) rfl (Nat.le_of_ble_eq_true rfl) ?_
      refine V.if_ne (pc := 29) (tgt := 34) hK dX12_goes_29 (by decide) (fun c => ?_) (fun c => ?_)
      · rw [if_neg c] at h
        refine V.aload_n (pc := 34) (i := 0) hK rfl ⟨_, rfl⟩ dX12_goes_34 ?_
        refine V.iload_n (pc := 35) (i := 1) hK rfl dX12_goes_35 ?_
        obtain ⟨z4, hz4, h⟩ := v_bdS h
        refine V.cVv (pc := 36) (ci := 12) hK (c_X12_takes E hL N _ _ hz4) Y_X12_takes cv_RX12_270 (by decide) rfl (hL.1 79 _ ls_79) dX12_goes_36 (by decide) rfl (Nat.le_of_ble_eq_true rfl) ?_
        refine V.iconst (pc := 39) (v := 0) hK (by decide) dX12_goes_39 ?_
        refine V.istore (pc := 40) (i := 4) (lv' := [(0, _), (1, _), (2, _), (3, _), (4, _)]) hK (by decide) rfl dX12_goes_40 ?_
        refine V.iconst (pc := 42) (v := 0) hK (by decide) dX12_goes_42 ?_
        refine V.istore (pc := 43) (i := 5) (lv' := [(0, _), (1, _), (2, _), (3, _), (4, _), (5, _)]) hK (by decide) rfl dX12_goes_43 ?_
        refine V.pick [0, 2, 3, 4, 5] (l := [(0, _), (2, _), (3, _), (4, _), (5, _)]) rfl ?_
        exact w_X12_goes_L45 hL hO N N _ _ _ _ _ h
      · rw [if_pos c] at h
        refine V.iconst (pc := 32) (v := -1) hK (by decide) dX12_goes_32 ?_
        exact V.iret (pc := 33) hO dX12_goes_33 (v_finI h)
set_option maxHeartbeats 4000000 in
set_option maxRecDepth 100000 in
theorem w_X12_floor_L143 {E : v_E} {X : v_X} {sh : v_S} {P : v_P} {out : Int32 × v_M} (hL : v_Lay sh P) (hO : v_O E X cX12_floor RX12 10 1 (some .int) "floor" (v_Q1 (some (.int out.1)) sh P out.2)) (N : Nat) (x6 : Int32) (t0 : Int32) (M : v_M) (h : f_X12_floor_L143 N x6 t0 M = some out) : V E X (0, 0) 143 [(6, .int x6)] [.int t0] sh P M := by
  have hK := hO.1
  unfold f_X12_floor_L143 at h
  refine V.istore (pc := 143) (i := 9) (lv' := [(6, _), (9, _)]) hK (by decide) rfl dX12_floor_143 ?_
  refine V.iload (pc := 145) (i := 9) hK rfl dX12_floor_145 ?_
  refine V.iload (pc := 147) (i := 6) hK rfl dX12_floor_147 ?_
  refine V.icmp_ge (pc := 149) (tgt := 157) hK dX12_floor_149 (by decide) (fun c => ?_) (fun c => ?_)
  · rw [if_pos c] at h
    refine V.iload (pc := 157) (i := 6) hK rfl dX12_floor_157 ?_
    exact V.iret (pc := 159) hO dX12_floor_159 (v_finI h)
  · rw [if_neg c] at h
    refine V.iload (pc := 152) (i := 9) hK rfl dX12_floor_152 ?_
    refine V.goto (pc := 154) (tgt := 159) hK dX12_floor_154 (by decide) ?_
    exact V.iret (pc := 159) hO dX12_floor_159 (v_finI h)
set_option maxHeartbeats 4000000 in
set_option maxRecDepth 100000 in
theorem c_X12_floor (E : v_E) {sh : v_S} {P : v_P} (hL : v_Lay sh P) (N : Nat) (x1 : Int32) (x2 : Int32) (x3 : Int32) (x4 : Int32) (x5 : Int32) (x6 : Int32) (x7 : Int32) (M : v_M) {out : Int32 × v_M} (h : f_X12_floor N x1 x2 x3 x4 x5 x6 x7 M = some out) : v_Ct E 1 yX12_floor cX12_floor 10 (some .int) 0 0 [v_rf E 79, .int x1, .int x2, .int x3, .int x4, .int x5, .int x6, .int x7] sh P M (v_Q1 (some (.int out.1)) sh P out.2) := by
  refine v_Ct.of (by decide +kernel) (Nat.le_of_ble_eq_true rfl) (fun X hO => ?_)
  have hK : v_K E X cX12_floor RX12 10 1 := hO.1
  have hO : v_O E X cX12_floor RX12 10 1 (some .int) "floor" (v_Q1 (some (.int out.1)) sh P out.2) := hO
  show V E X (0, 0) 0 [(0, v_rf E 79), (1, .int x1), (2, .int x2), (3, .int x3), (4, .int x4), (5, .int x5), (6, .int x6), (7, .int x7)] [] sh P M
  unfold f_X12_floor at h
  refine V.iload_n (pc := 0) (i := 1) hK rfl dX12_floor_0 ?_
  refine V.i2l (pc := 1) hK dX12_floor_1 ?_
  refine V.lconst (pc := 2) (v := 0) hK (by decide) dX12_floor_2 ?_
  refine V.ldc2 (pc := 3) hK tw_1529 dX12_floor_3 ?_
  obtain ⟨z1, hz1, h⟩ := v_bdS h
  refine V.cS (pc := 6) hK (c_X12_in E hL N _ _ _ _ hz1) Y_X12_in cs_RX12_229 dX12_floor_6 (by decide) rfl (Nat.le_of_ble_eq_true rfl) ?_
  refine V.if_eq (pc := 9) (tgt := 86) hK dX12_floor_9 (by decide) (fun c => ?_) (fun c => ?_)
  · rw [if_pos c] at h
    refine V.iconst (pc := 86) (v := -1) hK (by decide) dX12_floor_86 ?_
    exact V.iret (pc := 87) hO dX12_floor_87 (v_finI h)
  · rw [if_neg c] at h
    refine V.iload_n (pc := 12) (i := 2) hK rfl dX12_floor_12 ?_
    refine V.i2l (pc := 13) hK dX12_floor_13 ?_
    refine V.lconst (pc := 14) (v := 1) hK (by decide) dX12_floor_14 ?_
    refine V.ldc2 (pc := 15) hK tw_1421 dX12_floor_15 ?_
    obtain ⟨z2, hz2, h⟩ := v_bdS h
    refine V.cS (pc := 18) hK (c_X12_in E hL N _ _ _ _ hz2) Y_X12_in cs_RX12_229 dX12_floor_18 (by decide) rfl (Nat.le_of_ble_eq_true rfl) ?_
    refine V.if_eq (pc := 21) (tgt := 86) hK dX12_floor_21 (by decide) (fun c => ?_) (fun c => ?_)
    · rw [if_pos c] at h
      refine V.iconst (pc := 86) (v := -1) hK (by decide) dX12_floor_86 ?_
      exact V.iret (pc := 87) hO dX12_floor_87 (v_finI h)
    · rw [if_neg c] at h
      refine V.iload_n (pc := 24) (i := 3) hK rfl dX12_floor_24 ?_
      refine V.i2l (pc := 25) hK dX12_floor_25 ?_
      refine V.lconst (pc := 26) (v := 0) hK (by decide) dX12_floor_26 ?_
      refine V.ldc2 (pc := 27) hK tw_1530 dX12_floor_27 ?_
      obtain ⟨z3, hz3, h⟩ := v_bdS h
      refine V.cS (pc := 30) hK (c_X12_in E hL N _ _ _ _ hz3) Y_X12_in cs_RX12_229 dX12_floor_30 (by decide) rfl (Nat.le_of_ble_eq_true rfl) ?_
      refine V.if_eq (pc := 33) (tgt := 86) hK dX12_floor_33 (by decide) (fun c => ?_) (fun c => ?_)
      · rw [if_pos c] at h
        refine V.iconst (pc := 86) (v := -1) hK (by decide) dX12_floor_86 ?_
        exact V.iret (pc := 87) hO dX12_floor_87 (v_finI h)
      · rw [if_neg c] at h
        refine V.iload (pc := 36) (i := 4) hK rfl dX12_floor_36 ?_
        refine V.i2l (pc := 38) hK dX12_floor_38 ?_
        refine V.lconst (pc := 39) (v := 0) hK (by decide) dX12_floor_39 ?_
        refine V.ldc2 (pc := 40) hK tw_1421 dX12_floor_40 ?_
        obtain ⟨z4, hz4, h⟩ := v_bdS h
        refine V.cS (pc := 43) hK (c_X12_in E hL N _ _ _ _ hz4) Y_X12_in cs_RX12_229 dX12_floor_43 (by decide) rfl (Nat.le_of_ble_eq_true rfl) ?_
        refine V.if_eq (pc := 46) (tgt := 86) hK dX12_floor_46 (by decide) (fun c => ?_) (fun c => ?_)
        · rw [if_pos c] at h
          refine V.iconst (pc := 86) (v := -1) hK (by decide) dX12_floor_86 ?_
          exact V.iret (pc := 87) hO dX12_floor_87 (v_finI h)
        · rw [if_neg c] at h
          refine V.iload (pc := 49) (i := 5) hK rfl dX12_floor_49 ?_
          refine V.i2l (pc := 51) hK dX12_floor_51 ?_
          refine V.lconst (pc := 52) (v := 0) hK (by decide) dX12_floor_52 ?_
          refine V.ldc2 (pc := 53) hK tw_1529 dX12_floor_53 ?_
          obtain ⟨z5, hz5, h⟩ := v_bdS h
          refine V.cS (pc := 56) hK (c_X12_in E hL N _ _ _ _ hz5) Y_X12_in cs_RX12_229 dX12_floor_56 (by decide) rfl (Nat.le_of_ble_eq_true rfl) ?_
          refine V.if_eq (pc := 59) (tgt := 86) hK dX12_floor_59 (by decide) (fun c => ?_) (fun c => ?_)
          · rw [if_pos c] at h
            refine V.iconst (pc := 86) (v := -1) hK (by decide) dX12_floor_86 ?_
            exact V.iret (pc := 87) hO dX12_floor_87 (v_finI h)
          · rw [if_neg c] at h
            refine V.iload (pc := 62) (i := 6) hK rfl dX12_floor_62 ?_
            refine V.i2l (pc := 64) hK dX12_floor_64 ?_
            refine V.lconst (pc := 65) (v := 0) hK (by decide) dX12_floor_65 ?_
            refine V.ldc2 (pc := 66) hK tw_1531 dX12_floor_66 ?_
            obtain ⟨z6, hz6, h⟩ := v_bdS h
            refine V.cS (pc := 69) hK (c_X12_in E hL N _ _ _ _ hz6) Y_X12_in cs_RX12_229 dX12_floor_69 (by decide) rfl (Nat.le_of_ble_eq_true rfl) ?_
            refine V.if_eq (pc := 72) (tgt := 86) hK dX12_floor_72 (by decide) (fun c => ?_) (fun c => ?_)
            · rw [if_pos c] at h
              refine V.iconst (pc := 86) (v := -1) hK (by decide) dX12_floor_86 ?_
              exact V.iret (pc := 87) hO dX12_floor_87 (v_finI h)
            · rw [if_neg c] at h
              refine V.iload (pc := 75) (i := 7) hK rfl dX12_floor_75 ?_
              refine V.i2l (pc := 77) hK dX12_floor_77 ?_
              refine V.lconst (pc := 78) (v := 0) hK (by decide) dX12_floor_78 ?_
              refine V.lconst (pc := 79) (v := 1) hK (by decide) dX12_floor_79 ?_
              obtain ⟨z7, hz7, h⟩ := v_bdS h
              refine V.cS (pc := 80) hK (c_X12_in E hL N _ _ _ _ hz7) Y_X12_in cs_RX12_229 dX12_floor_80 (by decide) rfl (Nat.le_of_ble_eq_true rfl) ?_
              refine V.if_ne (pc := 83) (tgt := 88) hK dX12_floor_83 (by decide) (fun c => ?_) (fun c => ?_)
              · rw [if_neg c] at h
                refine V.iload_n (pc := 88) (i := 1) hK rfl dX12_floor_88 ?_
                refine V.iload_n (pc := 89) (i := 2) hK rfl dX12_floor_89 ?_
                refine V.imul (pc := 90) hK dX12_floor_90 ?_
                refine V.bipush (pc := 91) (v := 10) hK (by decide) dX12_floor_91 ?_
                refine V.imul (pc := 93) hK dX12_floor_93 ?_
                refine V.iload_n (pc := 94) (i := 3) hK rfl dX12_floor_94 ?_
                refine V.bipush (pc := 95) (v := 50) hK (by decide) dX12_floor_95 ?_
                refine V.iload (pc := 97) (i := 4) hK rfl dX12_floor_97 ?_
                refine V.imul (pc := 99) hK dX12_floor_99 ?_
                refine V.iadd (pc := 100) hK dX12_floor_100 ?_
                refine V.bipush (pc := 101) (v := 20) hK (by decide) dX12_floor_101 ?_
                refine V.iload (pc := 103) (i := 5) hK rfl dX12_floor_103 ?_
                refine V.imul (pc := 105) hK dX12_floor_105 ?_
                refine V.isub (pc := 106) hK dX12_floor_106 ?_
                refine V.isub (pc := 107) hK dX12_floor_107 ?_
                refine V.topi (fun y8 ey8 => ?_)
                have h := v_lt ey8 h
                refine V.istore (pc := 108) (i := 8) (lv' := [(0, _), (1, _), (2, _), (3, _), (4, _), (5, _), (6, _), (7, _), (8, _)]) hK (by decide) rfl dX12_floor_108 ?_
                refine V.iload (pc := 110) (i := 7) hK rfl dX12_floor_110 ?_
                refine V.if_ne (pc := 112) (tgt := 126) hK dX12_floor_112 (by decide) (fun c => ?_) (fun c => ?_)
                · rw [if_neg c] at h
                  refine V.iload (pc := 126) (i := 8) hK rfl dX12_floor_126 ?_
                  refine V.if_le (pc := 128) (tgt := 142) hK dX12_floor_128 (by decide) (fun c => ?_) (fun c => ?_)
                  · rw [if_pos c] at h
                    refine V.iconst (pc := 142) (v := 0) hK (by decide) dX12_floor_142 ?_
                    refine V.pick [6] (l := [(6, _)]) rfl ?_
                    exact w_X12_floor_L143 hL hO N _ _ _ h
                  · rw [if_neg c] at h
                    refine V.iload (pc := 131) (i := 8) hK rfl dX12_floor_131 ?_
                    refine V.bipush (pc := 133) (v := 99) hK (by decide) dX12_floor_133 ?_
                    refine V.iadd (pc := 135) hK dX12_floor_135 ?_
                    refine V.bipush (pc := 136) (v := 100) hK (by decide) dX12_floor_136 ?_
                    obtain ⟨hb, h⟩ := v_ckS h
                    refine V.idiv (pc := 138) hK (v_nzS hb) dX12_floor_138 ?_
                    refine V.goto (pc := 139) (tgt := 143) hK dX12_floor_139 (by decide) ?_
                    refine V.pick [6] (l := [(6, _)]) rfl ?_
                    exact w_X12_floor_L143 hL hO N _ _ _ h
                · rw [if_pos c] at h
                  refine V.iload (pc := 115) (i := 8) hK rfl dX12_floor_115 ?_
                  refine V.if_le (pc := 117) (tgt := 124) hK dX12_floor_117 (by decide) (fun c => ?_) (fun c => ?_)
                  · rw [if_pos c] at h
                    refine V.iconst (pc := 124) (v := 0) hK (by decide) dX12_floor_124 ?_
                    exact V.iret (pc := 125) hO dX12_floor_125 (v_finI h)
                  · rw [if_neg c] at h
                    refine V.iconst (pc := 120) (v := 1) hK (by decide) dX12_floor_120 ?_
                    refine V.goto (pc := 121) (tgt := 125) hK dX12_floor_121 (by decide) ?_
                    exact V.iret (pc := 125) hO dX12_floor_125 (v_finI h)
              · rw [if_pos c] at h
                refine V.iconst (pc := 86) (v := -1) hK (by decide) dX12_floor_86 ?_
                exact V.iret (pc := 87) hO dX12_floor_87 (v_finI h)
set_option maxHeartbeats 4000000 in
set_option maxRecDepth 100000 in
theorem w_X12_put_L3 {E : v_E} {X : v_X} {sh : v_S} {P : v_P} {out : Int32 × v_M} (hL : v_Lay sh P) (hO : v_O E X cX12_put RX12 3 0 none "put" (v_Q1 (none) sh P out.2)) (N : Nat) (n : Nat) : ∀ (x1 : Int32) (x2 : Int32) (M : v_M), f_X12_put_L3 N n x1 x2 M = some out → V E X (0, 0) 3 [(0, v_rf E 79), (1, .int x1), (2, .int x2)] [] sh P M := by
  have hK := hO.1
  induction n with
  | zero => intro x1 x2 M h; rw [f_X12_put_L3] at h; cases h
  | succ n ih =>
    intro x1 x2 M h
    rw [f_X12_put_L3] at h
    refine V.iload_n (pc := 3) (i := 2) hK rfl dX12_put_3 ?_
    refine V.if_lt (pc := 4) (tgt := 36) hK dX12_put_4 (by decide) (fun c => ?_) (fun c => ?_)
    · rw [if_pos c] at h
      exact V.vret (pc := 36) hO dX12_put_36 (v_finV h)
    · rw [if_neg c] at h
      refine V.aload_n (pc := 7) (i := 0) hK rfl ⟨_, rfl⟩ dX12_put_7 ?_
      refine V.getR (pc := 8) hK fl_RX12_91 rfl (hL.1 79 _ ls_79) (hL.2 79 40 107 rfl) dX12_put_8 ?_
      refine V.aload_n (pc := 11) (i := 0) hK rfl ⟨_, rfl⟩ dX12_put_11 ?_
      refine V.getI (pc := 12) hK fl_RX12_322 rfl (hL.1 79 _ ls_79) dX12_put_12 ?_
      refine V.iload_n (pc := 15) (i := 1) hK rfl dX12_put_15 ?_
      refine V.iload_n (pc := 16) (i := 2) hK rfl dX12_put_16 ?_
      refine V.ishr (pc := 17) hK dX12_put_17 ?_
      refine V.i2b (pc := 18) hK dX12_put_18 ?_
      obtain ⟨hb, h⟩ := v_ckS h
      refine V.bast (pc := 19) hK (hL.1 107 _ ls_107) (v_ibS hb) dX12_put_19 ?_
      refine V.nmM (fun M1 eM1 => ?_)
      have h := v_lt eM1 h
      refine V.aload_n (pc := 20) (i := 0) hK rfl ⟨_, rfl⟩ dX12_put_20 ?_
      refine V.dup (pc := 21) hK rfl dX12_put_21 ?_
      refine V.getI (pc := 22) hK fl_RX12_322 rfl (hL.1 79 _ ls_79) dX12_put_22 ?_
      refine V.iconst (pc := 25) (v := 1) hK (by decide) dX12_put_25 ?_
      refine V.iadd (pc := 26) hK dX12_put_26 ?_
      refine V.putI (pc := 27) hK fl_RX12_322 rfl rfl ⟨rfl, rfl⟩ (hL.1 79 _ ls_79) dX12_put_27 ?_
      refine V.nmM (fun M2 eM2 => ?_)
      have h := v_lt eM2 h
      refine V.iinc (pc := 30) (i := 2) (v := -8) (lv' := [(0, _), (1, _), (2, _)]) hK rfl (by decide) (by decide) rfl dX12_put_30 ?_
      refine V.goto (pc := 33) (tgt := 3) hK dX12_put_33 (by decide) ?_
      refine V.pick [0, 1, 2] (l := [(0, _), (1, _), (2, _)]) rfl ?_
      exact ih _ _ _ h
set_option maxHeartbeats 4000000 in
set_option maxRecDepth 100000 in
theorem c_X12_put (E : v_E) {sh : v_S} {P : v_P} (hL : v_Lay sh P) (N : Nat) (x1 : Int32) (M : v_M) {out : Int32 × v_M} (h : f_X12_put N x1 M = some out) : v_Ct E 0 yX12_put cX12_put 3 none 0 0 [v_rf E 79, .int x1] sh P M (v_Q1 (none) sh P out.2) := by
  refine v_Ct.of (by decide +kernel) (Nat.le_of_ble_eq_true rfl) (fun X hO => ?_)
  have hK : v_K E X cX12_put RX12 3 0 := hO.1
  have hO : v_O E X cX12_put RX12 3 0 none "put" (v_Q1 (none) sh P out.2) := hO
  show V E X (0, 0) 0 [(0, v_rf E 79), (1, .int x1)] [] sh P M
  unfold f_X12_put at h
  refine V.bipush (pc := 0) (v := 24) hK (by decide) dX12_put_0 ?_
  refine V.istore_n (pc := 2) (i := 2) (lv' := [(0, _), (1, _), (2, _)]) hK (by decide) rfl dX12_put_2 ?_
  refine V.pick [0, 1, 2] (l := [(0, _), (1, _), (2, _)]) rfl ?_
  exact w_X12_put_L3 hL hO N N _ _ _ h
set_option maxHeartbeats 4000000 in
set_option maxRecDepth 100000 in
theorem c_X12_end (E : v_E) {sh : v_S} {P : v_P} (hL : v_Lay sh P) (N : Nat) (x1 : Int32) (M : v_M) {out : Int32 × v_M} (h : f_X12_end N x1 M = some out) : v_Ct E 0 yX12_end cX12_end 2 (some .int) 0 0 [v_rf E 79, .int x1] sh P M (v_Q1 (some (.int out.1)) sh P out.2) := by
  refine v_Ct.of (by decide +kernel) (Nat.le_of_ble_eq_true rfl) (fun X hO => ?_)
  have hK : v_K E X cX12_end RX12 2 0 := hO.1
  have hO : v_O E X cX12_end RX12 2 0 (some .int) "end" (v_Q1 (some (.int out.1)) sh P out.2) := hO
  show V E X (0, 0) 0 [(0, v_rf E 79), (1, .int x1)] [] sh P M
  unfold f_X12_end at h
  refine V.iload_n (pc := 0) (i := 1) hK rfl dX12_end_0 ?_
  refine V.if_lt (pc := 1) (tgt := 12) hK dX12_end_1 (by decide) (fun c => ?_) (fun c => ?_)
  · rw [if_pos c] at h
    refine V.iconst (pc := 12) (v := -1) hK (by decide) dX12_end_12 ?_
    exact V.iret (pc := 13) hO dX12_end_13 (v_finI h)
  · rw [if_neg c] at h
    refine V.iload_n (pc := 4) (i := 1) hK rfl dX12_end_4 ?_
    refine V.aload_n (pc := 5) (i := 0) hK rfl ⟨_, rfl⟩ dX12_end_5 ?_
    refine V.getI (pc := 6) hK fl_RX12_322 rfl (hL.1 79 _ ls_79) dX12_end_6 ?_
    refine V.icmp_le (pc := 9) (tgt := 14) hK dX12_end_9 (by decide) (fun c => ?_) (fun c => ?_)
    · rw [if_pos c] at h
      refine V.aload_n (pc := 14) (i := 0) hK rfl ⟨_, rfl⟩ dX12_end_14 ?_
      refine V.iload_n (pc := 15) (i := 1) hK rfl dX12_end_15 ?_
      refine V.putI (pc := 16) hK fl_RX12_322 rfl rfl ⟨rfl, rfl⟩ (hL.1 79 _ ls_79) dX12_end_16 ?_
      refine V.nmM (fun M1 eM1 => ?_)
      have h := v_lt eM1 h
      refine V.iload_n (pc := 19) (i := 1) hK rfl dX12_end_19 ?_
      exact V.iret (pc := 20) hO dX12_end_20 (v_finI h)
    · rw [if_neg c] at h
      refine V.iconst (pc := 12) (v := -1) hK (by decide) dX12_end_12 ?_
      exact V.iret (pc := 13) hO dX12_end_13 (v_finI h)
set_option maxHeartbeats 4000000 in
set_option maxRecDepth 100000 in
theorem c_X12_wordOf (E : v_E) {sh : v_S} {P : v_P} (hL : v_Lay sh P) (N : Nat) (x0 : Int32) (M : v_M) {out : Nat × v_M} (h : f_X12_wordOf N x0 M = some out) : v_Ct E 0 yX12_wordOf cX12_wordOf 1 (some (.object "java/lang/String")) 0 0 [.int x0] sh P M (v_Q1 (some (v_st E out.1)) sh P out.2) := by
  refine v_Ct.of (by decide +kernel) (Nat.le_of_ble_eq_true rfl) (fun X hO => ?_)
  have hK : v_K E X cX12_wordOf RX12 1 0 := hO.1
  have hO : v_O E X cX12_wordOf RX12 1 0 (some (.object "java/lang/String")) "wordOf" (v_Q1 (some (v_st E out.1)) sh P out.2) := hO
  show V E X (0, 0) 0 [(0, .int x0)] [] sh P M
  unfold f_X12_wordOf at h
  refine V.iload_n (pc := 0) (i := 0) hK rfl dX12_wordOf_0 ?_
  by_cases c0 : x0 = (0 : Int32)
  · rw [if_pos c0] at h
    refine V.tableIn (pc := 1) (off := 39) (tgt := 40) hK dX12_wordOf_1 (by rw [c0]; decide) (by rw [c0]; decide) (by rw [c0]; decide) (by decide) ?_
    refine V.ldcwS (pc := 40) (i := 6) hK (show v_sx[6]? = some (RX12, _, _) from rfl) dX12_wordOf_40 ?_
    exact V.aret (pc := 43) hO (Or.inl ⟨_, rfl⟩) (Or.inr ⟨_, rfl⟩) dX12_wordOf_43 (v_finS h)
  · rw [if_neg c0] at h
    by_cases c1 : x0 = (1 : Int32)
    · rw [if_pos c1] at h
      refine V.tableIn (pc := 1) (off := 43) (tgt := 44) hK dX12_wordOf_1 (by rw [c1]; decide) (by rw [c1]; decide) (by rw [c1]; decide) (by decide) ?_
      refine V.ldcwS (pc := 44) (i := 7) hK (show v_sx[7]? = some (RX12, _, _) from rfl) dX12_wordOf_44 ?_
      exact V.aret (pc := 47) hO (Or.inl ⟨_, rfl⟩) (Or.inr ⟨_, rfl⟩) dX12_wordOf_47 (v_finS h)
    · rw [if_neg c1] at h
      by_cases c2 : x0 = (2 : Int32)
      · rw [if_pos c2] at h
        refine V.tableIn (pc := 1) (off := 47) (tgt := 48) hK dX12_wordOf_1 (by rw [c2]; decide) (by rw [c2]; decide) (by rw [c2]; decide) (by decide) ?_
        refine V.ldcwS (pc := 48) (i := 8) hK (show v_sx[8]? = some (RX12, _, _) from rfl) dX12_wordOf_48 ?_
        exact V.aret (pc := 51) hO (Or.inl ⟨_, rfl⟩) (Or.inr ⟨_, rfl⟩) dX12_wordOf_51 (v_finS h)
      · rw [if_neg c2] at h
        by_cases c3 : x0 = (3 : Int32)
        · rw [if_pos c3] at h
          refine V.tableIn (pc := 1) (off := 51) (tgt := 52) hK dX12_wordOf_1 (by rw [c3]; decide) (by rw [c3]; decide) (by rw [c3]; decide) (by decide) ?_
          refine V.ldcwS (pc := 52) (i := 9) hK (show v_sx[9]? = some (RX12, _, _) from rfl) dX12_wordOf_52 ?_
          exact V.aret (pc := 55) hO (Or.inl ⟨_, rfl⟩) (Or.inr ⟨_, rfl⟩) dX12_wordOf_55 (v_finS h)
        · rw [if_neg c3] at h
          by_cases c4 : x0 = (4 : Int32)
          · rw [if_pos c4] at h
            refine V.tableIn (pc := 1) (off := 55) (tgt := 56) hK dX12_wordOf_1 (by rw [c4]; decide) (by rw [c4]; decide) (by rw [c4]; decide) (by decide) ?_
            refine V.ldcwS (pc := 56) (i := 10) hK (show v_sx[10]? = some (RX12, _, _) from rfl) dX12_wordOf_56 ?_
            exact V.aret (pc := 59) hO (Or.inl ⟨_, rfl⟩) (Or.inr ⟨_, rfl⟩) dX12_wordOf_59 (v_finS h)
          · rw [if_neg c4] at h
            by_cases c5 : x0 = (5 : Int32)
            · rw [if_pos c5] at h
              refine V.tableIn (pc := 1) (off := 59) (tgt := 60) hK dX12_wordOf_1 (by rw [c5]; decide) (by rw [c5]; decide) (by rw [c5]; decide) (by decide) ?_
              refine V.ldcwS (pc := 60) (i := 11) hK (show v_sx[11]? = some (RX12, _, _) from rfl) dX12_wordOf_60 ?_
              exact V.aret (pc := 63) hO (Or.inl ⟨_, rfl⟩) (Or.inr ⟨_, rfl⟩) dX12_wordOf_63 (v_finS h)
            · rw [if_neg c5] at h
              refine V.tableOut (pc := 1) (tgt := 64) hK dX12_wordOf_1 (v_tout (fun i i1 i2 => ?_)) (by decide) ?_
              · rcases (show i = 0 ∨ i = 1 ∨ i = 2 ∨ i = 3 ∨ i = 4 ∨ i = 5 by omega) with rfl | rfl | rfl | rfl | rfl | rfl
                · exact v_tne (by decide) c0
                · exact v_tne (by decide) c1
                · exact v_tne (by decide) c2
                · exact v_tne (by decide) c3
                · exact v_tne (by decide) c4
                · exact v_tne (by decide) c5
              · refine V.ldcwS (pc := 64) (i := 12) hK (show v_sx[12]? = some (RX12, _, _) from rfl) dX12_wordOf_64 ?_
                exact V.aret (pc := 67) hO (Or.inl ⟨_, rfl⟩) (Or.inr ⟨_, rfl⟩) dX12_wordOf_67 (v_finS h)
set_option maxHeartbeats 4000000 in
set_option maxRecDepth 100000 in
theorem c_X12_clauseOf (E : v_E) {sh : v_S} {P : v_P} (hL : v_Lay sh P) (N : Nat) (x0 : Int32) (M : v_M) {out : Nat × v_M} (h : f_X12_clauseOf N x0 M = some out) : v_Ct E 0 yX12_clauseOf cX12_clauseOf 1 (some (.object "java/lang/String")) 0 0 [.int x0] sh P M (v_Q1 (some (v_st E out.1)) sh P out.2) := by
  refine v_Ct.of (by decide +kernel) (Nat.le_of_ble_eq_true rfl) (fun X hO => ?_)
  have hK : v_K E X cX12_clauseOf RX12 1 0 := hO.1
  have hO : v_O E X cX12_clauseOf RX12 1 0 (some (.object "java/lang/String")) "clauseOf" (v_Q1 (some (v_st E out.1)) sh P out.2) := hO
  show V E X (0, 0) 0 [(0, .int x0)] [] sh P M
  unfold f_X12_clauseOf at h
  refine V.iload_n (pc := 0) (i := 0) hK rfl dX12_clauseOf_0 ?_
  refine V.if_ne (pc := 1) (tgt := 10) hK dX12_clauseOf_1 (by decide) (fun c => ?_) (fun c => ?_)
  · rw [if_neg c] at h
    refine V.iload_n (pc := 10) (i := 0) hK rfl dX12_clauseOf_10 ?_
    refine V.iconst (pc := 11) (v := 1) hK (by decide) dX12_clauseOf_11 ?_
    refine V.icmp_ne (pc := 12) (tgt := 21) hK dX12_clauseOf_12 (by decide) (fun c => ?_) (fun c => ?_)
    · rw [if_neg c] at h
      refine V.iload_n (pc := 21) (i := 0) hK rfl dX12_clauseOf_21 ?_
      refine V.iconst (pc := 22) (v := 2) hK (by decide) dX12_clauseOf_22 ?_
      refine V.icmp_ne (pc := 23) (tgt := 32) hK dX12_clauseOf_23 (by decide) (fun c => ?_) (fun c => ?_)
      · rw [if_neg c] at h
        refine V.ldcwS (pc := 32) (i := 4) hK (show v_sx[4]? = some (RX12, _, _) from rfl) dX12_clauseOf_32 ?_
        exact V.aret (pc := 35) hO (Or.inl ⟨_, rfl⟩) (Or.inr ⟨_, rfl⟩) dX12_clauseOf_35 (v_finS h)
      · rw [if_pos c] at h
        refine V.ldcwS (pc := 26) (i := 3) hK (show v_sx[3]? = some (RX12, _, _) from rfl) dX12_clauseOf_26 ?_
        refine V.goto (pc := 29) (tgt := 35) hK dX12_clauseOf_29 (by decide) ?_
        exact V.aret (pc := 35) hO (Or.inl ⟨_, rfl⟩) (Or.inr ⟨_, rfl⟩) dX12_clauseOf_35 (v_finS h)
    · rw [if_pos c] at h
      refine V.ldcwS (pc := 15) (i := 2) hK (show v_sx[2]? = some (RX12, _, _) from rfl) dX12_clauseOf_15 ?_
      refine V.goto (pc := 18) (tgt := 35) hK dX12_clauseOf_18 (by decide) ?_
      exact V.aret (pc := 35) hO (Or.inl ⟨_, rfl⟩) (Or.inr ⟨_, rfl⟩) dX12_clauseOf_35 (v_finS h)
  · rw [if_pos c] at h
    refine V.ldcwS (pc := 4) (i := 1) hK (show v_sx[1]? = some (RX12, _, _) from rfl) dX12_clauseOf_4 ?_
    refine V.goto (pc := 7) (tgt := 35) hK dX12_clauseOf_7 (by decide) ?_
    exact V.aret (pc := 35) hO (Or.inl ⟨_, rfl⟩) (Or.inr ⟨_, rfl⟩) dX12_clauseOf_35 (v_finS h)
set_option maxHeartbeats 4000000 in
set_option maxRecDepth 100000 in
theorem c_X12_thingOf (E : v_E) {sh : v_S} {P : v_P} (hL : v_Lay sh P) (N : Nat) (x0 : Int32) (M : v_M) {out : Nat × v_M} (h : f_X12_thingOf N x0 M = some out) : v_Ct E 0 yX12_thingOf cX12_thingOf 1 (some (.object "java/lang/String")) 0 0 [.int x0] sh P M (v_Q1 (some (v_st E out.1)) sh P out.2) := by
  refine v_Ct.of (by decide +kernel) (Nat.le_of_ble_eq_true rfl) (fun X hO => ?_)
  have hK : v_K E X cX12_thingOf RX12 1 0 := hO.1
  have hO : v_O E X cX12_thingOf RX12 1 0 (some (.object "java/lang/String")) "thingOf" (v_Q1 (some (v_st E out.1)) sh P out.2) := hO
  show V E X (0, 0) 0 [(0, .int x0)] [] sh P M
  unfold f_X12_thingOf at h
  refine V.iload_n (pc := 0) (i := 0) hK rfl dX12_thingOf_0 ?_
  refine V.if_ne (pc := 1) (tgt := 10) hK dX12_thingOf_1 (by decide) (fun c => ?_) (fun c => ?_)
  · rw [if_neg c] at h
    refine V.iload_n (pc := 10) (i := 0) hK rfl dX12_thingOf_10 ?_
    refine V.iconst (pc := 11) (v := 1) hK (by decide) dX12_thingOf_11 ?_
    refine V.icmp_ne (pc := 12) (tgt := 21) hK dX12_thingOf_12 (by decide) (fun c => ?_) (fun c => ?_)
    · rw [if_neg c] at h
      refine V.iload_n (pc := 21) (i := 0) hK rfl dX12_thingOf_21 ?_
      refine V.iconst (pc := 22) (v := 2) hK (by decide) dX12_thingOf_22 ?_
      refine V.icmp_ne (pc := 23) (tgt := 32) hK dX12_thingOf_23 (by decide) (fun c => ?_) (fun c => ?_)
      · rw [if_neg c] at h
        refine V.ldcwS (pc := 32) (i := 16) hK (show v_sx[16]? = some (RX12, _, _) from rfl) dX12_thingOf_32 ?_
        exact V.aret (pc := 35) hO (Or.inl ⟨_, rfl⟩) (Or.inr ⟨_, rfl⟩) dX12_thingOf_35 (v_finS h)
      · rw [if_pos c] at h
        refine V.ldcwS (pc := 26) (i := 15) hK (show v_sx[15]? = some (RX12, _, _) from rfl) dX12_thingOf_26 ?_
        refine V.goto (pc := 29) (tgt := 35) hK dX12_thingOf_29 (by decide) ?_
        exact V.aret (pc := 35) hO (Or.inl ⟨_, rfl⟩) (Or.inr ⟨_, rfl⟩) dX12_thingOf_35 (v_finS h)
    · rw [if_pos c] at h
      refine V.ldcwS (pc := 15) (i := 14) hK (show v_sx[14]? = some (RX12, _, _) from rfl) dX12_thingOf_15 ?_
      refine V.goto (pc := 18) (tgt := 35) hK dX12_thingOf_18 (by decide) ?_
      exact V.aret (pc := 35) hO (Or.inl ⟨_, rfl⟩) (Or.inr ⟨_, rfl⟩) dX12_thingOf_35 (v_finS h)
  · rw [if_pos c] at h
    refine V.ldcwS (pc := 4) (i := 13) hK (show v_sx[13]? = some (RX12, _, _) from rfl) dX12_thingOf_4 ?_
    refine V.goto (pc := 7) (tgt := 35) hK dX12_thingOf_7 (by decide) ?_
    exact V.aret (pc := 35) hO (Or.inl ⟨_, rfl⟩) (Or.inr ⟨_, rfl⟩) dX12_thingOf_35 (v_finS h)
set_option maxHeartbeats 4000000 in
set_option maxRecDepth 100000 in
theorem c_X12_fails (E : v_E) {sh : v_S} {P : v_P} (hL : v_Lay sh P) (N : Nat) (x1 : Int32) (x2 : Int32) (M : v_M) {out : Int32 × v_M} (h : f_X12_fails N x1 x2 M = some out) : v_Ct E 0 yX12_fails cX12_fails 3 none 0 0 [v_rf E 79, .int x1, .int x2] sh P M (v_Q1 (none) sh P out.2) := by
  refine v_Ct.of (by decide +kernel) (Nat.le_of_ble_eq_true rfl) (fun X hO => ?_)
  have hK : v_K E X cX12_fails RX12 3 0 := hO.1
  have hO : v_O E X cX12_fails RX12 3 0 none "fails" (v_Q1 (none) sh P out.2) := hO
  show V E X (0, 0) 0 [(0, v_rf E 79), (1, .int x1), (2, .int x2)] [] sh P M
  unfold f_X12_fails at h
  refine V.aload_n (pc := 0) (i := 0) hK rfl ⟨_, rfl⟩ dX12_fails_0 ?_
  refine V.aload_n (pc := 1) (i := 0) hK rfl ⟨_, rfl⟩ dX12_fails_1 ?_
  refine V.getI (pc := 2) hK fl_RX12_355 rfl (hL.1 79 _ ls_79) dX12_fails_2 ?_
  refine V.if_ne (pc := 5) (tgt := 19) hK dX12_fails_5 (by decide) (fun c => ?_) (fun c => ?_)
  · rw [if_neg c] at h
    refine V.aload_n (pc := 19) (i := 0) hK rfl ⟨_, rfl⟩ dX12_fails_19 ?_
    refine V.getI (pc := 20) hK fl_RX12_355 rfl (hL.1 79 _ ls_79) dX12_fails_20 ?_
    refine V.putI (pc := 23) hK fl_RX12_355 rfl rfl ⟨rfl, rfl⟩ (hL.1 79 _ ls_79) dX12_fails_23 ?_
    refine V.nmM (fun M1 eM1 => ?_)
    have h := v_lt eM1 h
    exact V.vret (pc := 26) hO dX12_fails_26 (v_finV h)
  · rw [if_pos c] at h
    refine V.iconst (pc := 8) (v := 1) hK (by decide) dX12_fails_8 ?_
    refine V.bipush (pc := 9) (v := 8) hK (by decide) dX12_fails_9 ?_
    refine V.iload_n (pc := 11) (i := 2) hK rfl dX12_fails_11 ?_
    refine V.imul (pc := 12) hK dX12_fails_12 ?_
    refine V.iadd (pc := 13) hK dX12_fails_13 ?_
    refine V.iload_n (pc := 14) (i := 1) hK rfl dX12_fails_14 ?_
    refine V.iadd (pc := 15) hK dX12_fails_15 ?_
    refine V.goto (pc := 16) (tgt := 23) hK dX12_fails_16 (by decide) ?_
    refine V.putI (pc := 23) hK fl_RX12_355 rfl rfl ⟨rfl, rfl⟩ (hL.1 79 _ ls_79) dX12_fails_23 ?_
    refine V.nmM (fun M2 eM2 => ?_)
    have h := v_lt eM2 h
    exact V.vret (pc := 26) hO dX12_fails_26 (v_finV h)
set_option maxHeartbeats 4000000 in
set_option maxRecDepth 100000 in
theorem c_X12_sign (E : v_E) {sh : v_S} {P : v_P} (hL : v_Lay sh P) (N : Nat) (M : v_M) {out : Int32 × v_M} (h : f_X12_sign N M = some out) : v_Ct E 0 yX12_sign cX12_sign 1 (some .int) 0 0 [v_rf E 79] sh P M (v_Q1 (some (.int out.1)) sh P out.2) := by
  refine v_Ct.of (by decide +kernel) (Nat.le_of_ble_eq_true rfl) (fun X hO => ?_)
  have hK : v_K E X cX12_sign RX12 1 0 := hO.1
  have hO : v_O E X cX12_sign RX12 1 0 (some .int) "sign" (v_Q1 (some (.int out.1)) sh P out.2) := hO
  show V E X (0, 0) 0 [(0, v_rf E 79)] [] sh P M
  unfold f_X12_sign at h
  refine V.aload_n (pc := 0) (i := 0) hK rfl ⟨_, rfl⟩ dX12_sign_0 ?_
  refine V.getI (pc := 1) hK fl_RX12_358 rfl (hL.1 79 _ ls_79) dX12_sign_1 ?_
  refine V.aload_n (pc := 4) (i := 0) hK rfl ⟨_, rfl⟩ dX12_sign_4 ?_
  refine V.getI (pc := 5) hK fl_RX12_322 rfl (hL.1 79 _ ls_79) dX12_sign_5 ?_
  refine V.icmp_ge (pc := 8) (tgt := 27) hK dX12_sign_8 (by decide) (fun c => ?_) (fun c => ?_)
  · rw [if_pos c] at h
    refine V.iconst (pc := 27) (v := -1) hK (by decide) dX12_sign_27 ?_
    exact V.iret (pc := 28) hO dX12_sign_28 (v_finI h)
  · rw [if_neg c] at h
    refine V.aload_n (pc := 11) (i := 0) hK rfl ⟨_, rfl⟩ dX12_sign_11 ?_
    refine V.getR (pc := 12) hK fl_RX12_91 rfl (hL.1 79 _ ls_79) (hL.2 79 40 107 rfl) dX12_sign_12 ?_
    refine V.aload_n (pc := 15) (i := 0) hK rfl ⟨_, rfl⟩ dX12_sign_15 ?_
    refine V.getI (pc := 16) hK fl_RX12_358 rfl (hL.1 79 _ ls_79) dX12_sign_16 ?_
    obtain ⟨hb, h⟩ := v_ckS h
    refine V.bald (pc := 19) hK (hL.1 107 _ ls_107) (v_ibS hb) dX12_sign_19 ?_
    refine V.sipush (pc := 20) (v := 255) hK (by decide) dX12_sign_20 ?_
    refine V.iand (pc := 23) hK dX12_sign_23 ?_
    refine V.goto (pc := 24) (tgt := 28) hK dX12_sign_24 (by decide) ?_
    exact V.iret (pc := 28) hO dX12_sign_28 (v_finI h)
set_option maxHeartbeats 4000000 in
set_option maxRecDepth 100000 in
theorem w_X12_blanks_L0 {E : v_E} {X : v_X} {sh : v_S} {P : v_P} {out : Int32 × v_M} (hL : v_Lay sh P) (hO : v_O E X cX12_blanks RX12 1 1 none "blanks" (v_Q1 (none) sh P out.2)) (N : Nat) (n : Nat) : ∀ (M : v_M), f_X12_blanks_L0 N n M = some out → V E X (0, 0) 0 [(0, v_rf E 79)] [] sh P M := by
  have hK := hO.1
  induction n with
  | zero => intro M h; rw [f_X12_blanks_L0] at h; cases h
  | succ n ih =>
    intro M h
    rw [f_X12_blanks_L0] at h
    refine V.aload_n (pc := 0) (i := 0) hK rfl ⟨_, rfl⟩ dX12_blanks_0 ?_
    obtain ⟨z1, hz1, h⟩ := v_bdS h
    refine V.cV (pc := 1) (ci := 12) hK (c_X12_sign E hL N _ hz1) Y_X12_sign cv_RX12_361 (by decide) rfl (hL.1 79 _ ls_79) dX12_blanks_1 (by decide) rfl (Nat.le_of_ble_eq_true rfl) ?_
    refine V.bipush (pc := 4) (v := 32) hK (by decide) dX12_blanks_4 ?_
    refine V.icmp_ne (pc := 6) (tgt := 22) hK dX12_blanks_6 (by decide) (fun c => ?_) (fun c => ?_)
    · rw [if_neg c] at h
      exact V.vret (pc := 22) hO dX12_blanks_22 (v_finV h)
    · rw [if_pos c] at h
      refine V.aload_n (pc := 9) (i := 0) hK rfl ⟨_, rfl⟩ dX12_blanks_9 ?_
      refine V.dup (pc := 10) hK rfl dX12_blanks_10 ?_
      refine V.getI (pc := 11) hK fl_RX12_358 rfl (hL.1 79 _ ls_79) dX12_blanks_11 ?_
      refine V.iconst (pc := 14) (v := 1) hK (by decide) dX12_blanks_14 ?_
      refine V.iadd (pc := 15) hK dX12_blanks_15 ?_
      refine V.putI (pc := 16) hK fl_RX12_358 rfl rfl ⟨rfl, rfl⟩ (hL.1 79 _ ls_79) dX12_blanks_16 ?_
      refine V.nmM (fun M2 eM2 => ?_)
      have h := v_lt eM2 h
      refine V.goto (pc := 19) (tgt := 0) hK dX12_blanks_19 (by decide) ?_
      refine V.pick [0] (l := [(0, _)]) rfl ?_
      exact ih  _ h
set_option maxHeartbeats 4000000 in
set_option maxRecDepth 100000 in
theorem c_X12_blanks (E : v_E) {sh : v_S} {P : v_P} (hL : v_Lay sh P) (N : Nat) (M : v_M) {out : Int32 × v_M} (h : f_X12_blanks N M = some out) : v_Ct E 1 yX12_blanks cX12_blanks 1 none 0 0 [v_rf E 79] sh P M (v_Q1 (none) sh P out.2) := by
  refine v_Ct.of (by decide +kernel) (Nat.le_of_ble_eq_true rfl) (fun X hO => ?_)
  have hK : v_K E X cX12_blanks RX12 1 1 := hO.1
  have hO : v_O E X cX12_blanks RX12 1 1 none "blanks" (v_Q1 (none) sh P out.2) := hO
  show V E X (0, 0) 0 [(0, v_rf E 79)] [] sh P M
  unfold f_X12_blanks at h
  refine V.pick [0] (l := [(0, _)]) rfl ?_
  exact w_X12_blanks_L0 hL hO N N  _ h
set_option maxHeartbeats 4000000 in
set_option maxRecDepth 100000 in
theorem c_X12_isDigit (E : v_E) {sh : v_S} {P : v_P} (hL : v_Lay sh P) (N : Nat) (M : v_M) {out : Int32 × v_M} (h : f_X12_isDigit N M = some out) : v_Ct E 1 yX12_isDigit cX12_isDigit 1 (some .boolean) 0 0 [v_rf E 79] sh P M (v_Q1 (some (.int out.1)) sh P out.2) := by
  refine v_Ct.of (by decide +kernel) (Nat.le_of_ble_eq_true rfl) (fun X hO => ?_)
  have hK : v_K E X cX12_isDigit RX12 1 1 := hO.1
  have hO : v_O E X cX12_isDigit RX12 1 1 (some .boolean) "isDigit" (v_Q1 (some (.int out.1)) sh P out.2) := hO
  show V E X (0, 0) 0 [(0, v_rf E 79)] [] sh P M
  unfold f_X12_isDigit at h
  refine V.aload_n (pc := 0) (i := 0) hK rfl ⟨_, rfl⟩ dX12_isDigit_0 ?_
  obtain ⟨z1, hz1, h⟩ := v_bdS h
  refine V.cV (pc := 1) (ci := 12) hK (c_X12_sign E hL N _ hz1) Y_X12_sign cv_RX12_361 (by decide) rfl (hL.1 79 _ ls_79) dX12_isDigit_1 (by decide) rfl (Nat.le_of_ble_eq_true rfl) ?_
  refine V.i2l (pc := 4) hK dX12_isDigit_4 ?_
  refine V.ldc2 (pc := 5) hK tw_1585 dX12_isDigit_5 ?_
  refine V.ldc2 (pc := 8) hK tw_1586 dX12_isDigit_8 ?_
  obtain ⟨z2, hz2, h⟩ := v_bdS h
  refine V.cS (pc := 11) hK (c_X12_in E hL N _ _ _ _ hz2) Y_X12_in cs_RX12_229 dX12_isDigit_11 (by decide) rfl (Nat.le_of_ble_eq_true rfl) ?_
  obtain ⟨hb, h⟩ := v_ckS h
  exact V.zret (pc := 14) hO (v_z01 hb) dX12_isDigit_14 (v_finI h)
set_option maxHeartbeats 4000000 in
set_option maxRecDepth 100000 in
theorem w_X12_stands_L102 {E : v_E} {X : v_X} {sh : v_S} {P : v_P} {out : Int32 × v_M} (hL : v_Lay sh P) (hO : v_O E X cX12_stands RX12 5 4 (some .boolean) "stands" (v_Q1 (some (.int out.1)) sh P out.2)) (N : Nat) (k63 : Nat → Int32 → Int32 → v_M → Option (Int32 × v_M)) (hk63 : ∀ (s1 : Nat) (x3 : Int32) (x4 : Int32) (M : v_M), k63 s1 x3 x4 M = some out → V E X (0, 0) 63 [(0, v_rf E 79), (1, v_st E s1), (3, .int x3), (4, .int x4)] [] sh P M) (s1 : Nat) (x4 : Int32) (t0 : Int32) (M : v_M) (h : f_X12_stands_L102 N k63 s1 x4 t0 M = some out) : V E X (0, 0) 102 [(0, v_rf E 79), (1, v_st E s1), (4, .int x4)] [.int t0] sh P M := by
  have hK := hO.1
  unfold f_X12_stands_L102 at h
  refine V.istore_n (pc := 102) (i := 3) (lv' := [(0, _), (1, _), (3, _), (4, _)]) hK (by decide) rfl dX12_stands_102 ?_
  refine V.iinc (pc := 103) (i := 4) (v := 1) (lv' := [(0, _), (1, _), (3, _), (4, _)]) hK rfl (by decide) (by decide) rfl dX12_stands_103 ?_
  refine V.goto (pc := 106) (tgt := 63) hK dX12_stands_106 (by decide) ?_
  refine V.pick [0, 1, 3, 4] (l := [(0, _), (1, _), (3, _), (4, _)]) rfl ?_
  exact hk63 _ _ _ _ h
set_option maxHeartbeats 4000000 in
set_option maxRecDepth 100000 in
theorem w_X12_stands_L63 {E : v_E} {X : v_X} {sh : v_S} {P : v_P} {out : Int32 × v_M} (hL : v_Lay sh P) (hO : v_O E X cX12_stands RX12 5 4 (some .boolean) "stands" (v_Q1 (some (.int out.1)) sh P out.2)) (N : Nat) (n : Nat) : ∀ (s1 : Nat) (x3 : Int32) (x4 : Int32) (M : v_M), f_X12_stands_L63 N n s1 x3 x4 M = some out → V E X (0, 0) 63 [(0, v_rf E 79), (1, v_st E s1), (3, .int x3), (4, .int x4)] [] sh P M := by
  have hK := hO.1
  induction n with
  | zero => intro s1 x3 x4 M h; rw [f_X12_stands_L63] at h; cases h
  | succ n ih =>
    intro s1 x3 x4 M h
    rw [f_X12_stands_L63] at h
    refine V.iload (pc := 63) (i := 4) hK rfl dX12_stands_63 ?_
    refine V.aload_n (pc := 65) (i := 1) hK rfl ⟨_, rfl⟩ dX12_stands_65 ?_
    obtain ⟨z1, hz1, h⟩ := v_bdS h
    refine V.cStr (pc := 66) hK (c_J0_length_8abf5 E hL N _ _ hz1) Y_J0_length_8abf5 cv_RX12_369 rfl (lt_J0_length_8abf5 hz1) dX12_stands_66 (by decide) rfl (Nat.le_of_ble_eq_true rfl) ?_
    refine V.icmp_ge (pc := 69) (tgt := 109) hK dX12_stands_69 (by decide) (fun c => ?_) (fun c => ?_)
    · rw [if_pos c] at h
      refine V.iload_n (pc := 109) (i := 3) hK rfl dX12_stands_109 ?_
      obtain ⟨hb, h⟩ := v_ckS h
      exact V.zret (pc := 110) hO (v_z01 hb) dX12_stands_110 (v_finI h)
    · rw [if_neg c] at h
      refine V.iload_n (pc := 72) (i := 3) hK rfl dX12_stands_72 ?_
      refine V.if_eq (pc := 73) (tgt := 109) hK dX12_stands_73 (by decide) (fun c => ?_) (fun c => ?_)
      · rw [if_pos c] at h
        refine V.iload_n (pc := 109) (i := 3) hK rfl dX12_stands_109 ?_
        obtain ⟨hb, h⟩ := v_ckS h
        exact V.zret (pc := 110) hO (v_z01 hb) dX12_stands_110 (v_finI h)
      · rw [if_neg c] at h
        refine V.aload_n (pc := 76) (i := 0) hK rfl ⟨_, rfl⟩ dX12_stands_76 ?_
        refine V.getR (pc := 77) hK fl_RX12_91 rfl (hL.1 79 _ ls_79) (hL.2 79 40 107 rfl) dX12_stands_77 ?_
        refine V.aload_n (pc := 80) (i := 0) hK rfl ⟨_, rfl⟩ dX12_stands_80 ?_
        refine V.getI (pc := 81) hK fl_RX12_358 rfl (hL.1 79 _ ls_79) dX12_stands_81 ?_
        refine V.iload (pc := 84) (i := 4) hK rfl dX12_stands_84 ?_
        refine V.iadd (pc := 86) hK dX12_stands_86 ?_
        obtain ⟨hb, h⟩ := v_ckS h
        refine V.bald (pc := 87) hK (hL.1 107 _ ls_107) (v_ibS hb) dX12_stands_87 ?_
        refine V.aload_n (pc := 88) (i := 1) hK rfl ⟨_, rfl⟩ dX12_stands_88 ?_
        refine V.iload (pc := 89) (i := 4) hK rfl dX12_stands_89 ?_
        obtain ⟨z2, hz2, h⟩ := v_bdS h
        refine V.cStr (pc := 91) hK (c_J0_charAt_5068e E hL N _ _ _ hz2) Y_J0_charAt_5068e cv_RX12_374 rfl (lt_J0_charAt_5068e hz2) dX12_stands_91 (by decide) rfl (Nat.le_of_ble_eq_true rfl) ?_
        refine V.icmp_ne (pc := 94) (tgt := 101) hK dX12_stands_94 (by decide) (fun c => ?_) (fun c => ?_)
        · rw [if_neg c] at h
          refine V.iconst (pc := 101) (v := 0) hK (by decide) dX12_stands_101 ?_
          refine V.pick [0, 1, 4] (l := [(0, _), (1, _), (4, _)]) rfl ?_
          exact w_X12_stands_L102 hL hO N _ ih _ _ _ _ h
        · rw [if_pos c] at h
          refine V.iconst (pc := 97) (v := 1) hK (by decide) dX12_stands_97 ?_
          refine V.goto (pc := 98) (tgt := 102) hK dX12_stands_98 (by decide) ?_
          refine V.pick [0, 1, 4] (l := [(0, _), (1, _), (4, _)]) rfl ?_
          exact w_X12_stands_L102 hL hO N _ ih _ _ _ _ h
set_option maxHeartbeats 4000000 in
set_option maxRecDepth 100000 in
theorem w_X12_stands_L59 {E : v_E} {X : v_X} {sh : v_S} {P : v_P} {out : Int32 × v_M} (hL : v_Lay sh P) (hO : v_O E X cX12_stands RX12 5 4 (some .boolean) "stands" (v_Q1 (some (.int out.1)) sh P out.2)) (N : Nat) (s1 : Nat) (t0 : Int32) (M : v_M) (h : f_X12_stands_L59 N s1 t0 M = some out) : V E X (0, 0) 59 [(0, v_rf E 79), (1, v_st E s1)] [.int t0] sh P M := by
  have hK := hO.1
  unfold f_X12_stands_L59 at h
  refine V.istore_n (pc := 59) (i := 3) (lv' := [(0, _), (1, _), (3, _)]) hK (by decide) rfl dX12_stands_59 ?_
  refine V.iconst (pc := 60) (v := 0) hK (by decide) dX12_stands_60 ?_
  refine V.istore (pc := 61) (i := 4) (lv' := [(0, _), (1, _), (3, _), (4, _)]) hK (by decide) rfl dX12_stands_61 ?_
  refine V.pick [0, 1, 3, 4] (l := [(0, _), (1, _), (3, _), (4, _)]) rfl ?_
  exact w_X12_stands_L63 hL hO N N _ _ _ _ h
set_option maxHeartbeats 4000000 in
set_option maxRecDepth 100000 in
theorem w_X12_stands_L41 {E : v_E} {X : v_X} {sh : v_S} {P : v_P} {out : Int32 × v_M} (hL : v_Lay sh P) (hO : v_O E X cX12_stands RX12 5 4 (some .boolean) "stands" (v_Q1 (some (.int out.1)) sh P out.2)) (N : Nat) (s1 : Nat) (x2 : Int32) (M : v_M) (h : f_X12_stands_L41 N s1 x2 M = some out) : V E X (0, 0) 41 [(0, v_rf E 79), (1, v_st E s1), (2, .int x2)] [] sh P M := by
  have hK := hO.1
  unfold f_X12_stands_L41 at h
  refine V.iload_n (pc := 41) (i := 2) hK rfl dX12_stands_41 ?_
  refine V.aload_n (pc := 42) (i := 0) hK rfl ⟨_, rfl⟩ dX12_stands_42 ?_
  refine V.getI (pc := 43) hK fl_RX12_358 rfl (hL.1 79 _ ls_79) dX12_stands_43 ?_
  refine V.isub (pc := 46) hK dX12_stands_46 ?_
  refine V.aload_n (pc := 47) (i := 1) hK rfl ⟨_, rfl⟩ dX12_stands_47 ?_
  obtain ⟨z1, hz1, h⟩ := v_bdS h
  refine V.cStr (pc := 48) hK (c_J0_length_8abf5 E hL N _ _ hz1) Y_J0_length_8abf5 cv_RX12_369 rfl (lt_J0_length_8abf5 hz1) dX12_stands_48 (by decide) rfl (Nat.le_of_ble_eq_true rfl) ?_
  refine V.icmp_ne (pc := 51) (tgt := 58) hK dX12_stands_51 (by decide) (fun c => ?_) (fun c => ?_)
  · rw [if_neg c] at h
    refine V.iconst (pc := 58) (v := 0) hK (by decide) dX12_stands_58 ?_
    refine V.pick [0, 1] (l := [(0, _), (1, _)]) rfl ?_
    exact w_X12_stands_L59 hL hO N _ _ _ h
  · rw [if_pos c] at h
    refine V.iconst (pc := 54) (v := 1) hK (by decide) dX12_stands_54 ?_
    refine V.goto (pc := 55) (tgt := 59) hK dX12_stands_55 (by decide) ?_
    refine V.pick [0, 1] (l := [(0, _), (1, _)]) rfl ?_
    exact w_X12_stands_L59 hL hO N _ _ _ h
set_option maxHeartbeats 4000000 in
set_option maxRecDepth 100000 in
theorem w_X12_stands_L5 {E : v_E} {X : v_X} {sh : v_S} {P : v_P} {out : Int32 × v_M} (hL : v_Lay sh P) (hO : v_O E X cX12_stands RX12 5 4 (some .boolean) "stands" (v_Q1 (some (.int out.1)) sh P out.2)) (N : Nat) (n : Nat) : ∀ (s1 : Nat) (x2 : Int32) (M : v_M), f_X12_stands_L5 N n s1 x2 M = some out → V E X (0, 0) 5 [(0, v_rf E 79), (1, v_st E s1), (2, .int x2)] [] sh P M := by
  have hK := hO.1
  induction n with
  | zero => intro s1 x2 M h; rw [f_X12_stands_L5] at h; cases h
  | succ n ih =>
    intro s1 x2 M h
    rw [f_X12_stands_L5] at h
    refine V.iload_n (pc := 5) (i := 2) hK rfl dX12_stands_5 ?_
    refine V.aload_n (pc := 6) (i := 0) hK rfl ⟨_, rfl⟩ dX12_stands_6 ?_
    refine V.getI (pc := 7) hK fl_RX12_322 rfl (hL.1 79 _ ls_79) dX12_stands_7 ?_
    refine V.icmp_ge (pc := 10) (tgt := 41) hK dX12_stands_10 (by decide) (fun c => ?_) (fun c => ?_)
    · rw [if_pos c] at h
      refine V.pick [0, 1, 2] (l := [(0, _), (1, _), (2, _)]) rfl ?_
      exact w_X12_stands_L41 hL hO N _ _ _ h
    · rw [if_neg c] at h
      refine V.aload_n (pc := 13) (i := 0) hK rfl ⟨_, rfl⟩ dX12_stands_13 ?_
      refine V.getR (pc := 14) hK fl_RX12_91 rfl (hL.1 79 _ ls_79) (hL.2 79 40 107 rfl) dX12_stands_14 ?_
      refine V.iload_n (pc := 17) (i := 2) hK rfl dX12_stands_17 ?_
      obtain ⟨hb, h⟩ := v_ckS h
      refine V.bald (pc := 18) hK (hL.1 107 _ ls_107) (v_ibS hb) dX12_stands_18 ?_
      refine V.bipush (pc := 19) (v := 97) hK (by decide) dX12_stands_19 ?_
      refine V.icmp_lt (pc := 21) (tgt := 41) hK dX12_stands_21 (by decide) (fun c => ?_) (fun c => ?_)
      · rw [if_pos c] at h
        refine V.pick [0, 1, 2] (l := [(0, _), (1, _), (2, _)]) rfl ?_
        exact w_X12_stands_L41 hL hO N _ _ _ h
      · rw [if_neg c] at h
        refine V.aload_n (pc := 24) (i := 0) hK rfl ⟨_, rfl⟩ dX12_stands_24 ?_
        refine V.getR (pc := 25) hK fl_RX12_91 rfl (hL.1 79 _ ls_79) (hL.2 79 40 107 rfl) dX12_stands_25 ?_
        refine V.iload_n (pc := 28) (i := 2) hK rfl dX12_stands_28 ?_
        obtain ⟨hb, h⟩ := v_ckS h
        refine V.bald (pc := 29) hK (hL.1 107 _ ls_107) (v_ibS hb) dX12_stands_29 ?_
        refine V.bipush (pc := 30) (v := 122) hK (by decide) dX12_stands_30 ?_
        refine V.icmp_gt (pc := 32) (tgt := 41) hK dX12_stands_32 (by decide) (fun c => ?_) (fun c => ?_)
        · rw [if_pos c] at h
          refine V.pick [0, 1, 2] (l := [(0, _), (1, _), (2, _)]) rfl ?_
          exact w_X12_stands_L41 hL hO N _ _ _ h
        · rw [if_neg c] at h
          refine V.iinc (pc := 35) (i := 2) (v := 1) (lv' := [(0, _), (1, _), (2, _)]) hK rfl (by decide) (by decide) rfl dX12_stands_35 ?_
          refine V.goto (pc := 38) (tgt := 5) hK dX12_stands_38 (by decide) ?_
          refine V.pick [0, 1, 2] (l := [(0, _), (1, _), (2, _)]) rfl ?_
          exact ih _ _ _ h
set_option maxHeartbeats 4000000 in
set_option maxRecDepth 100000 in
theorem c_X12_stands (E : v_E) {sh : v_S} {P : v_P} (hL : v_Lay sh P) (N : Nat) (s1 : Nat) (M : v_M) {out : Int32 × v_M} (h : f_X12_stands N s1 M = some out) : v_Ct E 4 yX12_stands cX12_stands 5 (some .boolean) 0 0 [v_rf E 79, v_st E s1] sh P M (v_Q1 (some (.int out.1)) sh P out.2) := by
  refine v_Ct.of (by decide +kernel) (Nat.le_of_ble_eq_true rfl) (fun X hO => ?_)
  have hK : v_K E X cX12_stands RX12 5 4 := hO.1
  have hO : v_O E X cX12_stands RX12 5 4 (some .boolean) "stands" (v_Q1 (some (.int out.1)) sh P out.2) := hO
  show V E X (0, 0) 0 [(0, v_rf E 79), (1, v_st E s1)] [] sh P M
  unfold f_X12_stands at h
  refine V.aload_n (pc := 0) (i := 0) hK rfl ⟨_, rfl⟩ dX12_stands_0 ?_
  refine V.getI (pc := 1) hK fl_RX12_358 rfl (hL.1 79 _ ls_79) dX12_stands_1 ?_
  refine V.topi (fun y1 ey1 => ?_)
  have h := v_lt ey1 h
  refine V.istore_n (pc := 4) (i := 2) (lv' := [(0, _), (1, _), (2, _)]) hK (by decide) rfl dX12_stands_4 ?_
  refine V.pick [0, 1, 2] (l := [(0, _), (1, _), (2, _)]) rfl ?_
  exact w_X12_stands_L5 hL hO N N _ _ _ h
