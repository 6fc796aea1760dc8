set_option maxHeartbeats 4000000 in
set_option maxRecDepth 100000 in
theorem w_X12_takes__L27 {E : v_E} {X : v_X} {sh : v_S} {P : v_P} {out : Int32 × v_M} (hL : v_Lay sh P) (hO : v_O E X cX12_takes_ RX12 3 5 (some .boolean) "takes" (v_Q1 (some (.int out.1)) sh P out.2)) (N : Nat) (x2 : Int32) (t0 : Int32) (t1 : Int32) (M : v_M) (h : f_X12_takes__L27 N x2 t0 t1 M = some out) : V E X (0, 0) 27 [(2, .int x2)] [.int t0, .int t1, v_rf E 79] sh P M := by
  have hK := hO.1
  unfold f_X12_takes__L27 at h
  refine V.iadd (pc := 27) hK dX12_takes__27 ?_
  refine V.putI (pc := 28) hK fl_RX12_358 rfl rfl ⟨rfl, rfl⟩ (hL.1 79 _ ls_79) dX12_takes__28 ?_
  refine V.nmM (fun M1 eM1 => ?_)
  have h := v_lt eM1 h
  refine V.iload_n (pc := 31) (i := 2) hK rfl dX12_takes__31 ?_
  obtain ⟨hb, h⟩ := v_ckS h
  exact V.zret (pc := 32) hO (v_z01 hb) dX12_takes__32 (v_finI h)
set_option maxHeartbeats 4000000 in
set_option maxRecDepth 100000 in
theorem c_X12_takes_ (E : v_E) {sh : v_S} {P : v_P} (hL : v_Lay sh P) (N : Nat) (s1 : Nat) (M : v_M) {out : Int32 × v_M} (h : f_X12_takes_ N s1 M = some out) : v_Ct E 5 yX12_takes_ cX12_takes_ 3 (some .boolean) 0 0 [v_rf E 79, v_st E s1] sh P M (v_Q1 (some (.int out.1)) sh P out.2) := by
  refine v_Ct.of (by decide +kernel) (Nat.le_of_ble_eq_true rfl) (fun X hO => ?_)
  have hK : v_K E X cX12_takes_ RX12 3 5 := hO.1
  have hO : v_O E X cX12_takes_ RX12 3 5 (some .boolean) "takes" (v_Q1 (some (.int out.1)) sh P out.2) := hO
  show V E X (0, 0) 0 [(0, v_rf E 79), (1, v_st E s1)] [] sh P M
  unfold f_X12_takes_ at h
  refine V.aload_n (pc := 0) (i := 0) hK rfl ⟨_, rfl⟩ dX12_takes__0 ?_
  obtain ⟨z1, hz1, h⟩ := v_bdS h
  refine V.cVv (pc := 1) (ci := 12) hK (c_X12_blanks E hL N _ hz1) Y_X12_blanks cv_RX12_378 (by decide) rfl (hL.1 79 _ ls_79) dX12_takes__1 (by decide) rfl (Nat.le_of_ble_eq_true rfl) ?_
  refine V.aload_n (pc := 4) (i := 0) hK rfl ⟨_, rfl⟩ dX12_takes__4 ?_
  refine V.aload_n (pc := 5) (i := 1) hK rfl ⟨_, rfl⟩ dX12_takes__5 ?_
  obtain ⟨z2, hz2, h⟩ := v_bdS h
  refine V.cV (pc := 6) (ci := 12) hK (c_X12_stands E hL N _ _ hz2) Y_X12_stands cv_RX12_381 (by decide) rfl (hL.1 79 _ ls_79) dX12_takes__6 (by decide) rfl (Nat.le_of_ble_eq_true rfl) ?_
  refine V.topi (fun y3 ey3 => ?_)
  have h := v_lt ey3 h
  refine V.istore_n (pc := 9) (i := 2) (lv' := [(0, _), (1, _), (2, _)]) hK (by decide) rfl dX12_takes__9 ?_
  refine V.aload_n (pc := 10) (i := 0) hK rfl ⟨_, rfl⟩ dX12_takes__10 ?_
  refine V.dup (pc := 11) hK rfl dX12_takes__11 ?_
  refine V.getI (pc := 12) hK fl_RX12_358 rfl (hL.1 79 _ ls_79) dX12_takes__12 ?_
  refine V.iload_n (pc := 15) (i := 2) hK rfl dX12_takes__15 ?_
  refine V.if_eq (pc := 16) (tgt := 26) hK dX12_takes__16 (by decide) (fun c => ?_) (fun c => ?_)
  · rw [if_pos c] at h
    refine V.iconst (pc := 26) (v := 0) hK (by decide) dX12_takes__26 ?_
    refine V.pick [2] (l := [(2, _)]) rfl ?_
    exact w_X12_takes__L27 hL hO N _ _ _ _ h
  · rw [if_neg c] at h
    refine V.aload_n (pc := 19) (i := 1) hK rfl ⟨_, rfl⟩ dX12_takes__19 ?_
    obtain ⟨z4, hz4, h⟩ := v_bdS h
    refine V.cStr (pc := 20) hK (c_J0_length_8abf5 E hL N _ _ hz4) Y_J0_length_8abf5 cv_RX12_369 rfl (lt_J0_length_8abf5 hz4) dX12_takes__20 (by decide) rfl (Nat.le_of_ble_eq_true rfl) ?_
    refine V.goto (pc := 23) (tgt := 27) hK dX12_takes__23 (by decide) ?_
    refine V.pick [2] (l := [(2, _)]) rfl ?_
    exact w_X12_takes__L27 hL hO N _ _ _ _ h
set_option maxHeartbeats 4000000 in
set_option maxRecDepth 100000 in
theorem c_X12_entry (E : v_E) {sh : v_S} {P : v_P} (hL : v_Lay sh P) (N : Nat) (x1 : Int32) (x2 : Int32) (M : v_M) {out : Int32 × v_M} (h : f_X12_entry N x1 x2 M = some out) : v_Ct E 0 yX12_entry cX12_entry 3 none 0 0 [v_rf E 79, .int x1, .int x2] sh P M (v_Q1 (none) sh P out.2) := by
  refine v_Ct.of (by decide +kernel) (Nat.le_of_ble_eq_true rfl) (fun X hO => ?_)
  have hK : v_K E X cX12_entry RX12 3 0 := hO.1
  have hO : v_O E X cX12_entry RX12 3 0 none "entry" (v_Q1 (none) sh P out.2) := hO
  show V E X (0, 0) 0 [(0, v_rf E 79), (1, .int x1), (2, .int x2)] [] sh P M
  unfold f_X12_entry at h
  refine V.aload_n (pc := 0) (i := 0) hK rfl ⟨_, rfl⟩ dX12_entry_0 ?_
  refine V.getI (pc := 1) hK fl_RX12_355 rfl (hL.1 79 _ ls_79) dX12_entry_1 ?_
  refine V.if_ne (pc := 4) (tgt := 55) hK dX12_entry_4 (by decide) (fun c => ?_) (fun c => ?_)
  · rw [if_neg c] at h
    exact V.vret (pc := 55) hO dX12_entry_55 (v_finV h)
  · rw [if_pos c] at h
    refine V.aload_n (pc := 7) (i := 0) hK rfl ⟨_, rfl⟩ dX12_entry_7 ?_
    refine V.getR (pc := 8) hK fl_RX12_95 rfl (hL.1 79 _ ls_79) (hL.2 79 41 108 rfl) dX12_entry_8 ?_
    refine V.sipush (pc := 11) (v := 300) hK (by decide) dX12_entry_11 ?_
    refine V.aload_n (pc := 14) (i := 0) hK rfl ⟨_, rfl⟩ dX12_entry_14 ?_
    refine V.getI (pc := 15) hK fl_RX12_385 rfl (hL.1 79 _ ls_79) dX12_entry_15 ?_
    refine V.imul (pc := 18) hK dX12_entry_18 ?_
    refine V.aload_n (pc := 19) (i := 0) hK rfl ⟨_, rfl⟩ dX12_entry_19 ?_
    refine V.getI (pc := 20) hK fl_RX12_388 rfl (hL.1 79 _ ls_79) dX12_entry_20 ?_
    refine V.iadd (pc := 23) hK dX12_entry_23 ?_
    refine V.iload_n (pc := 24) (i := 1) hK rfl dX12_entry_24 ?_
    obtain ⟨hb, h⟩ := v_ckS h
    refine V.iast (pc := 25) hK (hL.1 108 _ ls_108) (v_ibS hb) dX12_entry_25 ?_
    refine V.nmM (fun M1 eM1 => ?_)
    have h := v_lt eM1 h
    refine V.aload_n (pc := 26) (i := 0) hK rfl ⟨_, rfl⟩ dX12_entry_26 ?_
    refine V.getR (pc := 27) hK fl_RX12_98 rfl (hL.1 79 _ ls_79) (hL.2 79 42 109 rfl) dX12_entry_27 ?_
    refine V.sipush (pc := 30) (v := 300) hK (by decide) dX12_entry_30 ?_
    refine V.aload_n (pc := 33) (i := 0) hK rfl ⟨_, rfl⟩ dX12_entry_33 ?_
    refine V.getI (pc := 34) hK fl_RX12_385 rfl (hL.1 79 _ ls_79) dX12_entry_34 ?_
    refine V.imul (pc := 37) hK dX12_entry_37 ?_
    refine V.aload_n (pc := 38) (i := 0) hK rfl ⟨_, rfl⟩ dX12_entry_38 ?_
    refine V.getI (pc := 39) hK fl_RX12_388 rfl (hL.1 79 _ ls_79) dX12_entry_39 ?_
    refine V.iadd (pc := 42) hK dX12_entry_42 ?_
    refine V.iload_n (pc := 43) (i := 2) hK rfl dX12_entry_43 ?_
    obtain ⟨hb, h⟩ := v_ckS h
    refine V.iast (pc := 44) hK (hL.1 109 _ ls_109) (v_ibS hb) dX12_entry_44 ?_
    refine V.nmM (fun M2 eM2 => ?_)
    have h := v_lt eM2 h
    refine V.aload_n (pc := 45) (i := 0) hK rfl ⟨_, rfl⟩ dX12_entry_45 ?_
    refine V.dup (pc := 46) hK rfl dX12_entry_46 ?_
    refine V.getI (pc := 47) hK fl_RX12_388 rfl (hL.1 79 _ ls_79) dX12_entry_47 ?_
    refine V.iconst (pc := 50) (v := 1) hK (by decide) dX12_entry_50 ?_
    refine V.iadd (pc := 51) hK dX12_entry_51 ?_
    refine V.putI (pc := 52) hK fl_RX12_388 rfl rfl ⟨rfl, rfl⟩ (hL.1 79 _ ls_79) dX12_entry_52 ?_
    refine V.nmM (fun M3 eM3 => ?_)
    have h := v_lt eM3 h
    exact V.vret (pc := 55) hO dX12_entry_55 (v_finV h)
set_option maxHeartbeats 4000000 in
set_option maxRecDepth 100000 in
theorem w_X12_isCounted_L15 {E : v_E} {X : v_X} {sh : v_S} {P : v_P} {out : Int32 × v_M} (hL : v_Lay sh P) (hO : v_O E X cX12_isCounted RX12 2 1 none "isCounted" (v_Q1 (none) sh P out.2)) (N : Nat) (M : v_M) (h : f_X12_isCounted_L15 N M = some out) : V E X (0, 0) 15 [(0, v_rf E 79)] [] sh P M := by
  have hK := hO.1
  unfold f_X12_isCounted_L15 at h
  refine V.aload_n (pc := 15) (i := 0) hK rfl ⟨_, rfl⟩ dX12_isCounted_15 ?_
  refine V.dup (pc := 16) hK rfl dX12_isCounted_16 ?_
  refine V.getI (pc := 17) hK fl_RX12_391 rfl (hL.1 79 _ ls_79) dX12_isCounted_17 ?_
  refine V.iconst (pc := 20) (v := 1) hK (by decide) dX12_isCounted_20 ?_
  refine V.iadd (pc := 21) hK dX12_isCounted_21 ?_
  refine V.putI (pc := 22) hK fl_RX12_391 rfl rfl ⟨rfl, rfl⟩ (hL.1 79 _ ls_79) dX12_isCounted_22 ?_
  refine V.nmM (fun M1 eM1 => ?_)
  have h := v_lt eM1 h
  exact V.vret (pc := 25) hO dX12_isCounted_25 (v_finV h)
set_option maxHeartbeats 4000000 in
set_option maxRecDepth 100000 in
theorem c_X12_isCounted (E : v_E) {sh : v_S} {P : v_P} (hL : v_Lay sh P) (N : Nat) (x1 : Int32) (M : v_M) {out : Int32 × v_M} (h : f_X12_isCounted N x1 M = some out) : v_Ct E 1 yX12_isCounted cX12_isCounted 2 none 0 0 [v_rf E 79, .int x1] sh P M (v_Q1 (none) sh P out.2) := by
  refine v_Ct.of (by decide +kernel) (Nat.le_of_ble_eq_true rfl) (fun X hO => ?_)
  have hK : v_K E X cX12_isCounted RX12 2 1 := hO.1
  have hO : v_O E X cX12_isCounted RX12 2 1 none "isCounted" (v_Q1 (none) sh P out.2) := hO
  show V E X (0, 0) 0 [(0, v_rf E 79), (1, .int x1)] [] sh P M
  unfold f_X12_isCounted at h
  refine V.aload_n (pc := 0) (i := 0) hK rfl ⟨_, rfl⟩ dX12_isCounted_0 ?_
  refine V.getI (pc := 1) hK fl_RX12_391 rfl (hL.1 79 _ ls_79) dX12_isCounted_1 ?_
  refine V.bipush (pc := 4) (v := 60) hK (by decide) dX12_isCounted_4 ?_
  refine V.icmp_ne (pc := 6) (tgt := 15) hK dX12_isCounted_6 (by decide) (fun c => ?_) (fun c => ?_)
  · rw [if_neg c] at h
    refine V.pick [0] (l := [(0, _)]) rfl ?_
    exact w_X12_isCounted_L15 hL hO N  _ h
  · rw [if_pos c] at h
    refine V.aload_n (pc := 9) (i := 0) hK rfl ⟨_, rfl⟩ dX12_isCounted_9 ?_
    refine V.iconst (pc := 10) (v := 3) hK (by decide) dX12_isCounted_10 ?_
    refine V.iload_n (pc := 11) (i := 1) hK rfl dX12_isCounted_11 ?_
    obtain ⟨z1, hz1, h⟩ := v_bdS h
    refine V.cVv (pc := 12) (ci := 12) hK (c_X12_fails E hL N _ _ _ hz1) Y_X12_fails cv_RX12_394 (by decide) rfl (hL.1 79 _ ls_79) dX12_isCounted_12 (by decide) rfl (Nat.le_of_ble_eq_true rfl) ?_
    refine V.pick [0] (l := [(0, _)]) rfl ?_
    exact w_X12_isCounted_L15 hL hO N  _ h
set_option maxHeartbeats 4000000 in
set_option maxRecDepth 100000 in
theorem w_X12_digits_L87 {E : v_E} {X : v_X} {sh : v_S} {P : v_P} {out : Int32 × v_M} (hL : v_Lay sh P) (hO : v_O E X cX12_digits RX12 4 2 (some .int) "digits" (v_Q1 (some (.int out.1)) sh P out.2)) (N : Nat) (x2 : Int32) (x3 : Int32) (M : v_M) (h : f_X12_digits_L87 N x2 x3 M = some out) : V E X (0, 0) 87 [(0, v_rf E 79), (2, .int x2), (3, .int x3)] [] sh P M := by
  have hK := hO.1
  unfold f_X12_digits_L87 at h
  refine V.aload_n (pc := 87) (i := 0) hK rfl ⟨_, rfl⟩ dX12_digits_87 ?_
  refine V.iconst (pc := 88) (v := 1) hK (by decide) dX12_digits_88 ?_
  refine V.iload_n (pc := 89) (i := 2) hK rfl dX12_digits_89 ?_
  obtain ⟨z1, hz1, h⟩ := v_bdS h
  refine V.cVv (pc := 90) (ci := 12) hK (c_X12_fails E hL N _ _ _ hz1) Y_X12_fails cv_RX12_394 (by decide) rfl (hL.1 79 _ ls_79) dX12_digits_90 (by decide) rfl (Nat.le_of_ble_eq_true rfl) ?_
  refine V.iload_n (pc := 93) (i := 3) hK rfl dX12_digits_93 ?_
  exact V.iret (pc := 94) hO dX12_digits_94 (v_finI h)
set_option maxHeartbeats 4000000 in
set_option maxRecDepth 100000 in
theorem w_X12_digits_L58 {E : v_E} {X : v_X} {sh : v_S} {P : v_P} {out : Int32 × v_M} (hL : v_Lay sh P) (hO : v_O E X cX12_digits RX12 4 2 (some .int) "digits" (v_Q1 (some (.int out.1)) sh P out.2)) (N : Nat) (k25 : Int32 → Int32 → Int32 → v_M → Option (Int32 × v_M)) (hk25 : ∀ (x1 : Int32) (x2 : Int32) (x3 : Int32) (M : v_M), k25 x1 x2 x3 M = some out → V E X (0, 0) 25 [(0, v_rf E 79), (1, .int x1), (2, .int x2), (3, .int x3)] [] sh P M) (x1 : Int32) (x2 : Int32) (t0 : Int32) (M : v_M) (h : f_X12_digits_L58 N k25 x1 x2 t0 M = some out) : V E X (0, 0) 58 [(0, v_rf E 79), (1, .int x1), (2, .int x2)] [.int t0] sh P M := by
  have hK := hO.1
  unfold f_X12_digits_L58 at h
  refine V.istore_n (pc := 58) (i := 3) (lv' := [(0, _), (1, _), (2, _), (3, _)]) hK (by decide) rfl dX12_digits_58 ?_
  refine V.aload_n (pc := 59) (i := 0) hK rfl ⟨_, rfl⟩ dX12_digits_59 ?_
  refine V.dup (pc := 60) hK rfl dX12_digits_60 ?_
  refine V.getI (pc := 61) hK fl_RX12_358 rfl (hL.1 79 _ ls_79) dX12_digits_61 ?_
  refine V.iconst (pc := 64) (v := 1) hK (by decide) dX12_digits_64 ?_
  refine V.iadd (pc := 65) hK dX12_digits_65 ?_
  refine V.putI (pc := 66) hK fl_RX12_358 rfl rfl ⟨rfl, rfl⟩ (hL.1 79 _ ls_79) dX12_digits_66 ?_
  refine V.nmM (fun M1 eM1 => ?_)
  have h := v_lt eM1 h
  refine V.goto (pc := 69) (tgt := 25) hK dX12_digits_69 (by decide) ?_
  refine V.pick [0, 1, 2, 3] (l := [(0, _), (1, _), (2, _), (3, _)]) rfl ?_
  exact hk25 _ _ _ _ h
set_option maxHeartbeats 4000000 in
set_option maxRecDepth 100000 in
theorem w_X12_digits_L25 {E : v_E} {X : v_X} {sh : v_S} {P : v_P} {out : Int32 × v_M} (hL : v_Lay sh P) (hO : v_O E X cX12_digits RX12 4 2 (some .int) "digits" (v_Q1 (some (.int out.1)) sh P out.2)) (N : Nat) (n : Nat) : ∀ (x1 : Int32) (x2 : Int32) (x3 : Int32) (M : v_M), f_X12_digits_L25 N n x1 x2 x3 M = some out → V E X (0, 0) 25 [(0, v_rf E 79), (1, .int x1), (2, .int x2), (3, .int x3)] [] sh P M := by
  have hK := hO.1
  induction n with
  | zero => intro x1 x2 x3 M h; rw [f_X12_digits_L25] at h; cases h
  | succ n ih =>
    intro x1 x2 x3 M h
    rw [f_X12_digits_L25] at h
    refine V.aload_n (pc := 25) (i := 0) hK rfl ⟨_, rfl⟩ dX12_digits_25 ?_
    obtain ⟨z1, hz1, h⟩ := v_bdS h
    refine V.cV (pc := 26) (ci := 12) hK (c_X12_isDigit E hL N _ hz1) Y_X12_isDigit cv_RX12_397 (by decide) rfl (hL.1 79 _ ls_79) dX12_digits_26 (by decide) rfl (Nat.le_of_ble_eq_true rfl) ?_
    refine V.if_eq (pc := 29) (tgt := 72) hK dX12_digits_29 (by decide) (fun c => ?_) (fun c => ?_)
    · rw [if_pos c] at h
      refine V.aload_n (pc := 72) (i := 0) hK rfl ⟨_, rfl⟩ dX12_digits_72 ?_
      refine V.getI (pc := 73) hK fl_RX12_358 rfl (hL.1 79 _ ls_79) dX12_digits_73 ?_
      refine V.iload_n (pc := 76) (i := 2) hK rfl dX12_digits_76 ?_
      refine V.isub (pc := 77) hK dX12_digits_77 ?_
      refine V.iconst (pc := 78) (v := 5) hK (by decide) dX12_digits_78 ?_
      refine V.icmp_gt (pc := 79) (tgt := 87) hK dX12_digits_79 (by decide) (fun c => ?_) (fun c => ?_)
      · rw [if_pos c] at h
        refine V.pick [0, 2, 3] (l := [(0, _), (2, _), (3, _)]) rfl ?_
        exact w_X12_digits_L87 hL hO N _ _ _ h
      · rw [if_neg c] at h
        refine V.iload_n (pc := 82) (i := 3) hK rfl dX12_digits_82 ?_
        refine V.iload_n (pc := 83) (i := 1) hK rfl dX12_digits_83 ?_
        refine V.icmp_le (pc := 84) (tgt := 93) hK dX12_digits_84 (by decide) (fun c => ?_) (fun c => ?_)
        · rw [if_pos c] at h
          refine V.iload_n (pc := 93) (i := 3) hK rfl dX12_digits_93 ?_
          exact V.iret (pc := 94) hO dX12_digits_94 (v_finI h)
        · rw [if_neg c] at h
          refine V.pick [0, 2, 3] (l := [(0, _), (2, _), (3, _)]) rfl ?_
          exact w_X12_digits_L87 hL hO N _ _ _ h
    · rw [if_neg c] at h
      refine V.aload_n (pc := 32) (i := 0) hK rfl ⟨_, rfl⟩ dX12_digits_32 ?_
      refine V.getI (pc := 33) hK fl_RX12_358 rfl (hL.1 79 _ ls_79) dX12_digits_33 ?_
      refine V.iload_n (pc := 36) (i := 2) hK rfl dX12_digits_36 ?_
      refine V.isub (pc := 37) hK dX12_digits_37 ?_
      refine V.iconst (pc := 38) (v := 5) hK (by decide) dX12_digits_38 ?_
      refine V.icmp_ge (pc := 39) (tgt := 57) hK dX12_digits_39 (by decide) (fun c => ?_) (fun c => ?_)
      · rw [if_pos c] at h
        refine V.iload_n (pc := 57) (i := 3) hK rfl dX12_digits_57 ?_
        refine V.pick [0, 1, 2] (l := [(0, _), (1, _), (2, _)]) rfl ?_
        exact w_X12_digits_L58 hL hO N _ ih _ _ _ _ h
      · rw [if_neg c] at h
        refine V.bipush (pc := 42) (v := 10) hK (by decide) dX12_digits_42 ?_
        refine V.iload_n (pc := 44) (i := 3) hK rfl dX12_digits_44 ?_
        refine V.imul (pc := 45) hK dX12_digits_45 ?_
        refine V.aload_n (pc := 46) (i := 0) hK rfl ⟨_, rfl⟩ dX12_digits_46 ?_
        obtain ⟨z2, hz2, h⟩ := v_bdS h
        refine V.cV (pc := 47) (ci := 12) hK (c_X12_sign E hL N _ hz2) Y_X12_sign cv_RX12_361 (by decide) rfl (hL.1 79 _ ls_79) dX12_digits_47 (by decide) rfl (Nat.le_of_ble_eq_true rfl) ?_
        refine V.iadd (pc := 50) hK dX12_digits_50 ?_
        refine V.bipush (pc := 51) (v := 48) hK (by decide) dX12_digits_51 ?_
        refine V.isub (pc := 53) hK dX12_digits_53 ?_
        refine V.goto (pc := 54) (tgt := 58) hK dX12_digits_54 (by decide) ?_
        refine V.pick [0, 1, 2] (l := [(0, _), (1, _), (2, _)]) rfl ?_
        exact w_X12_digits_L58 hL hO N _ ih _ _ _ _ h
set_option maxHeartbeats 4000000 in
set_option maxRecDepth 100000 in
theorem c_X12_digits (E : v_E) {sh : v_S} {P : v_P} (hL : v_Lay sh P) (N : Nat) (x1 : Int32) (M : v_M) {out : Int32 × v_M} (h : f_X12_digits N x1 M = some out) : v_Ct E 2 yX12_digits cX12_digits 4 (some .int) 0 0 [v_rf E 79, .int x1] sh P M (v_Q1 (some (.int out.1)) sh P out.2) := by
  refine v_Ct.of (by decide +kernel) (Nat.le_of_ble_eq_true rfl) (fun X hO => ?_)
  have hK : v_K E X cX12_digits RX12 4 2 := hO.1
  have hO : v_O E X cX12_digits RX12 4 2 (some .int) "digits" (v_Q1 (some (.int out.1)) sh P out.2) := hO
  show V E X (0, 0) 0 [(0, v_rf E 79), (1, .int x1)] [] sh P M
  unfold f_X12_digits at h
  refine V.aload_n (pc := 0) (i := 0) hK rfl ⟨_, rfl⟩ dX12_digits_0 ?_
  obtain ⟨z1, hz1, h⟩ := v_bdS h
  refine V.cV (pc := 1) (ci := 12) hK (c_X12_isDigit E hL N _ hz1) Y_X12_isDigit cv_RX12_397 (by decide) rfl (hL.1 79 _ ls_79) dX12_digits_1 (by decide) rfl (Nat.le_of_ble_eq_true rfl) ?_
  refine V.if_ne (pc := 4) (tgt := 18) hK dX12_digits_4 (by decide) (fun c => ?_) (fun c => ?_)
  · rw [if_neg c] at h
    refine V.aload_n (pc := 18) (i := 0) hK rfl ⟨_, rfl⟩ dX12_digits_18 ?_
    refine V.getI (pc := 19) hK fl_RX12_358 rfl (hL.1 79 _ ls_79) dX12_digits_19 ?_
    refine V.topi (fun y2 ey2 => ?_)
    have h := v_lt ey2 h
    refine V.istore_n (pc := 22) (i := 2) (lv' := [(0, _), (1, _), (2, _)]) hK (by decide) rfl dX12_digits_22 ?_
    refine V.iconst (pc := 23) (v := 0) hK (by decide) dX12_digits_23 ?_
    refine V.istore_n (pc := 24) (i := 3) (lv' := [(0, _), (1, _), (2, _), (3, _)]) hK (by decide) rfl dX12_digits_24 ?_
    refine V.pick [0, 1, 2, 3] (l := [(0, _), (1, _), (2, _), (3, _)]) rfl ?_
    exact w_X12_digits_L25 hL hO N N _ _ _ _ h
  · rw [if_pos c] at h
    refine V.aload_n (pc := 7) (i := 0) hK rfl ⟨_, rfl⟩ dX12_digits_7 ?_
    refine V.iconst (pc := 8) (v := 0) hK (by decide) dX12_digits_8 ?_
    refine V.aload_n (pc := 9) (i := 0) hK rfl ⟨_, rfl⟩ dX12_digits_9 ?_
    refine V.getI (pc := 10) hK fl_RX12_358 rfl (hL.1 79 _ ls_79) dX12_digits_10 ?_
    obtain ⟨z3, hz3, h⟩ := v_bdS h
    refine V.cVv (pc := 13) (ci := 12) hK (c_X12_fails E hL N _ _ _ hz3) Y_X12_fails cv_RX12_394 (by decide) rfl (hL.1 79 _ ls_79) dX12_digits_13 (by decide) rfl (Nat.le_of_ble_eq_true rfl) ?_
    refine V.iconst (pc := 16) (v := 0) hK (by decide) dX12_digits_16 ?_
    exact V.iret (pc := 17) hO dX12_digits_17 (v_finI h)
set_option maxHeartbeats 4000000 in
set_option maxRecDepth 100000 in
theorem w_X12_value_L61 {E : v_E} {X : v_X} {sh : v_S} {P : v_P} {out : Int32 × v_M} (hL : v_Lay sh P) (hO : v_O E X cX12_value RX12 3 5 none "value" (v_Q1 (none) sh P out.2)) (N : Nat) (x1 : Int32) (x2 : Int32) (M : v_M) (h : f_X12_value_L61 N x1 x2 M = some out) : V E X (0, 0) 61 [(0, v_rf E 79), (1, .int x1), (2, .int x2)] [] sh P M := by
  have hK := hO.1
  unfold f_X12_value_L61 at h
  refine V.iload_n (pc := 61) (i := 2) hK rfl dX12_value_61 ?_
  refine V.bipush (pc := 62) (v := 7) hK (by decide) dX12_value_62 ?_
  refine V.icmp_ne (pc := 64) (tgt := 74) hK dX12_value_64 (by decide) (fun c => ?_) (fun c => ?_)
  · rw [if_neg c] at h
    refine V.aload_n (pc := 74) (i := 0) hK rfl ⟨_, rfl⟩ dX12_value_74 ?_
    refine V.iload_n (pc := 75) (i := 1) hK rfl dX12_value_75 ?_
    obtain ⟨z1, hz1, h⟩ := v_bdS h
    refine V.cVv (pc := 76) (ci := 12) hK (c_X12_isCounted E hL N _ _ hz1) Y_X12_isCounted cv_RX12_404 (by decide) rfl (hL.1 79 _ ls_79) dX12_value_76 (by decide) rfl (Nat.le_of_ble_eq_true rfl) ?_
    refine V.aload_n (pc := 79) (i := 0) hK rfl ⟨_, rfl⟩ dX12_value_79 ?_
    refine V.dup (pc := 80) hK rfl dX12_value_80 ?_
    refine V.getI (pc := 81) hK fl_RX12_358 rfl (hL.1 79 _ ls_79) dX12_value_81 ?_
    refine V.iload_n (pc := 84) (i := 2) hK rfl dX12_value_84 ?_
    obtain ⟨z2, hz2, h⟩ := v_bdS h
    refine V.cS (pc := 85) hK (c_X12_wordOf E hL N _ _ hz2) Y_X12_wordOf cs_RX12_410 dX12_value_85 (by decide) rfl (Nat.le_of_ble_eq_true rfl) ?_
    obtain ⟨z3, hz3, h⟩ := v_bdS h
    refine V.cStr (pc := 88) hK (c_J0_length_8abf5 E hL N _ _ hz3) Y_J0_length_8abf5 cv_RX12_369 rfl (lt_J0_length_8abf5 hz3) dX12_value_88 (by decide) rfl (Nat.le_of_ble_eq_true rfl) ?_
    refine V.iadd (pc := 91) hK dX12_value_91 ?_
    refine V.putI (pc := 92) hK fl_RX12_358 rfl rfl ⟨rfl, rfl⟩ (hL.1 79 _ ls_79) dX12_value_92 ?_
    refine V.nmM (fun M4 eM4 => ?_)
    have h := v_lt eM4 h
    refine V.aload_n (pc := 95) (i := 0) hK rfl ⟨_, rfl⟩ dX12_value_95 ?_
    refine V.iconst (pc := 96) (v := 1) hK (by decide) dX12_value_96 ?_
    refine V.iload_n (pc := 97) (i := 2) hK rfl dX12_value_97 ?_
    obtain ⟨z5, hz5, h⟩ := v_bdS h
    refine V.cVv (pc := 98) (ci := 12) hK (c_X12_entry E hL N _ _ _ hz5) Y_X12_entry cv_RX12_407 (by decide) rfl (hL.1 79 _ ls_79) dX12_value_98 (by decide) rfl (Nat.le_of_ble_eq_true rfl) ?_
    exact V.vret (pc := 101) hO dX12_value_101 (v_finV h)
  · rw [if_pos c] at h
    refine V.aload_n (pc := 67) (i := 0) hK rfl ⟨_, rfl⟩ dX12_value_67 ?_
    refine V.iconst (pc := 68) (v := 0) hK (by decide) dX12_value_68 ?_
    refine V.iload_n (pc := 69) (i := 1) hK rfl dX12_value_69 ?_
    obtain ⟨z6, hz6, h⟩ := v_bdS h
    refine V.cVv (pc := 70) (ci := 12) hK (c_X12_fails E hL N _ _ _ hz6) Y_X12_fails cv_RX12_394 (by decide) rfl (hL.1 79 _ ls_79) dX12_value_70 (by decide) rfl (Nat.le_of_ble_eq_true rfl) ?_
    exact V.vret (pc := 73) hO dX12_value_73 (v_finV h)
set_option maxHeartbeats 4000000 in
set_option maxRecDepth 100000 in
theorem w_X12_value_L38 {E : v_E} {X : v_X} {sh : v_S} {P : v_P} {out : Int32 × v_M} (hL : v_Lay sh P) (hO : v_O E X cX12_value RX12 3 5 none "value" (v_Q1 (none) sh P out.2)) (N : Nat) (n : Nat) : ∀ (x1 : Int32) (x2 : Int32) (M : v_M), f_X12_value_L38 N n x1 x2 M = some out → V E X (0, 0) 38 [(0, v_rf E 79), (1, .int x1), (2, .int x2)] [] sh P M := by
  have hK := hO.1
  induction n with
  | zero => intro x1 x2 M h; rw [f_X12_value_L38] at h; cases h
  | succ n ih =>
    intro x1 x2 M h
    rw [f_X12_value_L38] at h
    refine V.iload_n (pc := 38) (i := 2) hK rfl dX12_value_38 ?_
    refine V.bipush (pc := 39) (v := 7) hK (by decide) dX12_value_39 ?_
    refine V.icmp_ge (pc := 41) (tgt := 61) hK dX12_value_41 (by decide) (fun c => ?_) (fun c => ?_)
    · rw [if_pos c] at h
      refine V.pick [0, 1, 2] (l := [(0, _), (1, _), (2, _)]) rfl ?_
      exact w_X12_value_L61 hL hO N _ _ _ h
    · rw [if_neg c] at h
      refine V.aload_n (pc := 44) (i := 0) hK rfl ⟨_, rfl⟩ dX12_value_44 ?_
      refine V.iload_n (pc := 45) (i := 2) hK rfl dX12_value_45 ?_
      obtain ⟨z1, hz1, h⟩ := v_bdS h
      refine V.cS (pc := 46) hK (c_X12_wordOf E hL N _ _ hz1) Y_X12_wordOf cs_RX12_410 dX12_value_46 (by decide) rfl (Nat.le_of_ble_eq_true rfl) ?_
      obtain ⟨z2, hz2, h⟩ := v_bdS h
      refine V.cV (pc := 49) (ci := 12) hK (c_X12_stands E hL N _ _ hz2) Y_X12_stands cv_RX12_381 (by decide) rfl (hL.1 79 _ ls_79) dX12_value_49 (by decide) rfl (Nat.le_of_ble_eq_true rfl) ?_
      refine V.if_ne (pc := 52) (tgt := 61) hK dX12_value_52 (by decide) (fun c => ?_) (fun c => ?_)
      · rw [if_neg c] at h
        refine V.pick [0, 1, 2] (l := [(0, _), (1, _), (2, _)]) rfl ?_
        exact w_X12_value_L61 hL hO N _ _ _ h
      · rw [if_pos c] at h
        refine V.iinc (pc := 55) (i := 2) (v := 1) (lv' := [(0, _), (1, _), (2, _)]) hK rfl (by decide) (by decide) rfl dX12_value_55 ?_
        refine V.goto (pc := 58) (tgt := 38) hK dX12_value_58 (by decide) ?_
        refine V.pick [0, 1, 2] (l := [(0, _), (1, _), (2, _)]) rfl ?_
        exact ih _ _ _ h
set_option maxHeartbeats 4000000 in
set_option maxRecDepth 100000 in
theorem c_X12_value (E : v_E) {sh : v_S} {P : v_P} (hL : v_Lay sh P) (N : Nat) (M : v_M) {out : Int32 × v_M} (h : f_X12_value N M = some out) : v_Ct E 5 yX12_value cX12_value 3 none 0 0 [v_rf E 79] sh P M (v_Q1 (none) sh P out.2) := by
  refine v_Ct.of (by decide +kernel) (Nat.le_of_ble_eq_true rfl) (fun X hO => ?_)
  have hK : v_K E X cX12_value RX12 3 5 := hO.1
  have hO : v_O E X cX12_value RX12 3 5 none "value" (v_Q1 (none) sh P out.2) := hO
  show V E X (0, 0) 0 [(0, v_rf E 79)] [] sh P M
  unfold f_X12_value at h
  refine V.aload_n (pc := 0) (i := 0) hK rfl ⟨_, rfl⟩ dX12_value_0 ?_
  obtain ⟨z1, hz1, h⟩ := v_bdS h
  refine V.cVv (pc := 1) (ci := 12) hK (c_X12_blanks E hL N _ hz1) Y_X12_blanks cv_RX12_378 (by decide) rfl (hL.1 79 _ ls_79) dX12_value_1 (by decide) rfl (Nat.le_of_ble_eq_true rfl) ?_
  refine V.aload_n (pc := 4) (i := 0) hK rfl ⟨_, rfl⟩ dX12_value_4 ?_
  refine V.getI (pc := 5) hK fl_RX12_358 rfl (hL.1 79 _ ls_79) dX12_value_5 ?_
  refine V.topi (fun y2 ey2 => ?_)
  have h := v_lt ey2 h
  refine V.istore_n (pc := 8) (i := 1) (lv' := [(0, _), (1, _)]) hK (by decide) rfl dX12_value_8 ?_
  refine V.aload_n (pc := 9) (i := 0) hK rfl ⟨_, rfl⟩ dX12_value_9 ?_
  obtain ⟨z3, hz3, h⟩ := v_bdS h
  refine V.cV (pc := 10) (ci := 12) hK (c_X12_isDigit E hL N _ hz3) Y_X12_isDigit cv_RX12_397 (by decide) rfl (hL.1 79 _ ls_79) dX12_value_10 (by decide) rfl (Nat.le_of_ble_eq_true rfl) ?_
  refine V.if_eq (pc := 13) (tgt := 36) hK dX12_value_13 (by decide) (fun c => ?_) (fun c => ?_)
  · rw [if_pos c] at h
    refine V.iconst (pc := 36) (v := 0) hK (by decide) dX12_value_36 ?_
    refine V.istore_n (pc := 37) (i := 2) (lv' := [(0, _), (1, _), (2, _)]) hK (by decide) rfl dX12_value_37 ?_
    refine V.pick [0, 1, 2] (l := [(0, _), (1, _), (2, _)]) rfl ?_
    exact w_X12_value_L38 hL hO N N _ _ _ h
  · rw [if_neg c] at h
    refine V.aload_n (pc := 16) (i := 0) hK rfl ⟨_, rfl⟩ dX12_value_16 ?_
    refine V.ldcw (pc := 17) hK tw_1600 dX12_value_17 ?_
    obtain ⟨z4, hz4, h⟩ := v_bdS h
    refine V.cV (pc := 20) (ci := 12) hK (c_X12_digits E hL N _ _ hz4) Y_X12_digits cv_RX12_401 (by decide) rfl (hL.1 79 _ ls_79) dX12_value_20 (by decide) rfl (Nat.le_of_ble_eq_true rfl) ?_
    refine V.topi (fun y5 ey5 => ?_)
    have h := v_lt ey5 h
    refine V.istore_n (pc := 23) (i := 2) (lv' := [(0, _), (1, _), (2, _)]) hK (by decide) rfl dX12_value_23 ?_
    refine V.aload_n (pc := 24) (i := 0) hK rfl ⟨_, rfl⟩ dX12_value_24 ?_
    refine V.iload_n (pc := 25) (i := 1) hK rfl dX12_value_25 ?_
    obtain ⟨z6, hz6, h⟩ := v_bdS h
    refine V.cVv (pc := 26) (ci := 12) hK (c_X12_isCounted E hL N _ _ hz6) Y_X12_isCounted cv_RX12_404 (by decide) rfl (hL.1 79 _ ls_79) dX12_value_26 (by decide) rfl (Nat.le_of_ble_eq_true rfl) ?_
    refine V.aload_n (pc := 29) (i := 0) hK rfl ⟨_, rfl⟩ dX12_value_29 ?_
    refine V.iconst (pc := 30) (v := 0) hK (by decide) dX12_value_30 ?_
    refine V.iload_n (pc := 31) (i := 2) hK rfl dX12_value_31 ?_
    obtain ⟨z7, hz7, h⟩ := v_bdS h
    refine V.cVv (pc := 32) (ci := 12) hK (c_X12_entry E hL N _ _ _ hz7) Y_X12_entry cv_RX12_407 (by decide) rfl (hL.1 79 _ ls_79) dX12_value_32 (by decide) rfl (Nat.le_of_ble_eq_true rfl) ?_
    exact V.vret (pc := 35) hO dX12_value_35 (v_finV h)
set_option maxHeartbeats 4000000 in
set_option maxRecDepth 100000 in
theorem w_X12_sum_L47 {E : v_E} {X : v_X} {sh : v_S} {P : v_P} {out : Int32 × v_M} (hL : v_Lay sh P) (hO : v_O E X cX12_sum RX12 2 6 none "sum" (v_Q1 (none) sh P out.2)) (N : Nat) (k8 : v_M → Option (Int32 × v_M)) (hk8 : ∀ (M : v_M), k8 M = some out → V E X (0, 0) 8 [(0, v_rf E 79)] [] sh P M) (t0 : Int32) (M : v_M) (h : f_X12_sum_L47 N k8 t0 M = some out) : V E X (0, 0) 47 [(0, v_rf E 79)] [.int t0] sh P M := by
  have hK := hO.1
  unfold f_X12_sum_L47 at h
  refine V.istore_n (pc := 47) (i := 1) (lv' := [(0, _), (1, _)]) hK (by decide) rfl dX12_sum_47 ?_
  refine V.aload_n (pc := 48) (i := 0) hK rfl ⟨_, rfl⟩ dX12_sum_48 ?_
  refine V.dup (pc := 49) hK rfl dX12_sum_49 ?_
  refine V.getI (pc := 50) hK fl_RX12_358 rfl (hL.1 79 _ ls_79) dX12_sum_50 ?_
  refine V.iconst (pc := 53) (v := 1) hK (by decide) dX12_sum_53 ?_
  refine V.iadd (pc := 54) hK dX12_sum_54 ?_
  refine V.putI (pc := 55) hK fl_RX12_358 rfl rfl ⟨rfl, rfl⟩ (hL.1 79 _ ls_79) dX12_sum_55 ?_
  refine V.nmM (fun M1 eM1 => ?_)
  have h := v_lt eM1 h
  refine V.aload_n (pc := 58) (i := 0) hK rfl ⟨_, rfl⟩ dX12_sum_58 ?_
  obtain ⟨z2, hz2, h⟩ := v_bdS h
  refine V.cVv (pc := 59) (ci := 12) hK (c_X12_value E hL N _ hz2) Y_X12_value cv_RX12_414 (by decide) rfl (hL.1 79 _ ls_79) dX12_sum_59 (by decide) rfl (Nat.le_of_ble_eq_true rfl) ?_
  refine V.aload_n (pc := 62) (i := 0) hK rfl ⟨_, rfl⟩ dX12_sum_62 ?_
  refine V.iload_n (pc := 63) (i := 1) hK rfl dX12_sum_63 ?_
  refine V.iconst (pc := 64) (v := 0) hK (by decide) dX12_sum_64 ?_
  obtain ⟨z3, hz3, h⟩ := v_bdS h
  refine V.cVv (pc := 65) (ci := 12) hK (c_X12_entry E hL N _ _ _ hz3) Y_X12_entry cv_RX12_407 (by decide) rfl (hL.1 79 _ ls_79) dX12_sum_65 (by decide) rfl (Nat.le_of_ble_eq_true rfl) ?_
  refine V.aload_n (pc := 68) (i := 0) hK rfl ⟨_, rfl⟩ dX12_sum_68 ?_
  obtain ⟨z4, hz4, h⟩ := v_bdS h
  refine V.cVv (pc := 69) (ci := 12) hK (c_X12_blanks E hL N _ hz4) Y_X12_blanks cv_RX12_378 (by decide) rfl (hL.1 79 _ ls_79) dX12_sum_69 (by decide) rfl (Nat.le_of_ble_eq_true rfl) ?_
  refine V.goto (pc := 72) (tgt := 8) hK dX12_sum_72 (by decide) ?_
  refine V.pick [0] (l := [(0, _)]) rfl ?_
  exact hk8  _ h
set_option maxHeartbeats 4000000 in
set_option maxRecDepth 100000 in
theorem w_X12_sum_L33 {E : v_E} {X : v_X} {sh : v_S} {P : v_P} {out : Int32 × v_M} (hL : v_Lay sh P) (hO : v_O E X cX12_sum RX12 2 6 none "sum" (v_Q1 (none) sh P out.2)) (N : Nat) (k8 : v_M → Option (Int32 × v_M)) (hk8 : ∀ (M : v_M), k8 M = some out → V E X (0, 0) 8 [(0, v_rf E 79)] [] sh P M) (M : v_M) (h : f_X12_sum_L33 N k8 M = some out) : V E X (0, 0) 33 [(0, v_rf E 79)] [] sh P M := by
  have hK := hO.1
  unfold f_X12_sum_L33 at h
  refine V.aload_n (pc := 33) (i := 0) hK rfl ⟨_, rfl⟩ dX12_sum_33 ?_
  obtain ⟨z1, hz1, h⟩ := v_bdS h
  refine V.cV (pc := 34) (ci := 12) hK (c_X12_sign E hL N _ hz1) Y_X12_sign cv_RX12_361 (by decide) rfl (hL.1 79 _ ls_79) dX12_sum_34 (by decide) rfl (Nat.le_of_ble_eq_true rfl) ?_
  refine V.bipush (pc := 37) (v := 43) hK (by decide) dX12_sum_37 ?_
  refine V.icmp_ne (pc := 39) (tgt := 46) hK dX12_sum_39 (by decide) (fun c => ?_) (fun c => ?_)
  · rw [if_neg c] at h
    refine V.iconst (pc := 46) (v := 3) hK (by decide) dX12_sum_46 ?_
    refine V.pick [0] (l := [(0, _)]) rfl ?_
    exact w_X12_sum_L47 hL hO N _ hk8 _ _ h
  · rw [if_pos c] at h
    refine V.iconst (pc := 42) (v := 2) hK (by decide) dX12_sum_42 ?_
    refine V.goto (pc := 43) (tgt := 47) hK dX12_sum_43 (by decide) ?_
    refine V.pick [0] (l := [(0, _)]) rfl ?_
    exact w_X12_sum_L47 hL hO N _ hk8 _ _ h
set_option maxHeartbeats 4000000 in
set_option maxRecDepth 100000 in
theorem w_X12_sum_L8 {E : v_E} {X : v_X} {sh : v_S} {P : v_P} {out : Int32 × v_M} (hL : v_Lay sh P) (hO : v_O E X cX12_sum RX12 2 6 none "sum" (v_Q1 (none) sh P out.2)) (N : Nat) (n : Nat) : ∀ (M : v_M), f_X12_sum_L8 N n M = some out → V E X (0, 0) 8 [(0, v_rf E 79)] [] sh P M := by
  have hK := hO.1
  induction n with
  | zero => intro M h; rw [f_X12_sum_L8] at h; cases h
  | succ n ih =>
    intro M h
    rw [f_X12_sum_L8] at h
    refine V.aload_n (pc := 8) (i := 0) hK rfl ⟨_, rfl⟩ dX12_sum_8 ?_
    refine V.getI (pc := 9) hK fl_RX12_355 rfl (hL.1 79 _ ls_79) dX12_sum_9 ?_
    refine V.if_ne (pc := 12) (tgt := 75) hK dX12_sum_12 (by decide) (fun c => ?_) (fun c => ?_)
    · rw [if_neg c] at h
      exact V.vret (pc := 75) hO dX12_sum_75 (v_finV h)
    · rw [if_pos c] at h
      refine V.aload_n (pc := 15) (i := 0) hK rfl ⟨_, rfl⟩ dX12_sum_15 ?_
      obtain ⟨z1, hz1, h⟩ := v_bdS h
      refine V.cV (pc := 16) (ci := 12) hK (c_X12_sign E hL N _ hz1) Y_X12_sign cv_RX12_361 (by decide) rfl (hL.1 79 _ ls_79) dX12_sum_16 (by decide) rfl (Nat.le_of_ble_eq_true rfl) ?_
      refine V.bipush (pc := 19) (v := 43) hK (by decide) dX12_sum_19 ?_
      refine V.icmp_eq (pc := 21) (tgt := 33) hK dX12_sum_21 (by decide) (fun c => ?_) (fun c => ?_)
      · rw [if_pos c] at h
        refine V.pick [0] (l := [(0, _)]) rfl ?_
        exact w_X12_sum_L33 hL hO N _ ih  _ h
      · rw [if_neg c] at h
        refine V.aload_n (pc := 24) (i := 0) hK rfl ⟨_, rfl⟩ dX12_sum_24 ?_
        obtain ⟨z2, hz2, h⟩ := v_bdS h
        refine V.cV (pc := 25) (ci := 12) hK (c_X12_sign E hL N _ hz2) Y_X12_sign cv_RX12_361 (by decide) rfl (hL.1 79 _ ls_79) dX12_sum_25 (by decide) rfl (Nat.le_of_ble_eq_true rfl) ?_
        refine V.bipush (pc := 28) (v := 45) hK (by decide) dX12_sum_28 ?_
        refine V.icmp_ne (pc := 30) (tgt := 75) hK dX12_sum_30 (by decide) (fun c => ?_) (fun c => ?_)
        · rw [if_neg c] at h
          exact V.vret (pc := 75) hO dX12_sum_75 (v_finV h)
        · rw [if_pos c] at h
          refine V.pick [0] (l := [(0, _)]) rfl ?_
          exact w_X12_sum_L33 hL hO N _ ih  _ h
set_option maxHeartbeats 4000000 in
set_option maxRecDepth 100000 in
theorem c_X12_sum (E : v_E) {sh : v_S} {P : v_P} (hL : v_Lay sh P) (N : Nat) (M : v_M) {out : Int32 × v_M} (h : f_X12_sum N M = some out) : v_Ct E 6 yX12_sum cX12_sum 2 none 0 0 [v_rf E 79] sh P M (v_Q1 (none) sh P out.2) := by
  refine v_Ct.of (by decide +kernel) (Nat.le_of_ble_eq_true rfl) (fun X hO => ?_)
  have hK : v_K E X cX12_sum RX12 2 6 := hO.1
  have hO : v_O E X cX12_sum RX12 2 6 none "sum" (v_Q1 (none) sh P out.2) := hO
  show V E X (0, 0) 0 [(0, v_rf E 79)] [] sh P M
  unfold f_X12_sum at h
  refine V.aload_n (pc := 0) (i := 0) hK rfl ⟨_, rfl⟩ dX12_sum_0 ?_
  obtain ⟨z1, hz1, h⟩ := v_bdS h
  refine V.cVv (pc := 1) (ci := 12) hK (c_X12_value E hL N _ hz1) Y_X12_value cv_RX12_414 (by decide) rfl (hL.1 79 _ ls_79) dX12_sum_1 (by decide) rfl (Nat.le_of_ble_eq_true rfl) ?_
  refine V.aload_n (pc := 4) (i := 0) hK rfl ⟨_, rfl⟩ dX12_sum_4 ?_
  obtain ⟨z2, hz2, h⟩ := v_bdS h
  refine V.cVv (pc := 5) (ci := 12) hK (c_X12_blanks E hL N _ hz2) Y_X12_blanks cv_RX12_378 (by decide) rfl (hL.1 79 _ ls_79) dX12_sum_5 (by decide) rfl (Nat.le_of_ble_eq_true rfl) ?_
  refine V.pick [0] (l := [(0, _)]) rfl ?_
  exact w_X12_sum_L8 hL hO N N  _ h
set_option maxHeartbeats 4000000 in
set_option maxRecDepth 100000 in
theorem w_X12_compared_L90 {E : v_E} {X : v_X} {sh : v_S} {P : v_P} {out : Int32 × v_M} (hL : v_Lay sh P) (hO : v_O E X cX12_compared RX12 3 7 none "compared" (v_Q1 (none) sh P out.2)) (N : Nat) (x1 : Int32) (x2 : Int32) (t0 : Int32) (t1 : Int32) (M : v_M) (h : f_X12_compared_L90 N x1 x2 t0 t1 M = some out) : V E X (0, 0) 90 [(0, v_rf E 79), (1, .int x1), (2, .int x2)] [.int t0, .int t1, v_rf E 79] sh P M := by
  have hK := hO.1
  unfold f_X12_compared_L90 at h
  refine V.iadd (pc := 90) hK dX12_compared_90 ?_
  refine V.putI (pc := 91) hK fl_RX12_358 rfl rfl ⟨rfl, rfl⟩ (hL.1 79 _ ls_79) dX12_compared_91 ?_
  refine V.nmM (fun M1 eM1 => ?_)
  have h := v_lt eM1 h
  refine V.aload_n (pc := 94) (i := 0) hK rfl ⟨_, rfl⟩ dX12_compared_94 ?_
  obtain ⟨z2, hz2, h⟩ := v_bdS h
  refine V.cVv (pc := 95) (ci := 12) hK (c_X12_sum E hL N _ hz2) Y_X12_sum cv_RX12_417 (by decide) rfl (hL.1 79 _ ls_79) dX12_compared_95 (by decide) rfl (Nat.le_of_ble_eq_true rfl) ?_
  refine V.aload_n (pc := 98) (i := 0) hK rfl ⟨_, rfl⟩ dX12_compared_98 ?_
  refine V.iload_n (pc := 99) (i := 1) hK rfl dX12_compared_99 ?_
  refine V.bipush (pc := 100) (v := 61) hK (by decide) dX12_compared_100 ?_
  refine V.icmp_ne (pc := 102) (tgt := 110) hK dX12_compared_102 (by decide) (fun c => ?_) (fun c => ?_)
  · rw [if_neg c] at h
    refine V.iload_n (pc := 110) (i := 1) hK rfl dX12_compared_110 ?_
    refine V.bipush (pc := 111) (v := 60) hK (by decide) dX12_compared_111 ?_
    refine V.icmp_ne (pc := 113) (tgt := 128) hK dX12_compared_113 (by decide) (fun c => ?_) (fun c => ?_)
    · rw [if_neg c] at h
      refine V.iload_n (pc := 128) (i := 2) hK rfl dX12_compared_128 ?_
      refine V.if_eq (pc := 129) (tgt := 137) hK dX12_compared_129 (by decide) (fun c => ?_) (fun c => ?_)
      · rw [if_pos c] at h
        refine V.bipush (pc := 137) (v := 8) hK (by decide) dX12_compared_137 ?_
        refine V.iconst (pc := 139) (v := 0) hK (by decide) dX12_compared_139 ?_
        obtain ⟨z3, hz3, h⟩ := v_bdS h
        refine V.cVv (pc := 140) (ci := 12) hK (c_X12_entry E hL N _ _ _ hz3) Y_X12_entry cv_RX12_407 (by decide) rfl (hL.1 79 _ ls_79) dX12_compared_140 (by decide) rfl (Nat.le_of_ble_eq_true rfl) ?_
        exact V.vret (pc := 143) hO dX12_compared_143 (v_finV h)
      · rw [if_neg c] at h
        refine V.bipush (pc := 132) (v := 7) hK (by decide) dX12_compared_132 ?_
        refine V.goto (pc := 134) (tgt := 139) hK dX12_compared_134 (by decide) ?_
        refine V.iconst (pc := 139) (v := 0) hK (by decide) dX12_compared_139 ?_
        obtain ⟨z4, hz4, h⟩ := v_bdS h
        refine V.cVv (pc := 140) (ci := 12) hK (c_X12_entry E hL N _ _ _ hz4) Y_X12_entry cv_RX12_407 (by decide) rfl (hL.1 79 _ ls_79) dX12_compared_140 (by decide) rfl (Nat.le_of_ble_eq_true rfl) ?_
        exact V.vret (pc := 143) hO dX12_compared_143 (v_finV h)
    · rw [if_pos c] at h
      refine V.iload_n (pc := 116) (i := 2) hK rfl dX12_compared_116 ?_
      refine V.if_eq (pc := 117) (tgt := 124) hK dX12_compared_117 (by decide) (fun c => ?_) (fun c => ?_)
      · rw [if_pos c] at h
        refine V.iconst (pc := 124) (v := 4) hK (by decide) dX12_compared_124 ?_
        refine V.goto (pc := 125) (tgt := 139) hK dX12_compared_125 (by decide) ?_
        refine V.iconst (pc := 139) (v := 0) hK (by decide) dX12_compared_139 ?_
        obtain ⟨z5, hz5, h⟩ := v_bdS h
        refine V.cVv (pc := 140) (ci := 12) hK (c_X12_entry E hL N _ _ _ hz5) Y_X12_entry cv_RX12_407 (by decide) rfl (hL.1 79 _ ls_79) dX12_compared_140 (by decide) rfl (Nat.le_of_ble_eq_true rfl) ?_
        exact V.vret (pc := 143) hO dX12_compared_143 (v_finV h)
      · rw [if_neg c] at h
        refine V.iconst (pc := 120) (v := 5) hK (by decide) dX12_compared_120 ?_
        refine V.goto (pc := 121) (tgt := 139) hK dX12_compared_121 (by decide) ?_
        refine V.iconst (pc := 139) (v := 0) hK (by decide) dX12_compared_139 ?_
        obtain ⟨z6, hz6, h⟩ := v_bdS h
        refine V.cVv (pc := 140) (ci := 12) hK (c_X12_entry E hL N _ _ _ hz6) Y_X12_entry cv_RX12_407 (by decide) rfl (hL.1 79 _ ls_79) dX12_compared_140 (by decide) rfl (Nat.le_of_ble_eq_true rfl) ?_
        exact V.vret (pc := 143) hO dX12_compared_143 (v_finV h)
  · rw [if_pos c] at h
    refine V.bipush (pc := 105) (v := 6) hK (by decide) dX12_compared_105 ?_
    refine V.goto (pc := 107) (tgt := 139) hK dX12_compared_107 (by decide) ?_
    refine V.iconst (pc := 139) (v := 0) hK (by decide) dX12_compared_139 ?_
    obtain ⟨z7, hz7, h⟩ := v_bdS h
    refine V.cVv (pc := 140) (ci := 12) hK (c_X12_entry E hL N _ _ _ hz7) Y_X12_entry cv_RX12_407 (by decide) rfl (hL.1 79 _ ls_79) dX12_compared_140 (by decide) rfl (Nat.le_of_ble_eq_true rfl) ?_
    exact V.vret (pc := 143) hO dX12_compared_143 (v_finV h)
set_option maxHeartbeats 4000000 in
set_option maxRecDepth 100000 in
theorem w_X12_compared_L75 {E : v_E} {X : v_X} {sh : v_S} {P : v_P} {out : Int32 × v_M} (hL : v_Lay sh P) (hO : v_O E X cX12_compared RX12 3 7 none "compared" (v_Q1 (none) sh P out.2)) (N : Nat) (x1 : Int32) (t0 : Int32) (M : v_M) (h : f_X12_compared_L75 N x1 t0 M = some out) : V E X (0, 0) 75 [(0, v_rf E 79), (1, .int x1)] [.int t0] sh P M := by
  have hK := hO.1
  unfold f_X12_compared_L75 at h
  refine V.istore_n (pc := 75) (i := 2) (lv' := [(0, _), (1, _), (2, _)]) hK (by decide) rfl dX12_compared_75 ?_
  refine V.aload_n (pc := 76) (i := 0) hK rfl ⟨_, rfl⟩ dX12_compared_76 ?_
  refine V.dup (pc := 77) hK rfl dX12_compared_77 ?_
  refine V.getI (pc := 78) hK fl_RX12_358 rfl (hL.1 79 _ ls_79) dX12_compared_78 ?_
  refine V.iload_n (pc := 81) (i := 2) hK rfl dX12_compared_81 ?_
  refine V.if_eq (pc := 82) (tgt := 89) hK dX12_compared_82 (by decide) (fun c => ?_) (fun c => ?_)
  · rw [if_pos c] at h
    refine V.iconst (pc := 89) (v := 0) hK (by decide) dX12_compared_89 ?_
    refine V.pick [0, 1, 2] (l := [(0, _), (1, _), (2, _)]) rfl ?_
    exact w_X12_compared_L90 hL hO N _ _ _ _ _ h
  · rw [if_neg c] at h
    refine V.iconst (pc := 85) (v := 1) hK (by decide) dX12_compared_85 ?_
    refine V.goto (pc := 86) (tgt := 90) hK dX12_compared_86 (by decide) ?_
    refine V.pick [0, 1, 2] (l := [(0, _), (1, _), (2, _)]) rfl ?_
    exact w_X12_compared_L90 hL hO N _ _ _ _ _ h
set_option maxHeartbeats 4000000 in
set_option maxRecDepth 100000 in
theorem w_X12_compared_L74 {E : v_E} {X : v_X} {sh : v_S} {P : v_P} {out : Int32 × v_M} (hL : v_Lay sh P) (hO : v_O E X cX12_compared RX12 3 7 none "compared" (v_Q1 (none) sh P out.2)) (N : Nat) (x1 : Int32) (M : v_M) (h : f_X12_compared_L74 N x1 M = some out) : V E X (0, 0) 74 [(0, v_rf E 79), (1, .int x1)] [] sh P M := by
  have hK := hO.1
  unfold f_X12_compared_L74 at h
  refine V.iconst (pc := 74) (v := 0) hK (by decide) dX12_compared_74 ?_
  refine V.pick [0, 1] (l := [(0, _), (1, _)]) rfl ?_
  exact w_X12_compared_L75 hL hO N _ _ _ h
set_option maxHeartbeats 4000000 in
set_option maxRecDepth 100000 in
theorem w_X12_compared_L37 {E : v_E} {X : v_X} {sh : v_S} {P : v_P} {out : Int32 × v_M} (hL : v_Lay sh P) (hO : v_O E X cX12_compared RX12 3 7 none "compared" (v_Q1 (none) sh P out.2)) (N : Nat) (x1 : Int32) (M : v_M) (h : f_X12_compared_L37 N x1 M = some out) : V E X (0, 0) 37 [(0, v_rf E 79), (1, .int x1)] [] sh P M := by
  have hK := hO.1
  unfold f_X12_compared_L37 at h
  refine V.aload_n (pc := 37) (i := 0) hK rfl ⟨_, rfl⟩ dX12_compared_37 ?_
  refine V.aload_n (pc := 38) (i := 0) hK rfl ⟨_, rfl⟩ dX12_compared_38 ?_
  refine V.getI (pc := 39) hK fl_RX12_358 rfl (hL.1 79 _ ls_79) dX12_compared_39 ?_
  obtain ⟨z1, hz1, h⟩ := v_bdS h
  refine V.cVv (pc := 42) (ci := 12) hK (c_X12_isCounted E hL N _ _ hz1) Y_X12_isCounted cv_RX12_404 (by decide) rfl (hL.1 79 _ ls_79) dX12_compared_42 (by decide) rfl (Nat.le_of_ble_eq_true rfl) ?_
  refine V.aload_n (pc := 45) (i := 0) hK rfl ⟨_, rfl⟩ dX12_compared_45 ?_
  refine V.dup (pc := 46) hK rfl dX12_compared_46 ?_
  refine V.getI (pc := 47) hK fl_RX12_358 rfl (hL.1 79 _ ls_79) dX12_compared_47 ?_
  refine V.iconst (pc := 50) (v := 1) hK (by decide) dX12_compared_50 ?_
  refine V.iadd (pc := 51) hK dX12_compared_51 ?_
  refine V.putI (pc := 52) hK fl_RX12_358 rfl rfl ⟨rfl, rfl⟩ (hL.1 79 _ ls_79) dX12_compared_52 ?_
  refine V.nmM (fun M2 eM2 => ?_)
  have h := v_lt eM2 h
  refine V.iload_n (pc := 55) (i := 1) hK rfl dX12_compared_55 ?_
  refine V.bipush (pc := 56) (v := 61) hK (by decide) dX12_compared_56 ?_
  refine V.icmp_eq (pc := 58) (tgt := 74) hK dX12_compared_58 (by decide) (fun c => ?_) (fun c => ?_)
  · rw [if_pos c] at h
    refine V.pick [0, 1] (l := [(0, _), (1, _)]) rfl ?_
    exact w_X12_compared_L74 hL hO N _ _ h
  · rw [if_neg c] at h
    refine V.aload_n (pc := 61) (i := 0) hK rfl ⟨_, rfl⟩ dX12_compared_61 ?_
    obtain ⟨z3, hz3, h⟩ := v_bdS h
    refine V.cV (pc := 62) (ci := 12) hK (c_X12_sign E hL N _ hz3) Y_X12_sign cv_RX12_361 (by decide) rfl (hL.1 79 _ ls_79) dX12_compared_62 (by decide) rfl (Nat.le_of_ble_eq_true rfl) ?_
    refine V.bipush (pc := 65) (v := 61) hK (by decide) dX12_compared_65 ?_
    refine V.icmp_ne (pc := 67) (tgt := 74) hK dX12_compared_67 (by decide) (fun c => ?_) (fun c => ?_)
    · rw [if_neg c] at h
      refine V.pick [0, 1] (l := [(0, _), (1, _)]) rfl ?_
      exact w_X12_compared_L74 hL hO N _ _ h
    · rw [if_pos c] at h
      refine V.iconst (pc := 70) (v := 1) hK (by decide) dX12_compared_70 ?_
      refine V.goto (pc := 71) (tgt := 75) hK dX12_compared_71 (by decide) ?_
      refine V.pick [0, 1] (l := [(0, _), (1, _)]) rfl ?_
      exact w_X12_compared_L75 hL hO N _ _ _ h
set_option maxHeartbeats 4000000 in
set_option maxRecDepth 100000 in
theorem c_X12_compared (E : v_E) {sh : v_S} {P : v_P} (hL : v_Lay sh P) (N : Nat) (M : v_M) {out : Int32 × v_M} (h : f_X12_compared N M = some out) : v_Ct E 7 yX12_compared cX12_compared 3 none 0 0 [v_rf E 79] sh P M (v_Q1 (none) sh P out.2) := by
  refine v_Ct.of (by decide +kernel) (Nat.le_of_ble_eq_true rfl) (fun X hO => ?_)
  have hK : v_K E X cX12_compared RX12 3 7 := hO.1
  have hO : v_O E X cX12_compared RX12 3 7 none "compared" (v_Q1 (none) sh P out.2) := hO
  show V E X (0, 0) 0 [(0, v_rf E 79)] [] sh P M
  unfold f_X12_compared at h
  refine V.aload_n (pc := 0) (i := 0) hK rfl ⟨_, rfl⟩ dX12_compared_0 ?_
  obtain ⟨z1, hz1, h⟩ := v_bdS h
  refine V.cVv (pc := 1) (ci := 12) hK (c_X12_sum E hL N _ hz1) Y_X12_sum cv_RX12_417 (by decide) rfl (hL.1 79 _ ls_79) dX12_compared_1 (by decide) rfl (Nat.le_of_ble_eq_true rfl) ?_
  refine V.aload_n (pc := 4) (i := 0) hK rfl ⟨_, rfl⟩ dX12_compared_4 ?_
  obtain ⟨z2, hz2, h⟩ := v_bdS h
  refine V.cV (pc := 5) (ci := 12) hK (c_X12_sign E hL N _ hz2) Y_X12_sign cv_RX12_361 (by decide) rfl (hL.1 79 _ ls_79) dX12_compared_5 (by decide) rfl (Nat.le_of_ble_eq_true rfl) ?_
  refine V.topi (fun y3 ey3 => ?_)
  have h := v_lt ey3 h
  refine V.istore_n (pc := 8) (i := 1) (lv' := [(0, _), (1, _)]) hK (by decide) rfl dX12_compared_8 ?_
  refine V.iload_n (pc := 9) (i := 1) hK rfl dX12_compared_9 ?_
  refine V.bipush (pc := 10) (v := 60) hK (by decide) dX12_compared_10 ?_
  refine V.icmp_eq (pc := 12) (tgt := 37) hK dX12_compared_12 (by decide) (fun c => ?_) (fun c => ?_)
  · rw [if_pos c] at h
    refine V.pick [0, 1] (l := [(0, _), (1, _)]) rfl ?_
    exact w_X12_compared_L37 hL hO N _ _ h
  · rw [if_neg c] at h
    refine V.iload_n (pc := 15) (i := 1) hK rfl dX12_compared_15 ?_
    refine V.bipush (pc := 16) (v := 61) hK (by decide) dX12_compared_16 ?_
    refine V.icmp_eq (pc := 18) (tgt := 37) hK dX12_compared_18 (by decide) (fun c => ?_) (fun c => ?_)
    · rw [if_pos c] at h
      refine V.pick [0, 1] (l := [(0, _), (1, _)]) rfl ?_
      exact w_X12_compared_L37 hL hO N _ _ h
    · rw [if_neg c] at h
      refine V.iload_n (pc := 21) (i := 1) hK rfl dX12_compared_21 ?_
      refine V.bipush (pc := 22) (v := 62) hK (by decide) dX12_compared_22 ?_
      refine V.icmp_eq (pc := 24) (tgt := 37) hK dX12_compared_24 (by decide) (fun c => ?_) (fun c => ?_)
      · rw [if_pos c] at h
        refine V.pick [0, 1] (l := [(0, _), (1, _)]) rfl ?_
        exact w_X12_compared_L37 hL hO N _ _ h
      · rw [if_neg c] at h
        refine V.aload_n (pc := 27) (i := 0) hK rfl ⟨_, rfl⟩ dX12_compared_27 ?_
        refine V.iconst (pc := 28) (v := 0) hK (by decide) dX12_compared_28 ?_
        refine V.aload_n (pc := 29) (i := 0) hK rfl ⟨_, rfl⟩ dX12_compared_29 ?_
        refine V.getI (pc := 30) hK fl_RX12_358 rfl (hL.1 79 _ ls_79) dX12_compared_30 ?_
        obtain ⟨z4, hz4, h⟩ := v_bdS h
        refine V.cVv (pc := 33) (ci := 12) hK (c_X12_fails E hL N _ _ _ hz4) Y_X12_fails cv_RX12_394 (by decide) rfl (hL.1 79 _ ls_79) dX12_compared_33 (by decide) rfl (Nat.le_of_ble_eq_true rfl) ?_
        exact V.vret (pc := 36) hO dX12_compared_36 (v_finV h)
set_option maxHeartbeats 4000000 in
set_option maxRecDepth 100000 in
theorem c_X12_top (E : v_E) {sh : v_S} {P : v_P} (hL : v_Lay sh P) (N : Nat) (M : v_M) {out : Int32 × v_M} (h : f_X12_top N M = some out) : v_Ct E 0 yX12_top cX12_top 1 (some .int) 0 0 [v_rf E 79] sh P M (v_Q1 (some (.int out.1)) sh P out.2) := by
  refine v_Ct.of (by decide +kernel) (Nat.le_of_ble_eq_true rfl) (fun X hO => ?_)
  have hK : v_K E X cX12_top RX12 1 0 := hO.1
  have hO : v_O E X cX12_top RX12 1 0 (some .int) "top" (v_Q1 (some (.int out.1)) sh P out.2) := hO
  show V E X (0, 0) 0 [(0, v_rf E 79)] [] sh P M
  unfold f_X12_top at h
  refine V.aload_n (pc := 0) (i := 0) hK rfl ⟨_, rfl⟩ dX12_top_0 ?_
  refine V.getI (pc := 1) hK fl_RX12_420 rfl (hL.1 79 _ ls_79) dX12_top_1 ?_
  refine V.if_ne (pc := 4) (tgt := 11) hK dX12_top_4 (by decide) (fun c => ?_) (fun c => ?_)
  · rw [if_neg c] at h
    refine V.aload_n (pc := 11) (i := 0) hK rfl ⟨_, rfl⟩ dX12_top_11 ?_
    refine V.getR (pc := 12) hK fl_RX12_128 rfl (hL.1 79 _ ls_79) (hL.2 79 52 119 rfl) dX12_top_12 ?_
    refine V.aload_n (pc := 15) (i := 0) hK rfl ⟨_, rfl⟩ dX12_top_15 ?_
    refine V.getI (pc := 16) hK fl_RX12_420 rfl (hL.1 79 _ ls_79) dX12_top_16 ?_
    refine V.iconst (pc := 19) (v := 1) hK (by decide) dX12_top_19 ?_
    refine V.isub (pc := 20) hK dX12_top_20 ?_
    obtain ⟨hb, h⟩ := v_ckS h
    refine V.iald (pc := 21) hK (hL.1 119 _ ls_119) (v_ibS hb) dX12_top_21 ?_
    exact V.iret (pc := 22) hO dX12_top_22 (v_finI h)
  · rw [if_pos c] at h
    refine V.iconst (pc := 7) (v := -1) hK (by decide) dX12_top_7 ?_
    refine V.goto (pc := 8) (tgt := 22) hK dX12_top_8 (by decide) ?_
    exact V.iret (pc := 22) hO dX12_top_22 (v_finI h)
set_option maxHeartbeats 4000000 in
set_option maxRecDepth 100000 in
theorem w_X12_opens_L40 {E : v_E} {X : v_X} {sh : v_S} {P : v_P} {out : Int32 × v_M} (hL : v_Lay sh P) (hO : v_O E X cX12_opens RX12 2 1 none "opens" (v_Q1 (none) sh P out.2)) (N : Nat) (x1 : Int32) (M : v_M) (h : f_X12_opens_L40 N x1 M = some out) : V E X (0, 0) 40 [(0, v_rf E 79), (1, .int x1)] [] sh P M := by
  have hK := hO.1
  unfold f_X12_opens_L40 at h
  refine V.aload_n (pc := 40) (i := 0) hK rfl ⟨_, rfl⟩ dX12_opens_40 ?_
  refine V.getR (pc := 41) hK fl_RX12_128 rfl (hL.1 79 _ ls_79) (hL.2 79 52 119 rfl) dX12_opens_41 ?_
  refine V.aload_n (pc := 44) (i := 0) hK rfl ⟨_, rfl⟩ dX12_opens_44 ?_
  refine V.getI (pc := 45) hK fl_RX12_420 rfl (hL.1 79 _ ls_79) dX12_opens_45 ?_
  refine V.iload_n (pc := 48) (i := 1) hK rfl dX12_opens_48 ?_
  obtain ⟨hb, h⟩ := v_ckS h
  refine V.iast (pc := 49) hK (hL.1 119 _ ls_119) (v_ibS hb) dX12_opens_49 ?_
  refine V.nmM (fun M1 eM1 => ?_)
  have h := v_lt eM1 h
  refine V.aload_n (pc := 50) (i := 0) hK rfl ⟨_, rfl⟩ dX12_opens_50 ?_
  refine V.dup (pc := 51) hK rfl dX12_opens_51 ?_
  refine V.getI (pc := 52) hK fl_RX12_420 rfl (hL.1 79 _ ls_79) dX12_opens_52 ?_
  refine V.iconst (pc := 55) (v := 1) hK (by decide) dX12_opens_55 ?_
  refine V.iadd (pc := 56) hK dX12_opens_56 ?_
  refine V.putI (pc := 57) hK fl_RX12_420 rfl rfl ⟨rfl, rfl⟩ (hL.1 79 _ ls_79) dX12_opens_57 ?_
  refine V.nmM (fun M2 eM2 => ?_)
  have h := v_lt eM2 h
  exact V.vret (pc := 60) hO dX12_opens_60 (v_finV h)
set_option maxHeartbeats 4000000 in
set_option maxRecDepth 100000 in
theorem w_X12_opens_L30 {E : v_E} {X : v_X} {sh : v_S} {P : v_P} {out : Int32 × v_M} (hL : v_Lay sh P) (hO : v_O E X cX12_opens RX12 2 1 none "opens" (v_Q1 (none) sh P out.2)) (N : Nat) (x1 : Int32) (M : v_M) (h : f_X12_opens_L30 N x1 M = some out) : V E X (0, 0) 30 [(0, v_rf E 79), (1, .int x1)] [] sh P M := by
  have hK := hO.1
  unfold f_X12_opens_L30 at h
  refine V.aload_n (pc := 30) (i := 0) hK rfl ⟨_, rfl⟩ dX12_opens_30 ?_
  refine V.dup (pc := 31) hK rfl dX12_opens_31 ?_
  refine V.getI (pc := 32) hK fl_RX12_423 rfl (hL.1 79 _ ls_79) dX12_opens_32 ?_
  refine V.iconst (pc := 35) (v := 1) hK (by decide) dX12_opens_35 ?_
  refine V.iadd (pc := 36) hK dX12_opens_36 ?_
  refine V.putI (pc := 37) hK fl_RX12_423 rfl rfl ⟨rfl, rfl⟩ (hL.1 79 _ ls_79) dX12_opens_37 ?_
  refine V.nmM (fun M1 eM1 => ?_)
  have h := v_lt eM1 h
  refine V.pick [0, 1] (l := [(0, _), (1, _)]) rfl ?_
  exact w_X12_opens_L40 hL hO N _ _ h
set_option maxHeartbeats 4000000 in
set_option maxRecDepth 100000 in
theorem w_X12_opens_L12 {E : v_E} {X : v_X} {sh : v_S} {P : v_P} {out : Int32 × v_M} (hL : v_Lay sh P) (hO : v_O E X cX12_opens RX12 2 1 none "opens" (v_Q1 (none) sh P out.2)) (N : Nat) (x1 : Int32) (M : v_M) (h : f_X12_opens_L12 N x1 M = some out) : V E X (0, 0) 12 [(0, v_rf E 79), (1, .int x1)] [] sh P M := by
  have hK := hO.1
  unfold f_X12_opens_L12 at h
  refine V.aload_n (pc := 12) (i := 0) hK rfl ⟨_, rfl⟩ dX12_opens_12 ?_
  refine V.getI (pc := 13) hK fl_RX12_423 rfl (hL.1 79 _ ls_79) dX12_opens_13 ?_
  refine V.bipush (pc := 16) (v := 10) hK (by decide) dX12_opens_16 ?_
  refine V.icmp_ne (pc := 18) (tgt := 30) hK dX12_opens_18 (by decide) (fun c => ?_) (fun c => ?_)
  · rw [if_neg c] at h
    refine V.pick [0, 1] (l := [(0, _), (1, _)]) rfl ?_
    exact w_X12_opens_L30 hL hO N _ _ h
  · rw [if_pos c] at h
    refine V.aload_n (pc := 21) (i := 0) hK rfl ⟨_, rfl⟩ dX12_opens_21 ?_
    refine V.iconst (pc := 22) (v := 2) hK (by decide) dX12_opens_22 ?_
    refine V.aload_n (pc := 23) (i := 0) hK rfl ⟨_, rfl⟩ dX12_opens_23 ?_
    refine V.getI (pc := 24) hK fl_RX12_358 rfl (hL.1 79 _ ls_79) dX12_opens_24 ?_
    obtain ⟨z1, hz1, h⟩ := v_bdS h
    refine V.cVv (pc := 27) (ci := 12) hK (c_X12_fails E hL N _ _ _ hz1) Y_X12_fails cv_RX12_394 (by decide) rfl (hL.1 79 _ ls_79) dX12_opens_27 (by decide) rfl (Nat.le_of_ble_eq_true rfl) ?_
    refine V.pick [0, 1] (l := [(0, _), (1, _)]) rfl ?_
    exact w_X12_opens_L30 hL hO N _ _ h
set_option maxHeartbeats 4000000 in
set_option maxRecDepth 100000 in
theorem c_X12_opens (E : v_E) {sh : v_S} {P : v_P} (hL : v_Lay sh P) (N : Nat) (x1 : Int32) (M : v_M) {out : Int32 × v_M} (h : f_X12_opens N x1 M = some out) : v_Ct E 1 yX12_opens cX12_opens 2 none 0 0 [v_rf E 79, .int x1] sh P M (v_Q1 (none) sh P out.2) := by
  refine v_Ct.of (by decide +kernel) (Nat.le_of_ble_eq_true rfl) (fun X hO => ?_)
  have hK : v_K E X cX12_opens RX12 2 1 := hO.1
  have hO : v_O E X cX12_opens RX12 2 1 none "opens" (v_Q1 (none) sh P out.2) := hO
  show V E X (0, 0) 0 [(0, v_rf E 79), (1, .int x1)] [] sh P M
  unfold f_X12_opens at h
  refine V.iload_n (pc := 0) (i := 1) hK rfl dX12_opens_0 ?_
  refine V.bipush (pc := 1) (v := 9) hK (by decide) dX12_opens_1 ?_
  refine V.icmp_eq (pc := 3) (tgt := 12) hK dX12_opens_3 (by decide) (fun c => ?_) (fun c => ?_)
  · rw [if_pos c] at h
    refine V.pick [0, 1] (l := [(0, _), (1, _)]) rfl ?_
    exact w_X12_opens_L12 hL hO N _ _ h
  · rw [if_neg c] at h
    refine V.iload_n (pc := 6) (i := 1) hK rfl dX12_opens_6 ?_
    refine V.bipush (pc := 7) (v := 12) hK (by decide) dX12_opens_7 ?_
    refine V.icmp_ne (pc := 9) (tgt := 40) hK dX12_opens_9 (by decide) (fun c => ?_) (fun c => ?_)
    · rw [if_neg c] at h
      refine V.pick [0, 1] (l := [(0, _), (1, _)]) rfl ?_
      exact w_X12_opens_L40 hL hO N _ _ h
    · rw [if_pos c] at h
      refine V.pick [0, 1] (l := [(0, _), (1, _)]) rfl ?_
      exact w_X12_opens_L12 hL hO N _ _ h
set_option maxHeartbeats 4000000 in
set_option maxRecDepth 100000 in
theorem w_X12_answers_L47 {E : v_E} {X : v_X} {sh : v_S} {P : v_P} {out : Int32 × v_M} (hL : v_Lay sh P) (hO : v_O E X cX12_answers RX12 2 1 none "answers" (v_Q1 (none) sh P out.2)) (N : Nat) (k0 : Int32 → v_M → Option (Int32 × v_M)) (hk0 : ∀ (x1 : Int32) (M : v_M), k0 x1 M = some out → V E X (0, 0) 0 [(0, v_rf E 79), (1, .int x1)] [] sh P M) (x1 : Int32) (t0 : Int32) (t1 : Int32) (M : v_M) (h : f_X12_answers_L47 N k0 x1 t0 t1 M = some out) : V E X (0, 0) 47 [(0, v_rf E 79), (1, .int x1)] [.int t0, .int t1, v_rf E 79] sh P M := by
  have hK := hO.1
  unfold f_X12_answers_L47 at h
  refine V.isub (pc := 47) hK dX12_answers_47 ?_
  refine V.putI (pc := 48) hK fl_RX12_423 rfl rfl ⟨rfl, rfl⟩ (hL.1 79 _ ls_79) dX12_answers_48 ?_
  refine V.nmM (fun M1 eM1 => ?_)
  have h := v_lt eM1 h
  refine V.goto (pc := 51) (tgt := 0) hK dX12_answers_51 (by decide) ?_
  refine V.pick [0, 1] (l := [(0, _), (1, _)]) rfl ?_
  exact hk0 _ _ h
set_option maxHeartbeats 4000000 in
set_option maxRecDepth 100000 in
theorem w_X12_answers_L0 {E : v_E} {X : v_X} {sh : v_S} {P : v_P} {out : Int32 × v_M} (hL : v_Lay sh P) (hO : v_O E X cX12_answers RX12 2 1 none "answers" (v_Q1 (none) sh P out.2)) (N : Nat) (n : Nat) : ∀ (x1 : Int32) (M : v_M), f_X12_answers_L0 N n x1 M = some out → V E X (0, 0) 0 [(0, v_rf E 79), (1, .int x1)] [] sh P M := by
  have hK := hO.1
  induction n with
  | zero => intro x1 M h; rw [f_X12_answers_L0] at h; cases h
  | succ n ih =>
    intro x1 M h
    rw [f_X12_answers_L0] at h
    refine V.aload_n (pc := 0) (i := 0) hK rfl ⟨_, rfl⟩ dX12_answers_0 ?_
    obtain ⟨z1, hz1, h⟩ := v_bdS h
    refine V.cV (pc := 1) (ci := 12) hK (c_X12_top E hL N _ hz1) Y_X12_top cv_RX12_426 (by decide) rfl (hL.1 79 _ ls_79) dX12_answers_1 (by decide) rfl (Nat.le_of_ble_eq_true rfl) ?_
    refine V.iload_n (pc := 4) (i := 1) hK rfl dX12_answers_4 ?_
    refine V.icmp_ne (pc := 5) (tgt := 54) hK dX12_answers_5 (by decide) (fun c => ?_) (fun c => ?_)
    · rw [if_neg c] at h
      exact V.vret (pc := 54) hO dX12_answers_54 (v_finV h)
    · rw [if_pos c] at h
      refine V.aload_n (pc := 8) (i := 0) hK rfl ⟨_, rfl⟩ dX12_answers_8 ?_
      refine V.getI (pc := 9) hK fl_RX12_355 rfl (hL.1 79 _ ls_79) dX12_answers_9 ?_
      refine V.if_ne (pc := 12) (tgt := 54) hK dX12_answers_12 (by decide) (fun c => ?_) (fun c => ?_)
      · rw [if_neg c] at h
        exact V.vret (pc := 54) hO dX12_answers_54 (v_finV h)
      · rw [if_pos c] at h
        refine V.aload_n (pc := 15) (i := 0) hK rfl ⟨_, rfl⟩ dX12_answers_15 ?_
        refine V.iload_n (pc := 16) (i := 1) hK rfl dX12_answers_16 ?_
        refine V.iconst (pc := 17) (v := 0) hK (by decide) dX12_answers_17 ?_
        obtain ⟨z2, hz2, h⟩ := v_bdS h
        refine V.cVv (pc := 18) (ci := 12) hK (c_X12_entry E hL N _ _ _ hz2) Y_X12_entry cv_RX12_407 (by decide) rfl (hL.1 79 _ ls_79) dX12_answers_18 (by decide) rfl (Nat.le_of_ble_eq_true rfl) ?_
        refine V.aload_n (pc := 21) (i := 0) hK rfl ⟨_, rfl⟩ dX12_answers_21 ?_
        refine V.dup (pc := 22) hK rfl dX12_answers_22 ?_
        refine V.getI (pc := 23) hK fl_RX12_420 rfl (hL.1 79 _ ls_79) dX12_answers_23 ?_
        refine V.iconst (pc := 26) (v := 1) hK (by decide) dX12_answers_26 ?_
        refine V.isub (pc := 27) hK dX12_answers_27 ?_
        refine V.putI (pc := 28) hK fl_RX12_420 rfl rfl ⟨rfl, rfl⟩ (hL.1 79 _ ls_79) dX12_answers_28 ?_
        refine V.nmM (fun M3 eM3 => ?_)
        have h := v_lt eM3 h
        refine V.aload_n (pc := 31) (i := 0) hK rfl ⟨_, rfl⟩ dX12_answers_31 ?_
        refine V.dup (pc := 32) hK rfl dX12_answers_32 ?_
        refine V.getI (pc := 33) hK fl_RX12_423 rfl (hL.1 79 _ ls_79) dX12_answers_33 ?_
        refine V.iload_n (pc := 36) (i := 1) hK rfl dX12_answers_36 ?_
        refine V.bipush (pc := 37) (v := 9) hK (by decide) dX12_answers_37 ?_
        refine V.icmp_ne (pc := 39) (tgt := 46) hK dX12_answers_39 (by decide) (fun c => ?_) (fun c => ?_)
        · rw [if_neg c] at h
          refine V.iconst (pc := 46) (v := 0) hK (by decide) dX12_answers_46 ?_
          refine V.pick [0, 1] (l := [(0, _), (1, _)]) rfl ?_
          exact w_X12_answers_L47 hL hO N _ ih _ _ _ _ h
        · rw [if_pos c] at h
          refine V.iconst (pc := 42) (v := 1) hK (by decide) dX12_answers_42 ?_
          refine V.goto (pc := 43) (tgt := 47) hK dX12_answers_43 (by decide) ?_
          refine V.pick [0, 1] (l := [(0, _), (1, _)]) rfl ?_
          exact w_X12_answers_L47 hL hO N _ ih _ _ _ _ h
set_option maxHeartbeats 4000000 in
set_option maxRecDepth 100000 in
theorem c_X12_answers (E : v_E) {sh : v_S} {P : v_P} (hL : v_Lay sh P) (N : Nat) (x1 : Int32) (M : v_M) {out : Int32 × v_M} (h : f_X12_answers N x1 M = some out) : v_Ct E 1 yX12_answers cX12_answers 2 none 0 0 [v_rf E 79, .int x1] sh P M (v_Q1 (none) sh P out.2) := by
  refine v_Ct.of (by decide +kernel) (Nat.le_of_ble_eq_true rfl) (fun X hO => ?_)
  have hK : v_K E X cX12_answers RX12 2 1 := hO.1
  have hO : v_O E X cX12_answers RX12 2 1 none "answers" (v_Q1 (none) sh P out.2) := hO
  show V E X (0, 0) 0 [(0, v_rf E 79), (1, .int x1)] [] sh P M
  unfold f_X12_answers at h
  refine V.pick [0, 1] (l := [(0, _), (1, _)]) rfl ?_
  exact w_X12_answers_L0 hL hO N N _ _ h
set_option maxHeartbeats 4000000 in
set_option maxRecDepth 100000 in
theorem c_X12_fact (E : v_E) {sh : v_S} {P : v_P} (hL : v_Lay sh P) (N : Nat) (M : v_M) {out : Int32 × v_M} (h : f_X12_fact N M = some out) : v_Ct E 8 yX12_fact cX12_fact 1 (some .boolean) 0 0 [v_rf E 79] sh P M (v_Q1 (some (.int out.1)) sh P out.2) := by
  refine v_Ct.of (by decide +kernel) (Nat.le_of_ble_eq_true rfl) (fun X hO => ?_)
  have hK : v_K E X cX12_fact RX12 1 8 := hO.1
  have hO : v_O E X cX12_fact RX12 1 8 (some .boolean) "fact" (v_Q1 (some (.int out.1)) sh P out.2) := hO
  show V E X (0, 0) 0 [(0, v_rf E 79)] [] sh P M
  unfold f_X12_fact at h
  refine V.aload_n (pc := 0) (i := 0) hK rfl ⟨_, rfl⟩ dX12_fact_0 ?_
  obtain ⟨z1, hz1, h⟩ := v_bdS h
  refine V.cVv (pc := 1) (ci := 12) hK (c_X12_blanks E hL N _ hz1) Y_X12_blanks cv_RX12_378 (by decide) rfl (hL.1 79 _ ls_79) dX12_fact_1 (by decide) rfl (Nat.le_of_ble_eq_true rfl) ?_
  refine V.aload_n (pc := 4) (i := 0) hK rfl ⟨_, rfl⟩ dX12_fact_4 ?_
  refine V.ldcwS (pc := 5) (i := 18) hK (show v_sx[18]? = some (RX12, _, _) from rfl) dX12_fact_5 ?_
  obtain ⟨z2, hz2, h⟩ := v_bdS h
  refine V.cV (pc := 8) (ci := 12) hK (c_X12_stands E hL N _ _ hz2) Y_X12_stands cv_RX12_381 (by decide) rfl (hL.1 79 _ ls_79) dX12_fact_8 (by decide) rfl (Nat.le_of_ble_eq_true rfl) ?_
  refine V.if_eq (pc := 11) (tgt := 32) hK dX12_fact_11 (by decide) (fun c => ?_) (fun c => ?_)
  · rw [if_pos c] at h
    refine V.aload_n (pc := 32) (i := 0) hK rfl ⟨_, rfl⟩ dX12_fact_32 ?_
    obtain ⟨z3, hz3, h⟩ := v_bdS h
    refine V.cV (pc := 33) (ci := 12) hK (c_X12_sign E hL N _ hz3) Y_X12_sign cv_RX12_361 (by decide) rfl (hL.1 79 _ ls_79) dX12_fact_33 (by decide) rfl (Nat.le_of_ble_eq_true rfl) ?_
    refine V.bipush (pc := 36) (v := 91) hK (by decide) dX12_fact_36 ?_
    refine V.icmp_ne (pc := 38) (tgt := 59) hK dX12_fact_38 (by decide) (fun c => ?_) (fun c => ?_)
    · rw [if_neg c] at h
      refine V.aload_n (pc := 59) (i := 0) hK rfl ⟨_, rfl⟩ dX12_fact_59 ?_
      obtain ⟨z4, hz4, h⟩ := v_bdS h
      refine V.cVv (pc := 60) (ci := 12) hK (c_X12_compared E hL N _ hz4) Y_X12_compared cv_RX12_434 (by decide) rfl (hL.1 79 _ ls_79) dX12_fact_60 (by decide) rfl (Nat.le_of_ble_eq_true rfl) ?_
      refine V.iconst (pc := 63) (v := 1) hK (by decide) dX12_fact_63 ?_
      obtain ⟨hb, h⟩ := v_ckS h
      exact V.zret (pc := 64) hO (v_z01 hb) dX12_fact_64 (v_finI h)
    · rw [if_pos c] at h
      refine V.aload_n (pc := 41) (i := 0) hK rfl ⟨_, rfl⟩ dX12_fact_41 ?_
      refine V.bipush (pc := 42) (v := 12) hK (by decide) dX12_fact_42 ?_
      obtain ⟨z5, hz5, h⟩ := v_bdS h
      refine V.cVv (pc := 44) (ci := 12) hK (c_X12_opens E hL N _ _ hz5) Y_X12_opens cv_RX12_431 (by decide) rfl (hL.1 79 _ ls_79) dX12_fact_44 (by decide) rfl (Nat.le_of_ble_eq_true rfl) ?_
      refine V.aload_n (pc := 47) (i := 0) hK rfl ⟨_, rfl⟩ dX12_fact_47 ?_
      refine V.dup (pc := 48) hK rfl dX12_fact_48 ?_
      refine V.getI (pc := 49) hK fl_RX12_358 rfl (hL.1 79 _ ls_79) dX12_fact_49 ?_
      refine V.iconst (pc := 52) (v := 1) hK (by decide) dX12_fact_52 ?_
      refine V.iadd (pc := 53) hK dX12_fact_53 ?_
      refine V.putI (pc := 54) hK fl_RX12_358 rfl rfl ⟨rfl, rfl⟩ (hL.1 79 _ ls_79) dX12_fact_54 ?_
      refine V.nmM (fun M6 eM6 => ?_)
      have h := v_lt eM6 h
      refine V.iconst (pc := 57) (v := 0) hK (by decide) dX12_fact_57 ?_
      obtain ⟨hb, h⟩ := v_ckS h
      exact V.zret (pc := 58) hO (v_z01 hb) dX12_fact_58 (v_finI h)
  · rw [if_neg c] at h
    refine V.aload_n (pc := 14) (i := 0) hK rfl ⟨_, rfl⟩ dX12_fact_14 ?_
    refine V.bipush (pc := 15) (v := 9) hK (by decide) dX12_fact_15 ?_
    obtain ⟨z7, hz7, h⟩ := v_bdS h
    refine V.cVv (pc := 17) (ci := 12) hK (c_X12_opens E hL N _ _ hz7) Y_X12_opens cv_RX12_431 (by decide) rfl (hL.1 79 _ ls_79) dX12_fact_17 (by decide) rfl (Nat.le_of_ble_eq_true rfl) ?_
    refine V.aload_n (pc := 20) (i := 0) hK rfl ⟨_, rfl⟩ dX12_fact_20 ?_
    refine V.dup (pc := 21) hK rfl dX12_fact_21 ?_
    refine V.getI (pc := 22) hK fl_RX12_358 rfl (hL.1 79 _ ls_79) dX12_fact_22 ?_
    refine V.iconst (pc := 25) (v := 3) hK (by decide) dX12_fact_25 ?_
    refine V.iadd (pc := 26) hK dX12_fact_26 ?_
    refine V.putI (pc := 27) hK fl_RX12_358 rfl rfl ⟨rfl, rfl⟩ (hL.1 79 _ ls_79) dX12_fact_27 ?_
    refine V.nmM (fun M8 eM8 => ?_)
    have h := v_lt eM8 h
    refine V.iconst (pc := 30) (v := 0) hK (by decide) dX12_fact_30 ?_
    obtain ⟨hb, h⟩ := v_ckS h
    exact V.zret (pc := 31) hO (v_z01 hb) dX12_fact_31 (v_finI h)
set_option maxHeartbeats 4000000 in
set_option maxRecDepth 100000 in
theorem w_X12_test_L199 {E : v_E} {X : v_X} {sh : v_S} {P : v_P} {out : Int32 × v_M} (hL : v_Lay sh P) (hO : v_O E X cX12_test RX12 5 9 none "test" (v_Q1 (none) sh P out.2)) (N : Nat) (k9 : Int32 → Int32 → v_M → Option (Int32 × v_M)) (hk9 : ∀ (x1 : Int32) (x2 : Int32) (M : v_M), k9 x1 x2 M = some out → V E X (0, 0) 9 [(0, v_rf E 79), (1, .int x1), (2, .int x2)] [] sh P M) (x1 : Int32) (x2 : Int32) (M : v_M) (h : f_X12_test_L199 N k9 x1 x2 M = some out) : V E X (0, 0) 199 [(0, v_rf E 79), (1, .int x1), (2, .int x2)] [] sh P M := by
  have hK := hO.1
  unfold f_X12_test_L199 at h
  refine V.goto (pc := 199) (tgt := 9) hK dX12_test_199 (by decide) ?_
  refine V.pick [0, 1, 2] (l := [(0, _), (1, _), (2, _)]) rfl ?_
  exact hk9 _ _ _ h
set_option maxHeartbeats 4000000 in
set_option maxRecDepth 100000 in
theorem w_X12_test_L164 {E : v_E} {X : v_X} {sh : v_S} {P : v_P} {out : Int32 × v_M} (hL : v_Lay sh P) (hO : v_O E X cX12_test RX12 5 9 none "test" (v_Q1 (none) sh P out.2)) (N : Nat) (k9 : Int32 → Int32 → v_M → Option (Int32 × v_M)) (hk9 : ∀ (x1 : Int32) (x2 : Int32) (M : v_M), k9 x1 x2 M = some out → V E X (0, 0) 9 [(0, v_rf E 79), (1, .int x1), (2, .int x2)] [] sh P M) (x1 : Int32) (x2 : Int32) (M : v_M) (h : f_X12_test_L164 N k9 x1 x2 M = some out) : V E X (0, 0) 164 [(0, v_rf E 79), (1, .int x1), (2, .int x2)] [] sh P M := by
  have hK := hO.1
  unfold f_X12_test_L164 at h
  refine V.aload_n (pc := 164) (i := 0) hK rfl ⟨_, rfl⟩ dX12_test_164 ?_
  refine V.dup (pc := 165) hK rfl dX12_test_165 ?_
  refine V.getI (pc := 166) hK fl_RX12_358 rfl (hL.1 79 _ ls_79) dX12_test_166 ?_
  refine V.iconst (pc := 169) (v := 1) hK (by decide) dX12_test_169 ?_
  refine V.iadd (pc := 170) hK dX12_test_170 ?_
  refine V.putI (pc := 171) hK fl_RX12_358 rfl rfl ⟨rfl, rfl⟩ (hL.1 79 _ ls_79) dX12_test_171 ?_
  refine V.nmM (fun M1 eM1 => ?_)
  have h := v_lt eM1 h
  refine V.aload_n (pc := 174) (i := 0) hK rfl ⟨_, rfl⟩ dX12_test_174 ?_
  refine V.dup (pc := 175) hK rfl dX12_test_175 ?_
  refine V.getI (pc := 176) hK fl_RX12_420 rfl (hL.1 79 _ ls_79) dX12_test_176 ?_
  refine V.iconst (pc := 179) (v := 1) hK (by decide) dX12_test_179 ?_
  refine V.isub (pc := 180) hK dX12_test_180 ?_
  refine V.putI (pc := 181) hK fl_RX12_420 rfl rfl ⟨rfl, rfl⟩ (hL.1 79 _ ls_79) dX12_test_181 ?_
  refine V.nmM (fun M2 eM2 => ?_)
  have h := v_lt eM2 h
  refine V.aload_n (pc := 184) (i := 0) hK rfl ⟨_, rfl⟩ dX12_test_184 ?_
  refine V.dup (pc := 185) hK rfl dX12_test_185 ?_
  refine V.getI (pc := 186) hK fl_RX12_423 rfl (hL.1 79 _ ls_79) dX12_test_186 ?_
  refine V.iconst (pc := 189) (v := 1) hK (by decide) dX12_test_189 ?_
  refine V.isub (pc := 190) hK dX12_test_190 ?_
  refine V.putI (pc := 191) hK fl_RX12_423 rfl rfl ⟨rfl, rfl⟩ (hL.1 79 _ ls_79) dX12_test_191 ?_
  refine V.nmM (fun M3 eM3 => ?_)
  have h := v_lt eM3 h
  refine V.goto (pc := 194) (tgt := 199) hK dX12_test_194 (by decide) ?_
  refine V.pick [0, 1, 2] (l := [(0, _), (1, _), (2, _)]) rfl ?_
  exact w_X12_test_L199 hL hO N _ hk9 _ _ _ h
set_option maxHeartbeats 4000000 in
set_option maxRecDepth 100000 in
theorem w_X12_test_L122 {E : v_E} {X : v_X} {sh : v_S} {P : v_P} {out : Int32 × v_M} (hL : v_Lay sh P) (hO : v_O E X cX12_test RX12 5 9 none "test" (v_Q1 (none) sh P out.2)) (N : Nat) (k9 : Int32 → Int32 → v_M → Option (Int32 × v_M)) (hk9 : ∀ (x1 : Int32) (x2 : Int32) (M : v_M), k9 x1 x2 M = some out → V E X (0, 0) 9 [(0, v_rf E 79), (1, .int x1), (2, .int x2)] [] sh P M) (x2 : Int32) (t0 : Int32) (t1 : Int32) (M : v_M) (h : f_X12_test_L122 N k9 x2 t0 t1 M = some out) : V E X (0, 0) 122 [(0, v_rf E 79), (2, .int x2)] [.int t0, .int t1, v_rf E 79] sh P M := by
  have hK := hO.1
  unfold f_X12_test_L122 at h
  refine V.iadd (pc := 122) hK dX12_test_122 ?_
  refine V.putI (pc := 123) hK fl_RX12_358 rfl rfl ⟨rfl, rfl⟩ (hL.1 79 _ ls_79) dX12_test_123 ?_
  refine V.nmM (fun M1 eM1 => ?_)
  have h := v_lt eM1 h
  refine V.iconst (pc := 126) (v := 1) hK (by decide) dX12_test_126 ?_
  refine V.istore_n (pc := 127) (i := 1) (lv' := [(0, _), (1, _), (2, _)]) hK (by decide) rfl dX12_test_127 ?_
  refine V.goto (pc := 128) (tgt := 199) hK dX12_test_128 (by decide) ?_
  refine V.pick [0, 1, 2] (l := [(0, _), (1, _), (2, _)]) rfl ?_
  exact w_X12_test_L199 hL hO N _ hk9 _ _ _ h
set_option maxHeartbeats 4000000 in
set_option maxRecDepth 100000 in
theorem w_X12_test_L105 {E : v_E} {X : v_X} {sh : v_S} {P : v_P} {out : Int32 × v_M} (hL : v_Lay sh P) (hO : v_O E X cX12_test RX12 5 9 none "test" (v_Q1 (none) sh P out.2)) (N : Nat) (k9 : Int32 → Int32 → v_M → Option (Int32 × v_M)) (hk9 : ∀ (x1 : Int32) (x2 : Int32) (M : v_M), k9 x1 x2 M = some out → V E X (0, 0) 9 [(0, v_rf E 79), (1, .int x1), (2, .int x2)] [] sh P M) (x2 : Int32) (x3 : Int32) (t0 : Int32) (M : v_M) (h : f_X12_test_L105 N k9 x2 x3 t0 M = some out) : V E X (0, 0) 105 [(0, v_rf E 79), (2, .int x2), (3, .int x3)] [.int t0, v_rf E 79] sh P M := by
  have hK := hO.1
  unfold f_X12_test_L105 at h
  obtain ⟨z1, hz1, h⟩ := v_bdS h
  refine V.cVv (pc := 105) (ci := 12) hK (c_X12_opens E hL N _ _ hz1) Y_X12_opens cv_RX12_431 (by decide) rfl (hL.1 79 _ ls_79) dX12_test_105 (by decide) rfl (Nat.le_of_ble_eq_true rfl) ?_
  refine V.aload_n (pc := 108) (i := 0) hK rfl ⟨_, rfl⟩ dX12_test_108 ?_
  refine V.dup (pc := 109) hK rfl dX12_test_109 ?_
  refine V.getI (pc := 110) hK fl_RX12_358 rfl (hL.1 79 _ ls_79) dX12_test_110 ?_
  refine V.iload_n (pc := 113) (i := 3) hK rfl dX12_test_113 ?_
  refine V.if_eq (pc := 114) (tgt := 121) hK dX12_test_114 (by decide) (fun c => ?_) (fun c => ?_)
  · rw [if_pos c] at h
    refine V.iconst (pc := 121) (v := 2) hK (by decide) dX12_test_121 ?_
    refine V.pick [0, 2] (l := [(0, _), (2, _)]) rfl ?_
    exact w_X12_test_L122 hL hO N _ hk9 _ _ _ _ h
  · rw [if_neg c] at h
    refine V.iconst (pc := 117) (v := 3) hK (by decide) dX12_test_117 ?_
    refine V.goto (pc := 118) (tgt := 122) hK dX12_test_118 (by decide) ?_
    refine V.pick [0, 2] (l := [(0, _), (2, _)]) rfl ?_
    exact w_X12_test_L122 hL hO N _ hk9 _ _ _ _ h
set_option maxHeartbeats 4000000 in
set_option maxRecDepth 100000 in
theorem w_X12_test_L93 {E : v_E} {X : v_X} {sh : v_S} {P : v_P} {out : Int32 × v_M} (hL : v_Lay sh P) (hO : v_O E X cX12_test RX12 5 9 none "test" (v_Q1 (none) sh P out.2)) (N : Nat) (k9 : Int32 → Int32 → v_M → Option (Int32 × v_M)) (hk9 : ∀ (x1 : Int32) (x2 : Int32) (M : v_M), k9 x1 x2 M = some out → V E X (0, 0) 9 [(0, v_rf E 79), (1, .int x1), (2, .int x2)] [] sh P M) (x2 : Int32) (x3 : Int32) (M : v_M) (h : f_X12_test_L93 N k9 x2 x3 M = some out) : V E X (0, 0) 93 [(0, v_rf E 79), (2, .int x2), (3, .int x3)] [] sh P M := by
  have hK := hO.1
  unfold f_X12_test_L93 at h
  refine V.aload_n (pc := 93) (i := 0) hK rfl ⟨_, rfl⟩ dX12_test_93 ?_
  refine V.iload_n (pc := 94) (i := 3) hK rfl dX12_test_94 ?_
  refine V.if_eq (pc := 95) (tgt := 103) hK dX12_test_95 (by decide) (fun c => ?_) (fun c => ?_)
  · rw [if_pos c] at h
    refine V.bipush (pc := 103) (v := 11) hK (by decide) dX12_test_103 ?_
    refine V.pick [0, 2, 3] (l := [(0, _), (2, _), (3, _)]) rfl ?_
    exact w_X12_test_L105 hL hO N _ hk9 _ _ _ _ h
  · rw [if_neg c] at h
    refine V.bipush (pc := 98) (v := 10) hK (by decide) dX12_test_98 ?_
    refine V.goto (pc := 100) (tgt := 105) hK dX12_test_100 (by decide) ?_
    refine V.pick [0, 2, 3] (l := [(0, _), (2, _), (3, _)]) rfl ?_
    exact w_X12_test_L105 hL hO N _ hk9 _ _ _ _ h
set_option maxHeartbeats 4000000 in
set_option maxRecDepth 100000 in
theorem w_X12_test_L82 {E : v_E} {X : v_X} {sh : v_S} {P : v_P} {out : Int32 × v_M} (hL : v_Lay sh P) (hO : v_O E X cX12_test RX12 5 9 none "test" (v_Q1 (none) sh P out.2)) (N : Nat) (k9 : Int32 → Int32 → v_M → Option (Int32 × v_M)) (hk9 : ∀ (x1 : Int32) (x2 : Int32) (M : v_M), k9 x1 x2 M = some out → V E X (0, 0) 9 [(0, v_rf E 79), (1, .int x1), (2, .int x2)] [] sh P M) (x2 : Int32) (x3 : Int32) (x4 : Int32) (M : v_M) (h : f_X12_test_L82 N k9 x2 x3 x4 M = some out) : V E X (0, 0) 82 [(0, v_rf E 79), (2, .int x2), (3, .int x3), (4, .int x4)] [] sh P M := by
  have hK := hO.1
  unfold f_X12_test_L82 at h
  refine V.iload (pc := 82) (i := 4) hK rfl dX12_test_82 ?_
  refine V.if_eq (pc := 84) (tgt := 93) hK dX12_test_84 (by decide) (fun c => ?_) (fun c => ?_)
  · rw [if_pos c] at h
    refine V.pick [0, 2, 3] (l := [(0, _), (2, _), (3, _)]) rfl ?_
    exact w_X12_test_L93 hL hO N _ hk9 _ _ _ h
  · rw [if_neg c] at h
    refine V.aload_n (pc := 87) (i := 0) hK rfl ⟨_, rfl⟩ dX12_test_87 ?_
    refine V.bipush (pc := 88) (v := 11) hK (by decide) dX12_test_88 ?_
    obtain ⟨z1, hz1, h⟩ := v_bdS h
    refine V.cVv (pc := 90) (ci := 12) hK (c_X12_answers E hL N _ _ hz1) Y_X12_answers cv_RX12_440 (by decide) rfl (hL.1 79 _ ls_79) dX12_test_90 (by decide) rfl (Nat.le_of_ble_eq_true rfl) ?_
    refine V.pick [0, 2, 3] (l := [(0, _), (2, _), (3, _)]) rfl ?_
    exact w_X12_test_L93 hL hO N _ hk9 _ _ _ h
set_option maxHeartbeats 4000000 in
set_option maxRecDepth 100000 in
theorem w_X12_test_L36 {E : v_E} {X : v_X} {sh : v_S} {P : v_P} {out : Int32 × v_M} (hL : v_Lay sh P) (hO : v_O E X cX12_test RX12 5 9 none "test" (v_Q1 (none) sh P out.2)) (N : Nat) (k9 : Int32 → Int32 → v_M → Option (Int32 × v_M)) (hk9 : ∀ (x1 : Int32) (x2 : Int32) (M : v_M), k9 x1 x2 M = some out → V E X (0, 0) 9 [(0, v_rf E 79), (1, .int x1), (2, .int x2)] [] sh P M) (x2 : Int32) (t0 : Int32) (M : v_M) (h : f_X12_test_L36 N k9 x2 t0 M = some out) : V E X (0, 0) 36 [(0, v_rf E 79), (2, .int x2)] [.int t0] sh P M := by
  have hK := hO.1
  unfold f_X12_test_L36 at h
  refine V.istore_n (pc := 36) (i := 1) (lv' := [(0, _), (1, _), (2, _)]) hK (by decide) rfl dX12_test_36 ?_
  refine V.goto (pc := 37) (tgt := 9) hK dX12_test_37 (by decide) ?_
  refine V.pick [0, 1, 2] (l := [(0, _), (1, _), (2, _)]) rfl ?_
  exact hk9 _ _ _ h
set_option maxHeartbeats 4000000 in
set_option maxRecDepth 100000 in
theorem w_X12_test_L9 {E : v_E} {X : v_X} {sh : v_S} {P : v_P} {out : Int32 × v_M} (hL : v_Lay sh P) (hO : v_O E X cX12_test RX12 5 9 none "test" (v_Q1 (none) sh P out.2)) (N : Nat) (n : Nat) : ∀ (x1 : Int32) (x2 : Int32) (M : v_M), f_X12_test_L9 N n x1 x2 M = some out → V E X (0, 0) 9 [(0, v_rf E 79), (1, .int x1), (2, .int x2)] [] sh P M := by
  have hK := hO.1
  induction n with
  | zero => intro x1 x2 M h; rw [f_X12_test_L9] at h; cases h
  | succ n ih =>
    intro x1 x2 M h
    rw [f_X12_test_L9] at h
    refine V.iload_n (pc := 9) (i := 2) hK rfl dX12_test_9 ?_
    refine V.if_eq (pc := 10) (tgt := 202) hK dX12_test_10 (by decide) (fun c => ?_) (fun c => ?_)
    · rw [if_pos c] at h
      exact V.vret (pc := 202) hO dX12_test_202 (v_finV h)
    · rw [if_neg c] at h
      refine V.aload_n (pc := 13) (i := 0) hK rfl ⟨_, rfl⟩ dX12_test_13 ?_
      refine V.getI (pc := 14) hK fl_RX12_355 rfl (hL.1 79 _ ls_79) dX12_test_14 ?_
      refine V.if_ne (pc := 17) (tgt := 202) hK dX12_test_17 (by decide) (fun c => ?_) (fun c => ?_)
      · rw [if_neg c] at h
        exact V.vret (pc := 202) hO dX12_test_202 (v_finV h)
      · rw [if_pos c] at h
        refine V.iload_n (pc := 20) (i := 1) hK rfl dX12_test_20 ?_
        refine V.if_eq (pc := 21) (tgt := 40) hK dX12_test_21 (by decide) (fun c => ?_) (fun c => ?_)
        · rw [if_pos c] at h
          refine V.aload_n (pc := 40) (i := 0) hK rfl ⟨_, rfl⟩ dX12_test_40 ?_
          refine V.bipush (pc := 41) (v := 9) hK (by decide) dX12_test_41 ?_
          obtain ⟨z1, hz1, h⟩ := v_bdS h
          refine V.cVv (pc := 43) (ci := 12) hK (c_X12_answers E hL N _ _ hz1) Y_X12_answers cv_RX12_440 (by decide) rfl (hL.1 79 _ ls_79) dX12_test_43 (by decide) rfl (Nat.le_of_ble_eq_true rfl) ?_
          refine V.aload_n (pc := 46) (i := 0) hK rfl ⟨_, rfl⟩ dX12_test_46 ?_
          obtain ⟨z2, hz2, h⟩ := v_bdS h
          refine V.cVv (pc := 47) (ci := 12) hK (c_X12_blanks E hL N _ hz2) Y_X12_blanks cv_RX12_378 (by decide) rfl (hL.1 79 _ ls_79) dX12_test_47 (by decide) rfl (Nat.le_of_ble_eq_true rfl) ?_
          refine V.aload_n (pc := 50) (i := 0) hK rfl ⟨_, rfl⟩ dX12_test_50 ?_
          refine V.ldcwS (pc := 51) (i := 19) hK (show v_sx[19]? = some (RX12, _, _) from rfl) dX12_test_51 ?_
          obtain ⟨z3, hz3, h⟩ := v_bdS h
          refine V.cV (pc := 54) (ci := 12) hK (c_X12_stands E hL N _ _ hz3) Y_X12_stands cv_RX12_381 (by decide) rfl (hL.1 79 _ ls_79) dX12_test_54 (by decide) rfl (Nat.le_of_ble_eq_true rfl) ?_
          refine V.topi (fun y4 ey4 => ?_)
          have h := v_lt ey4 h
          refine V.istore_n (pc := 57) (i := 3) (lv' := [(0, _), (1, _), (2, _), (3, _)]) hK (by decide) rfl dX12_test_57 ?_
          refine V.aload_n (pc := 58) (i := 0) hK rfl ⟨_, rfl⟩ dX12_test_58 ?_
          refine V.ldcwS (pc := 59) (i := 20) hK (show v_sx[20]? = some (RX12, _, _) from rfl) dX12_test_59 ?_
          obtain ⟨z5, hz5, h⟩ := v_bdS h
          refine V.cV (pc := 62) (ci := 12) hK (c_X12_stands E hL N _ _ hz5) Y_X12_stands cv_RX12_381 (by decide) rfl (hL.1 79 _ ls_79) dX12_test_62 (by decide) rfl (Nat.le_of_ble_eq_true rfl) ?_
          refine V.topi (fun y6 ey6 => ?_)
          have h := v_lt ey6 h
          refine V.istore (pc := 65) (i := 4) (lv' := [(0, _), (1, _), (2, _), (3, _), (4, _)]) hK (by decide) rfl dX12_test_65 ?_
          refine V.aload_n (pc := 67) (i := 0) hK rfl ⟨_, rfl⟩ dX12_test_67 ?_
          refine V.bipush (pc := 68) (v := 10) hK (by decide) dX12_test_68 ?_
          obtain ⟨z7, hz7, h⟩ := v_bdS h
          refine V.cVv (pc := 70) (ci := 12) hK (c_X12_answers E hL N _ _ hz7) Y_X12_answers cv_RX12_440 (by decide) rfl (hL.1 79 _ ls_79) dX12_test_70 (by decide) rfl (Nat.le_of_ble_eq_true rfl) ?_
          refine V.iload_n (pc := 73) (i := 3) hK rfl dX12_test_73 ?_
          refine V.if_ne (pc := 74) (tgt := 82) hK dX12_test_74 (by decide) (fun c => ?_) (fun c => ?_)
          · rw [if_neg c] at h
            refine V.pick [0, 2, 3, 4] (l := [(0, _), (2, _), (3, _), (4, _)]) rfl ?_
            exact w_X12_test_L82 hL hO N _ ih _ _ _ _ h
          · rw [if_pos c] at h
            refine V.iload (pc := 77) (i := 4) hK rfl dX12_test_77 ?_
            refine V.if_eq (pc := 79) (tgt := 131) hK dX12_test_79 (by decide) (fun c => ?_) (fun c => ?_)
            · rw [if_pos c] at h
              refine V.aload_n (pc := 131) (i := 0) hK rfl ⟨_, rfl⟩ dX12_test_131 ?_
              refine V.bipush (pc := 132) (v := 11) hK (by decide) dX12_test_132 ?_
              obtain ⟨z8, hz8, h⟩ := v_bdS h
              refine V.cVv (pc := 134) (ci := 12) hK (c_X12_answers E hL N _ _ hz8) Y_X12_answers cv_RX12_440 (by decide) rfl (hL.1 79 _ ls_79) dX12_test_134 (by decide) rfl (Nat.le_of_ble_eq_true rfl) ?_
              refine V.aload_n (pc := 137) (i := 0) hK rfl ⟨_, rfl⟩ dX12_test_137 ?_
              obtain ⟨z9, hz9, h⟩ := v_bdS h
              refine V.cV (pc := 138) (ci := 12) hK (c_X12_top E hL N _ hz9) Y_X12_top cv_RX12_426 (by decide) rfl (hL.1 79 _ ls_79) dX12_test_138 (by decide) rfl (Nat.le_of_ble_eq_true rfl) ?_
              refine V.bipush (pc := 141) (v := 12) hK (by decide) dX12_test_141 ?_
              refine V.icmp_ne (pc := 143) (tgt := 197) hK dX12_test_143 (by decide) (fun c => ?_) (fun c => ?_)
              · rw [if_neg c] at h
                refine V.iconst (pc := 197) (v := 0) hK (by decide) dX12_test_197 ?_
                refine V.istore_n (pc := 198) (i := 2) (lv' := [(0, _), (1, _), (2, _), (3, _), (4, _)]) hK (by decide) rfl dX12_test_198 ?_
                refine V.pick [0, 1, 2] (l := [(0, _), (1, _), (2, _)]) rfl ?_
                exact w_X12_test_L199 hL hO N _ ih _ _ _ h
              · rw [if_pos c] at h
                refine V.aload_n (pc := 146) (i := 0) hK rfl ⟨_, rfl⟩ dX12_test_146 ?_
                obtain ⟨z10, hz10, h⟩ := v_bdS h
                refine V.cV (pc := 147) (ci := 12) hK (c_X12_sign E hL N _ hz10) Y_X12_sign cv_RX12_361 (by decide) rfl (hL.1 79 _ ls_79) dX12_test_147 (by decide) rfl (Nat.le_of_ble_eq_true rfl) ?_
                refine V.bipush (pc := 150) (v := 93) hK (by decide) dX12_test_150 ?_
                refine V.icmp_eq (pc := 152) (tgt := 164) hK dX12_test_152 (by decide) (fun c => ?_) (fun c => ?_)
                · rw [if_pos c] at h
                  refine V.pick [0, 1, 2] (l := [(0, _), (1, _), (2, _)]) rfl ?_
                  exact w_X12_test_L164 hL hO N _ ih _ _ _ h
                · rw [if_neg c] at h
                  refine V.aload_n (pc := 155) (i := 0) hK rfl ⟨_, rfl⟩ dX12_test_155 ?_
                  refine V.iconst (pc := 156) (v := 0) hK (by decide) dX12_test_156 ?_
                  refine V.aload_n (pc := 157) (i := 0) hK rfl ⟨_, rfl⟩ dX12_test_157 ?_
                  refine V.getI (pc := 158) hK fl_RX12_358 rfl (hL.1 79 _ ls_79) dX12_test_158 ?_
                  obtain ⟨z11, hz11, h⟩ := v_bdS h
                  refine V.cVv (pc := 161) (ci := 12) hK (c_X12_fails E hL N _ _ _ hz11) Y_X12_fails cv_RX12_394 (by decide) rfl (hL.1 79 _ ls_79) dX12_test_161 (by decide) rfl (Nat.le_of_ble_eq_true rfl) ?_
                  refine V.pick [0, 1, 2] (l := [(0, _), (1, _), (2, _)]) rfl ?_
                  exact w_X12_test_L164 hL hO N _ ih _ _ _ h
            · rw [if_neg c] at h
              refine V.pick [0, 2, 3, 4] (l := [(0, _), (2, _), (3, _), (4, _)]) rfl ?_
              exact w_X12_test_L82 hL hO N _ ih _ _ _ _ h
        · rw [if_neg c] at h
          refine V.aload_n (pc := 24) (i := 0) hK rfl ⟨_, rfl⟩ dX12_test_24 ?_
          obtain ⟨z12, hz12, h⟩ := v_bdS h
          refine V.cV (pc := 25) (ci := 12) hK (c_X12_fact E hL N _ hz12) Y_X12_fact cv_RX12_437 (by decide) rfl (hL.1 79 _ ls_79) dX12_test_25 (by decide) rfl (Nat.le_of_ble_eq_true rfl) ?_
          refine V.if_ne (pc := 28) (tgt := 35) hK dX12_test_28 (by decide) (fun c => ?_) (fun c => ?_)
          · rw [if_neg c] at h
            refine V.iconst (pc := 35) (v := 0) hK (by decide) dX12_test_35 ?_
            refine V.pick [0, 2] (l := [(0, _), (2, _)]) rfl ?_
            exact w_X12_test_L36 hL hO N _ ih _ _ _ h
          · rw [if_pos c] at h
            refine V.iconst (pc := 31) (v := 1) hK (by decide) dX12_test_31 ?_
            refine V.goto (pc := 32) (tgt := 36) hK dX12_test_32 (by decide) ?_
            refine V.pick [0, 2] (l := [(0, _), (2, _)]) rfl ?_
            exact w_X12_test_L36 hL hO N _ ih _ _ _ h
set_option maxHeartbeats 4000000 in
set_option maxRecDepth 100000 in
theorem c_X12_test (E : v_E) {sh : v_S} {P : v_P} (hL : v_Lay sh P) (N : Nat) (M : v_M) {out : Int32 × v_M} (h : f_X12_test N M = some out) : v_Ct E 9 yX12_test cX12_test 5 none 0 0 [v_rf E 79] sh P M (v_Q1 (none) sh P out.2) := by
  refine v_Ct.of (by decide +kernel) (Nat.le_of_ble_eq_true rfl) (fun X hO => ?_)
  have hK : v_K E X cX12_test RX12 5 9 := hO.1
  have hO : v_O E X cX12_test RX12 5 9 none "test" (v_Q1 (none) sh P out.2) := hO
  show V E X (0, 0) 0 [(0, v_rf E 79)] [] sh P M
  unfold f_X12_test at h
  refine V.aload_n (pc := 0) (i := 0) hK rfl ⟨_, rfl⟩ dX12_test_0 ?_
  refine V.iconst (pc := 1) (v := 0) hK (by decide) dX12_test_1 ?_
  refine V.putI (pc := 2) hK fl_RX12_420 rfl rfl ⟨rfl, rfl⟩ (hL.1 79 _ ls_79) dX12_test_2 ?_
  refine V.nmM (fun M1 eM1 => ?_)
  have h := v_lt eM1 h
  refine V.iconst (pc := 5) (v := 1) hK (by decide) dX12_test_5 ?_
  refine V.istore_n (pc := 6) (i := 1) (lv' := [(0, _), (1, _)]) hK (by decide) rfl dX12_test_6 ?_
  refine V.iconst (pc := 7) (v := 1) hK (by decide) dX12_test_7 ?_
  refine V.istore_n (pc := 8) (i := 2) (lv' := [(0, _), (1, _), (2, _)]) hK (by decide) rfl dX12_test_8 ?_
  refine V.pick [0, 1, 2] (l := [(0, _), (1, _), (2, _)]) rfl ?_
  exact w_X12_test_L9 hL hO N N _ _ _ h
set_option maxHeartbeats 4000000 in
set_option maxRecDepth 100000 in
theorem w_X12_clause_L309 {E : v_E} {X : v_X} {sh : v_S} {P : v_P} {out : Int32 × v_M} (hL : v_Lay sh P) (hO : v_O E X cX12_clause RX12 6 10 none "clause" (v_Q1 (none) sh P out.2)) (N : Nat) (x4 : Int32) (M : v_M) (h : f_X12_clause_L309 N x4 M = some out) : V E X (0, 0) 309 [(0, v_rf E 79), (4, .int x4)] [] sh P M := by
  have hK := hO.1
  unfold f_X12_clause_L309 at h
  refine V.aload_n (pc := 309) (i := 0) hK rfl ⟨_, rfl⟩ dX12_clause_309 ?_
  refine V.getR (pc := 310) hK fl_RX12_125 rfl (hL.1 79 _ ls_79) (hL.2 79 51 118 rfl) dX12_clause_310 ?_
  refine V.iload (pc := 313) (i := 4) hK rfl dX12_clause_313 ?_
  refine V.aload_n (pc := 315) (i := 0) hK rfl ⟨_, rfl⟩ dX12_clause_315 ?_
  refine V.getI (pc := 316) hK fl_RX12_388 rfl (hL.1 79 _ ls_79) dX12_clause_316 ?_
  obtain ⟨hb, h⟩ := v_ckS h
  refine V.iast (pc := 319) hK (hL.1 118 _ ls_118) (v_ibS hb) dX12_clause_319 ?_
  refine V.nmM (fun M1 eM1 => ?_)
  have h := v_lt eM1 h
  exact V.vret (pc := 320) hO dX12_clause_320 (v_finV h)
set_option maxHeartbeats 4000000 in
set_option maxRecDepth 100000 in
theorem w_X12_clause_L277 {E : v_E} {X : v_X} {sh : v_S} {P : v_P} {out : Int32 × v_M} (hL : v_Lay sh P) (hO : v_O E X cX12_clause RX12 6 10 none "clause" (v_Q1 (none) sh P out.2)) (N : Nat) (x4 : Int32) (M : v_M) (h : f_X12_clause_L277 N x4 M = some out) : V E X (0, 0) 277 [(0, v_rf E 79), (4, .int x4)] [] sh P M := by
  have hK := hO.1
  unfold f_X12_clause_L277 at h
  refine V.aload_n (pc := 277) (i := 0) hK rfl ⟨_, rfl⟩ dX12_clause_277 ?_
  refine V.getR (pc := 278) hK fl_RX12_122 rfl (hL.1 79 _ ls_79) (hL.2 79 50 117 rfl) dX12_clause_278 ?_
  refine V.iload (pc := 281) (i := 4) hK rfl dX12_clause_281 ?_
  refine V.aload_n (pc := 283) (i := 0) hK rfl ⟨_, rfl⟩ dX12_clause_283 ?_
  refine V.getI (pc := 284) hK fl_RX12_388 rfl (hL.1 79 _ ls_79) dX12_clause_284 ?_
  obtain ⟨hb, h⟩ := v_ckS h
  refine V.iast (pc := 287) hK (hL.1 117 _ ls_117) (v_ibS hb) dX12_clause_287 ?_
  refine V.nmM (fun M1 eM1 => ?_)
  have h := v_lt eM1 h
  refine V.aload_n (pc := 288) (i := 0) hK rfl ⟨_, rfl⟩ dX12_clause_288 ?_
  refine V.getI (pc := 289) hK fl_RX12_355 rfl (hL.1 79 _ ls_79) dX12_clause_289 ?_
  refine V.if_ne (pc := 292) (tgt := 309) hK dX12_clause_292 (by decide) (fun c => ?_) (fun c => ?_)
  · rw [if_neg c] at h
    refine V.pick [0, 4] (l := [(0, _), (4, _)]) rfl ?_
    exact w_X12_clause_L309 hL hO N _ _ h
  · rw [if_pos c] at h
    refine V.aload_n (pc := 295) (i := 0) hK rfl ⟨_, rfl⟩ dX12_clause_295 ?_
    refine V.ldcwS (pc := 296) (i := 17) hK (show v_sx[17]? = some (RX12, _, _) from rfl) dX12_clause_296 ?_
    obtain ⟨z2, hz2, h⟩ := v_bdS h
    refine V.cV (pc := 299) (ci := 12) hK (c_X12_takes_ E hL N _ _ hz2) Y_X12_takes_ cv_RX12_452 (by decide) rfl (hL.1 79 _ ls_79) dX12_clause_299 (by decide) rfl (Nat.le_of_ble_eq_true rfl) ?_
    refine V.if_eq (pc := 302) (tgt := 309) hK dX12_clause_302 (by decide) (fun c => ?_) (fun c => ?_)
    · rw [if_pos c] at h
      refine V.pick [0, 4] (l := [(0, _), (4, _)]) rfl ?_
      exact w_X12_clause_L309 hL hO N _ _ h
    · rw [if_neg c] at h
      refine V.aload_n (pc := 305) (i := 0) hK rfl ⟨_, rfl⟩ dX12_clause_305 ?_
      obtain ⟨z3, hz3, h⟩ := v_bdS h
      refine V.cVv (pc := 306) (ci := 12) hK (c_X12_test E hL N _ hz3) Y_X12_test cv_RX12_459 (by decide) rfl (hL.1 79 _ ls_79) dX12_clause_306 (by decide) rfl (Nat.le_of_ble_eq_true rfl) ?_
      refine V.pick [0, 4] (l := [(0, _), (4, _)]) rfl ?_
      exact w_X12_clause_L309 hL hO N _ _ h
set_option maxHeartbeats 4000000 in
set_option maxRecDepth 100000 in
theorem w_X12_clause_L231 {E : v_E} {X : v_X} {sh : v_S} {P : v_P} {out : Int32 × v_M} (hL : v_Lay sh P) (hO : v_O E X cX12_clause RX12 6 10 none "clause" (v_Q1 (none) sh P out.2)) (N : Nat) (x4 : Int32) (x5 : Int32) (M : v_M) (h : f_X12_clause_L231 N x4 x5 M = some out) : V E X (0, 0) 231 [(0, v_rf E 79), (4, .int x4), (5, .int x5)] [] sh P M := by
  have hK := hO.1
  unfold f_X12_clause_L231 at h
  refine V.iload (pc := 231) (i := 5) hK rfl dX12_clause_231 ?_
  refine V.iconst (pc := 233) (v := 4) hK (by decide) dX12_clause_233 ?_
  refine V.icmp_ne (pc := 234) (tgt := 249) hK dX12_clause_234 (by decide) (fun c => ?_) (fun c => ?_)
  · rw [if_neg c] at h
    refine V.aload_n (pc := 249) (i := 0) hK rfl ⟨_, rfl⟩ dX12_clause_249 ?_
    refine V.getR (pc := 250) hK fl_RX12_113 rfl (hL.1 79 _ ls_79) (hL.2 79 47 114 rfl) dX12_clause_250 ?_
    refine V.iload (pc := 253) (i := 4) hK rfl dX12_clause_253 ?_
    refine V.iconst (pc := 255) (v := 1) hK (by decide) dX12_clause_255 ?_
    refine V.iload (pc := 256) (i := 5) hK rfl dX12_clause_256 ?_
    refine V.ishl (pc := 258) hK dX12_clause_258 ?_
    obtain ⟨hb, h⟩ := v_ckS h
    refine V.iast (pc := 259) hK (hL.1 114 _ ls_114) (v_ibS hb) dX12_clause_259 ?_
    refine V.nmM (fun M1 eM1 => ?_)
    have h := v_lt eM1 h
    refine V.aload_n (pc := 260) (i := 0) hK rfl ⟨_, rfl⟩ dX12_clause_260 ?_
    refine V.dup (pc := 261) hK rfl dX12_clause_261 ?_
    refine V.getI (pc := 262) hK fl_RX12_358 rfl (hL.1 79 _ ls_79) dX12_clause_262 ?_
    refine V.iload (pc := 265) (i := 5) hK rfl dX12_clause_265 ?_
    obtain ⟨z2, hz2, h⟩ := v_bdS h
    refine V.cS (pc := 267) hK (c_X12_thingOf E hL N _ _ hz2) Y_X12_thingOf cs_RX12_454 dX12_clause_267 (by decide) rfl (Nat.le_of_ble_eq_true rfl) ?_
    obtain ⟨z3, hz3, h⟩ := v_bdS h
    refine V.cStr (pc := 270) hK (c_J0_length_8abf5 E hL N _ _ hz3) Y_J0_length_8abf5 cv_RX12_369 rfl (lt_J0_length_8abf5 hz3) dX12_clause_270 (by decide) rfl (Nat.le_of_ble_eq_true rfl) ?_
    refine V.iadd (pc := 273) hK dX12_clause_273 ?_
    refine V.putI (pc := 274) hK fl_RX12_358 rfl rfl ⟨rfl, rfl⟩ (hL.1 79 _ ls_79) dX12_clause_274 ?_
    refine V.nmM (fun M4 eM4 => ?_)
    have h := v_lt eM4 h
    refine V.pick [0, 4] (l := [(0, _), (4, _)]) rfl ?_
    exact w_X12_clause_L277 hL hO N _ _ h
  · rw [if_pos c] at h
    refine V.aload_n (pc := 237) (i := 0) hK rfl ⟨_, rfl⟩ dX12_clause_237 ?_
    refine V.iconst (pc := 238) (v := 0) hK (by decide) dX12_clause_238 ?_
    refine V.aload_n (pc := 239) (i := 0) hK rfl ⟨_, rfl⟩ dX12_clause_239 ?_
    refine V.getI (pc := 240) hK fl_RX12_358 rfl (hL.1 79 _ ls_79) dX12_clause_240 ?_
    obtain ⟨z5, hz5, h⟩ := v_bdS h
    refine V.cVv (pc := 243) (ci := 12) hK (c_X12_fails E hL N _ _ _ hz5) Y_X12_fails cv_RX12_394 (by decide) rfl (hL.1 79 _ ls_79) dX12_clause_243 (by decide) rfl (Nat.le_of_ble_eq_true rfl) ?_
    refine V.goto (pc := 246) (tgt := 277) hK dX12_clause_246 (by decide) ?_
    refine V.pick [0, 4] (l := [(0, _), (4, _)]) rfl ?_
    exact w_X12_clause_L277 hL hO N _ _ h
set_option maxHeartbeats 4000000 in
set_option maxRecDepth 100000 in
theorem w_X12_clause_L207 {E : v_E} {X : v_X} {sh : v_S} {P : v_P} {out : Int32 × v_M} (hL : v_Lay sh P) (hO : v_O E X cX12_clause RX12 6 10 none "clause" (v_Q1 (none) sh P out.2)) (N : Nat) (n : Nat) : ∀ (x4 : Int32) (x5 : Int32) (M : v_M), f_X12_clause_L207 N n x4 x5 M = some out → V E X (0, 0) 207 [(0, v_rf E 79), (4, .int x4), (5, .int x5)] [] sh P M := by
  have hK := hO.1
  induction n with
  | zero => intro x4 x5 M h; rw [f_X12_clause_L207] at h; cases h
  | succ n ih =>
    intro x4 x5 M h
    rw [f_X12_clause_L207] at h
    refine V.iload (pc := 207) (i := 5) hK rfl dX12_clause_207 ?_
    refine V.iconst (pc := 209) (v := 4) hK (by decide) dX12_clause_209 ?_
    refine V.icmp_ge (pc := 210) (tgt := 231) hK dX12_clause_210 (by decide) (fun c => ?_) (fun c => ?_)
    · rw [if_pos c] at h
      refine V.pick [0, 4, 5] (l := [(0, _), (4, _), (5, _)]) rfl ?_
      exact w_X12_clause_L231 hL hO N _ _ _ h
    · rw [if_neg c] at h
      refine V.aload_n (pc := 213) (i := 0) hK rfl ⟨_, rfl⟩ dX12_clause_213 ?_
      refine V.iload (pc := 214) (i := 5) hK rfl dX12_clause_214 ?_
      obtain ⟨z1, hz1, h⟩ := v_bdS h
      refine V.cS (pc := 216) hK (c_X12_thingOf E hL N _ _ hz1) Y_X12_thingOf cs_RX12_454 dX12_clause_216 (by decide) rfl (Nat.le_of_ble_eq_true rfl) ?_
      obtain ⟨z2, hz2, h⟩ := v_bdS h
      refine V.cV (pc := 219) (ci := 12) hK (c_X12_stands E hL N _ _ hz2) Y_X12_stands cv_RX12_381 (by decide) rfl (hL.1 79 _ ls_79) dX12_clause_219 (by decide) rfl (Nat.le_of_ble_eq_true rfl) ?_
      refine V.if_ne (pc := 222) (tgt := 231) hK dX12_clause_222 (by decide) (fun c => ?_) (fun c => ?_)
      · rw [if_neg c] at h
        refine V.pick [0, 4, 5] (l := [(0, _), (4, _), (5, _)]) rfl ?_
        exact w_X12_clause_L231 hL hO N _ _ _ h
      · rw [if_pos c] at h
        refine V.iinc (pc := 225) (i := 5) (v := 1) (lv' := [(0, _), (4, _), (5, _)]) hK rfl (by decide) (by decide) rfl dX12_clause_225 ?_
        refine V.goto (pc := 228) (tgt := 207) hK dX12_clause_228 (by decide) ?_
        refine V.pick [0, 4, 5] (l := [(0, _), (4, _), (5, _)]) rfl ?_
        exact ih _ _ _ h
set_option maxHeartbeats 4000000 in
set_option maxRecDepth 100000 in
theorem w_X12_clause_L183 {E : v_E} {X : v_X} {sh : v_S} {P : v_P} {out : Int32 × v_M} (hL : v_Lay sh P) (hO : v_O E X cX12_clause RX12 6 10 none "clause" (v_Q1 (none) sh P out.2)) (N : Nat) (x4 : Int32) (t0 : Int32) (t1 : Int32) (M : v_M) (h : f_X12_clause_L183 N x4 t0 t1 M = some out) : V E X (0, 0) 183 [(0, v_rf E 79), (4, .int x4)] [.int t0, .int t1, v_rf E 115] sh P M := by
  have hK := hO.1
  unfold f_X12_clause_L183 at h
  obtain ⟨hb, h⟩ := v_ckS h
  refine V.iast (pc := 183) hK (hL.1 115 _ ls_115) (v_ibS hb) dX12_clause_183 ?_
  refine V.nmM (fun M1 eM1 => ?_)
  have h := v_lt eM1 h
  refine V.goto (pc := 184) (tgt := 277) hK dX12_clause_184 (by decide) ?_
  refine V.pick [0, 4] (l := [(0, _), (4, _)]) rfl ?_
  exact w_X12_clause_L277 hL hO N _ _ h
set_option maxHeartbeats 4000000 in
set_option maxRecDepth 100000 in
theorem w_X12_clause_L155 {E : v_E} {X : v_X} {sh : v_S} {P : v_P} {out : Int32 × v_M} (hL : v_Lay sh P) (hO : v_O E X cX12_clause RX12 6 10 none "clause" (v_Q1 (none) sh P out.2)) (N : Nat) (x4 : Int32) (M : v_M) (h : f_X12_clause_L155 N x4 M = some out) : V E X (0, 0) 155 [(0, v_rf E 79), (4, .int x4)] [] sh P M := by
  have hK := hO.1
  unfold f_X12_clause_L155 at h
  refine V.aload_n (pc := 155) (i := 0) hK rfl ⟨_, rfl⟩ dX12_clause_155 ?_
  obtain ⟨z1, hz1, h⟩ := v_bdS h
  refine V.cVv (pc := 156) (ci := 12) hK (c_X12_blanks E hL N _ hz1) Y_X12_blanks cv_RX12_378 (by decide) rfl (hL.1 79 _ ls_79) dX12_clause_156 (by decide) rfl (Nat.le_of_ble_eq_true rfl) ?_
  refine V.aload_n (pc := 159) (i := 0) hK rfl ⟨_, rfl⟩ dX12_clause_159 ?_
  refine V.getR (pc := 160) hK fl_RX12_116 rfl (hL.1 79 _ ls_79) (hL.2 79 48 115 rfl) dX12_clause_160 ?_
  refine V.iload (pc := 163) (i := 4) hK rfl dX12_clause_163 ?_
  refine V.aload_n (pc := 165) (i := 0) hK rfl ⟨_, rfl⟩ dX12_clause_165 ?_
  refine V.getI (pc := 166) hK fl_RX12_355 rfl (hL.1 79 _ ls_79) dX12_clause_166 ?_
  refine V.if_ne (pc := 169) (tgt := 182) hK dX12_clause_169 (by decide) (fun c => ?_) (fun c => ?_)
  · rw [if_neg c] at h
    refine V.iconst (pc := 182) (v := 0) hK (by decide) dX12_clause_182 ?_
    refine V.pick [0, 4] (l := [(0, _), (4, _)]) rfl ?_
    exact w_X12_clause_L183 hL hO N _ _ _ _ h
  · rw [if_pos c] at h
    refine V.aload_n (pc := 172) (i := 0) hK rfl ⟨_, rfl⟩ dX12_clause_172 ?_
    refine V.sipush (pc := 173) (v := 999) hK (by decide) dX12_clause_173 ?_
    obtain ⟨z2, hz2, h⟩ := v_bdS h
    refine V.cV (pc := 176) (ci := 12) hK (c_X12_digits E hL N _ _ hz2) Y_X12_digits cv_RX12_401 (by decide) rfl (hL.1 79 _ ls_79) dX12_clause_176 (by decide) rfl (Nat.le_of_ble_eq_true rfl) ?_
    refine V.goto (pc := 179) (tgt := 183) hK dX12_clause_179 (by decide) ?_
    refine V.pick [0, 4] (l := [(0, _), (4, _)]) rfl ?_
    exact w_X12_clause_L183 hL hO N _ _ _ _ h
set_option maxHeartbeats 4000000 in
set_option maxRecDepth 100000 in
theorem w_X12_clause_L33 {E : v_E} {X : v_X} {sh : v_S} {P : v_P} {out : Int32 × v_M} (hL : v_Lay sh P) (hO : v_O E X cX12_clause RX12 6 10 none "clause" (v_Q1 (none) sh P out.2)) (N : Nat) (x1 : Int32) (x2 : Int32) (x3 : Int32) (M : v_M) (h : f_X12_clause_L33 N x1 x2 x3 M = some out) : V E X (0, 0) 33 [(0, v_rf E 79), (1, .int x1), (2, .int x2), (3, .int x3)] [] sh P M := by
  have hK := hO.1
  unfold f_X12_clause_L33 at h
  refine V.iload_n (pc := 33) (i := 3) hK rfl dX12_clause_33 ?_
  refine V.iconst (pc := 34) (v := 4) hK (by decide) dX12_clause_34 ?_
  refine V.icmp_ne (pc := 35) (tgt := 45) hK dX12_clause_35 (by decide) (fun c => ?_) (fun c => ?_)
  · rw [if_neg c] at h
    refine V.iload_n (pc := 45) (i := 1) hK rfl dX12_clause_45 ?_
    refine V.bipush (pc := 46) (v := 12) hK (by decide) dX12_clause_46 ?_
    refine V.icmp_ne (pc := 48) (tgt := 58) hK dX12_clause_48 (by decide) (fun c => ?_) (fun c => ?_)
    · rw [if_neg c] at h
      refine V.aload_n (pc := 58) (i := 0) hK rfl ⟨_, rfl⟩ dX12_clause_58 ?_
      refine V.dup (pc := 59) hK rfl dX12_clause_59 ?_
      refine V.getI (pc := 60) hK fl_RX12_358 rfl (hL.1 79 _ ls_79) dX12_clause_60 ?_
      refine V.iload_n (pc := 63) (i := 3) hK rfl dX12_clause_63 ?_
      obtain ⟨z1, hz1, h⟩ := v_bdS h
      refine V.cS (pc := 64) hK (c_X12_clauseOf E hL N _ _ hz1) Y_X12_clauseOf cs_RX12_447 dX12_clause_64 (by decide) rfl (Nat.le_of_ble_eq_true rfl) ?_
      obtain ⟨z2, hz2, h⟩ := v_bdS h
      refine V.cStr (pc := 67) hK (c_J0_length_8abf5 E hL N _ _ hz2) Y_J0_length_8abf5 cv_RX12_369 rfl (lt_J0_length_8abf5 hz2) dX12_clause_67 (by decide) rfl (Nat.le_of_ble_eq_true rfl) ?_
      refine V.iadd (pc := 70) hK dX12_clause_70 ?_
      refine V.putI (pc := 71) hK fl_RX12_358 rfl rfl ⟨rfl, rfl⟩ (hL.1 79 _ ls_79) dX12_clause_71 ?_
      refine V.nmM (fun M3 eM3 => ?_)
      have h := v_lt eM3 h
      refine V.bipush (pc := 74) (v := 12) hK (by decide) dX12_clause_74 ?_
      refine V.aload_n (pc := 76) (i := 0) hK rfl ⟨_, rfl⟩ dX12_clause_76 ?_
      refine V.getI (pc := 77) hK fl_RX12_385 rfl (hL.1 79 _ ls_79) dX12_clause_77 ?_
      refine V.imul (pc := 80) hK dX12_clause_80 ?_
      refine V.iload_n (pc := 81) (i := 1) hK rfl dX12_clause_81 ?_
      refine V.iadd (pc := 82) hK dX12_clause_82 ?_
      refine V.topi (fun y4 ey4 => ?_)
      have h := v_lt ey4 h
      refine V.istore (pc := 83) (i := 4) (lv' := [(0, _), (1, _), (2, _), (3, _), (4, _)]) hK (by decide) rfl dX12_clause_83 ?_
      refine V.aload_n (pc := 85) (i := 0) hK rfl ⟨_, rfl⟩ dX12_clause_85 ?_
      refine V.getR (pc := 86) hK fl_RX12_110 rfl (hL.1 79 _ ls_79) (hL.2 79 46 113 rfl) dX12_clause_86 ?_
      refine V.iload (pc := 89) (i := 4) hK rfl dX12_clause_89 ?_
      refine V.iload_n (pc := 91) (i := 3) hK rfl dX12_clause_91 ?_
      obtain ⟨hb, h⟩ := v_ckS h
      refine V.iast (pc := 92) hK (hL.1 113 _ ls_113) (v_ibS hb) dX12_clause_92 ?_
      refine V.nmM (fun M5 eM5 => ?_)
      have h := v_lt eM5 h
      refine V.aload_n (pc := 93) (i := 0) hK rfl ⟨_, rfl⟩ dX12_clause_93 ?_
      refine V.getR (pc := 94) hK fl_RX12_119 rfl (hL.1 79 _ ls_79) (hL.2 79 49 116 rfl) dX12_clause_94 ?_
      refine V.iload (pc := 97) (i := 4) hK rfl dX12_clause_97 ?_
      refine V.aload_n (pc := 99) (i := 0) hK rfl ⟨_, rfl⟩ dX12_clause_99 ?_
      refine V.getI (pc := 100) hK fl_RX12_388 rfl (hL.1 79 _ ls_79) dX12_clause_100 ?_
      obtain ⟨hb, h⟩ := v_ckS h
      refine V.iast (pc := 103) hK (hL.1 116 _ ls_116) (v_ibS hb) dX12_clause_103 ?_
      refine V.nmM (fun M6 eM6 => ?_)
      have h := v_lt eM6 h
      refine V.aload_n (pc := 104) (i := 0) hK rfl ⟨_, rfl⟩ dX12_clause_104 ?_
      obtain ⟨z7, hz7, h⟩ := v_bdS h
      refine V.cVv (pc := 105) (ci := 12) hK (c_X12_blanks E hL N _ hz7) Y_X12_blanks cv_RX12_378 (by decide) rfl (hL.1 79 _ ls_79) dX12_clause_105 (by decide) rfl (Nat.le_of_ble_eq_true rfl) ?_
      refine V.iload_n (pc := 108) (i := 3) hK rfl dX12_clause_108 ?_
      refine V.if_ne (pc := 109) (tgt := 187) hK dX12_clause_109 (by decide) (fun c => ?_) (fun c => ?_)
      · rw [if_neg c] at h
        refine V.iload_n (pc := 187) (i := 3) hK rfl dX12_clause_187 ?_
        refine V.iconst (pc := 188) (v := 1) hK (by decide) dX12_clause_188 ?_
        refine V.icmp_ne (pc := 189) (tgt := 199) hK dX12_clause_189 (by decide) (fun c => ?_) (fun c => ?_)
        · rw [if_neg c] at h
          refine V.iload_n (pc := 199) (i := 3) hK rfl dX12_clause_199 ?_
          refine V.iconst (pc := 200) (v := 2) hK (by decide) dX12_clause_200 ?_
          refine V.icmp_ne (pc := 201) (tgt := 277) hK dX12_clause_201 (by decide) (fun c => ?_) (fun c => ?_)
          · rw [if_neg c] at h
            refine V.pick [0, 4] (l := [(0, _), (4, _)]) rfl ?_
            exact w_X12_clause_L277 hL hO N _ _ h
          · rw [if_pos c] at h
            refine V.iconst (pc := 204) (v := 0) hK (by decide) dX12_clause_204 ?_
            refine V.istore (pc := 205) (i := 5) (lv' := [(0, _), (1, _), (2, _), (3, _), (4, _), (5, _)]) hK (by decide) rfl dX12_clause_205 ?_
            refine V.pick [0, 4, 5] (l := [(0, _), (4, _), (5, _)]) rfl ?_
            exact w_X12_clause_L207 hL hO N N _ _ _ h
        · rw [if_pos c] at h
          refine V.aload_n (pc := 192) (i := 0) hK rfl ⟨_, rfl⟩ dX12_clause_192 ?_
          obtain ⟨z8, hz8, h⟩ := v_bdS h
          refine V.cVv (pc := 193) (ci := 12) hK (c_X12_sum E hL N _ hz8) Y_X12_sum cv_RX12_417 (by decide) rfl (hL.1 79 _ ls_79) dX12_clause_193 (by decide) rfl (Nat.le_of_ble_eq_true rfl) ?_
          refine V.goto (pc := 196) (tgt := 277) hK dX12_clause_196 (by decide) ?_
          refine V.pick [0, 4] (l := [(0, _), (4, _)]) rfl ?_
          exact w_X12_clause_L277 hL hO N _ _ h
      · rw [if_pos c] at h
        refine V.aload_n (pc := 112) (i := 0) hK rfl ⟨_, rfl⟩ dX12_clause_112 ?_
        refine V.getR (pc := 113) hK fl_RX12_113 rfl (hL.1 79 _ ls_79) (hL.2 79 47 114 rfl) dX12_clause_113 ?_
        refine V.iload (pc := 116) (i := 4) hK rfl dX12_clause_116 ?_
        refine V.aload_n (pc := 118) (i := 0) hK rfl ⟨_, rfl⟩ dX12_clause_118 ?_
        refine V.bipush (pc := 119) (v := 9) hK (by decide) dX12_clause_119 ?_
        obtain ⟨z9, hz9, h⟩ := v_bdS h
        refine V.cV (pc := 121) (ci := 12) hK (c_X12_digits E hL N _ _ hz9) Y_X12_digits cv_RX12_401 (by decide) rfl (hL.1 79 _ ls_79) dX12_clause_121 (by decide) rfl (Nat.le_of_ble_eq_true rfl) ?_
        obtain ⟨hb, h⟩ := v_ckS h
        refine V.iast (pc := 124) hK (hL.1 114 _ ls_114) (v_ibS hb) dX12_clause_124 ?_
        refine V.nmM (fun M10 eM10 => ?_)
        have h := v_lt eM10 h
        refine V.aload_n (pc := 125) (i := 0) hK rfl ⟨_, rfl⟩ dX12_clause_125 ?_
        obtain ⟨z11, hz11, h⟩ := v_bdS h
        refine V.cVv (pc := 126) (ci := 12) hK (c_X12_blanks E hL N _ hz11) Y_X12_blanks cv_RX12_378 (by decide) rfl (hL.1 79 _ ls_79) dX12_clause_126 (by decide) rfl (Nat.le_of_ble_eq_true rfl) ?_
        refine V.aload_n (pc := 129) (i := 0) hK rfl ⟨_, rfl⟩ dX12_clause_129 ?_
        refine V.getI (pc := 130) hK fl_RX12_355 rfl (hL.1 79 _ ls_79) dX12_clause_130 ?_
        refine V.if_ne (pc := 133) (tgt := 155) hK dX12_clause_133 (by decide) (fun c => ?_) (fun c => ?_)
        · rw [if_neg c] at h
          refine V.pick [0, 4] (l := [(0, _), (4, _)]) rfl ?_
          exact w_X12_clause_L155 hL hO N _ _ h
        · rw [if_pos c] at h
          refine V.aload_n (pc := 136) (i := 0) hK rfl ⟨_, rfl⟩ dX12_clause_136 ?_
          refine V.ldcwS (pc := 137) (i := 5) hK (show v_sx[5]? = some (RX12, _, _) from rfl) dX12_clause_137 ?_
          obtain ⟨z12, hz12, h⟩ := v_bdS h
          refine V.cV (pc := 140) (ci := 12) hK (c_X12_takes_ E hL N _ _ hz12) Y_X12_takes_ cv_RX12_452 (by decide) rfl (hL.1 79 _ ls_79) dX12_clause_140 (by decide) rfl (Nat.le_of_ble_eq_true rfl) ?_
          refine V.if_ne (pc := 143) (tgt := 155) hK dX12_clause_143 (by decide) (fun c => ?_) (fun c => ?_)
          · rw [if_neg c] at h
            refine V.pick [0, 4] (l := [(0, _), (4, _)]) rfl ?_
            exact w_X12_clause_L155 hL hO N _ _ h
          · rw [if_pos c] at h
            refine V.aload_n (pc := 146) (i := 0) hK rfl ⟨_, rfl⟩ dX12_clause_146 ?_
            refine V.iconst (pc := 147) (v := 0) hK (by decide) dX12_clause_147 ?_
            refine V.aload_n (pc := 148) (i := 0) hK rfl ⟨_, rfl⟩ dX12_clause_148 ?_
            refine V.getI (pc := 149) hK fl_RX12_358 rfl (hL.1 79 _ ls_79) dX12_clause_149 ?_
            obtain ⟨z13, hz13, h⟩ := v_bdS h
            refine V.cVv (pc := 152) (ci := 12) hK (c_X12_fails E hL N _ _ _ hz13) Y_X12_fails cv_RX12_394 (by decide) rfl (hL.1 79 _ ls_79) dX12_clause_152 (by decide) rfl (Nat.le_of_ble_eq_true rfl) ?_
            refine V.pick [0, 4] (l := [(0, _), (4, _)]) rfl ?_
            exact w_X12_clause_L155 hL hO N _ _ h
    · rw [if_pos c] at h
      refine V.aload_n (pc := 51) (i := 0) hK rfl ⟨_, rfl⟩ dX12_clause_51 ?_
      refine V.iconst (pc := 52) (v := 4) hK (by decide) dX12_clause_52 ?_
      refine V.iload_n (pc := 53) (i := 2) hK rfl dX12_clause_53 ?_
      obtain ⟨z14, hz14, h⟩ := v_bdS h
      refine V.cVv (pc := 54) (ci := 12) hK (c_X12_fails E hL N _ _ _ hz14) Y_X12_fails cv_RX12_394 (by decide) rfl (hL.1 79 _ ls_79) dX12_clause_54 (by decide) rfl (Nat.le_of_ble_eq_true rfl) ?_
      exact V.vret (pc := 57) hO dX12_clause_57 (v_finV h)
  · rw [if_pos c] at h
    refine V.aload_n (pc := 38) (i := 0) hK rfl ⟨_, rfl⟩ dX12_clause_38 ?_
    refine V.iconst (pc := 39) (v := 0) hK (by decide) dX12_clause_39 ?_
    refine V.iload_n (pc := 40) (i := 2) hK rfl dX12_clause_40 ?_
    obtain ⟨z15, hz15, h⟩ := v_bdS h
    refine V.cVv (pc := 41) (ci := 12) hK (c_X12_fails E hL N _ _ _ hz15) Y_X12_fails cv_RX12_394 (by decide) rfl (hL.1 79 _ ls_79) dX12_clause_41 (by decide) rfl (Nat.le_of_ble_eq_true rfl) ?_
    exact V.vret (pc := 44) hO dX12_clause_44 (v_finV h)
set_option maxHeartbeats 4000000 in
set_option maxRecDepth 100000 in
theorem w_X12_clause_L11 {E : v_E} {X : v_X} {sh : v_S} {P : v_P} {out : Int32 × v_M} (hL : v_Lay sh P) (hO : v_O E X cX12_clause RX12 6 10 none "clause" (v_Q1 (none) sh P out.2)) (N : Nat) (n : Nat) : ∀ (x1 : Int32) (x2 : Int32) (x3 : Int32) (M : v_M), f_X12_clause_L11 N n x1 x2 x3 M = some out → V E X (0, 0) 11 [(0, v_rf E 79), (1, .int x1), (2, .int x2), (3, .int x3)] [] sh P M := by
  have hK := hO.1
  induction n with
  | zero => intro x1 x2 x3 M h; rw [f_X12_clause_L11] at h; cases h
  | succ n ih =>
    intro x1 x2 x3 M h
    rw [f_X12_clause_L11] at h
    refine V.iload_n (pc := 11) (i := 3) hK rfl dX12_clause_11 ?_
    refine V.iconst (pc := 12) (v := 4) hK (by decide) dX12_clause_12 ?_
    refine V.icmp_ge (pc := 13) (tgt := 33) hK dX12_clause_13 (by decide) (fun c => ?_) (fun c => ?_)
    · rw [if_pos c] at h
      refine V.pick [0, 1, 2, 3] (l := [(0, _), (1, _), (2, _), (3, _)]) rfl ?_
      exact w_X12_clause_L33 hL hO N _ _ _ _ h
    · rw [if_neg c] at h
      refine V.aload_n (pc := 16) (i := 0) hK rfl ⟨_, rfl⟩ dX12_clause_16 ?_
      refine V.iload_n (pc := 17) (i := 3) hK rfl dX12_clause_17 ?_
      obtain ⟨z1, hz1, h⟩ := v_bdS h
      refine V.cS (pc := 18) hK (c_X12_clauseOf E hL N _ _ hz1) Y_X12_clauseOf cs_RX12_447 dX12_clause_18 (by decide) rfl (Nat.le_of_ble_eq_true rfl) ?_
      obtain ⟨z2, hz2, h⟩ := v_bdS h
      refine V.cV (pc := 21) (ci := 12) hK (c_X12_stands E hL N _ _ hz2) Y_X12_stands cv_RX12_381 (by decide) rfl (hL.1 79 _ ls_79) dX12_clause_21 (by decide) rfl (Nat.le_of_ble_eq_true rfl) ?_
      refine V.if_ne (pc := 24) (tgt := 33) hK dX12_clause_24 (by decide) (fun c => ?_) (fun c => ?_)
      · rw [if_neg c] at h
        refine V.pick [0, 1, 2, 3] (l := [(0, _), (1, _), (2, _), (3, _)]) rfl ?_
        exact w_X12_clause_L33 hL hO N _ _ _ _ h
      · rw [if_pos c] at h
        refine V.iinc (pc := 27) (i := 3) (v := 1) (lv' := [(0, _), (1, _), (2, _), (3, _)]) hK rfl (by decide) (by decide) rfl dX12_clause_27 ?_
        refine V.goto (pc := 30) (tgt := 11) hK dX12_clause_30 (by decide) ?_
        refine V.pick [0, 1, 2, 3] (l := [(0, _), (1, _), (2, _), (3, _)]) rfl ?_
        exact ih _ _ _ _ h
set_option maxHeartbeats 4000000 in
set_option maxRecDepth 100000 in
theorem c_X12_clause (E : v_E) {sh : v_S} {P : v_P} (hL : v_Lay sh P) (N : Nat) (x1 : Int32) (M : v_M) {out : Int32 × v_M} (h : f_X12_clause N x1 M = some out) : v_Ct E 10 yX12_clause cX12_clause 6 none 0 0 [v_rf E 79, .int x1] sh P M (v_Q1 (none) sh P out.2) := by
  refine v_Ct.of (by decide +kernel) (Nat.le_of_ble_eq_true rfl) (fun X hO => ?_)
  have hK : v_K E X cX12_clause RX12 6 10 := hO.1
  have hO : v_O E X cX12_clause RX12 6 10 none "clause" (v_Q1 (none) sh P out.2) := hO
  show V E X (0, 0) 0 [(0, v_rf E 79), (1, .int x1)] [] sh P M
  unfold f_X12_clause at h
  refine V.aload_n (pc := 0) (i := 0) hK rfl ⟨_, rfl⟩ dX12_clause_0 ?_
  obtain ⟨z1, hz1, h⟩ := v_bdS h
  refine V.cVv (pc := 1) (ci := 12) hK (c_X12_blanks E hL N _ hz1) Y_X12_blanks cv_RX12_378 (by decide) rfl (hL.1 79 _ ls_79) dX12_clause_1 (by decide) rfl (Nat.le_of_ble_eq_true rfl) ?_
  refine V.aload_n (pc := 4) (i := 0) hK rfl ⟨_, rfl⟩ dX12_clause_4 ?_
  refine V.getI (pc := 5) hK fl_RX12_358 rfl (hL.1 79 _ ls_79) dX12_clause_5 ?_
  refine V.topi (fun y2 ey2 => ?_)
  have h := v_lt ey2 h
  refine V.istore_n (pc := 8) (i := 2) (lv' := [(0, _), (1, _), (2, _)]) hK (by decide) rfl dX12_clause_8 ?_
  refine V.iconst (pc := 9) (v := 0) hK (by decide) dX12_clause_9 ?_
  refine V.istore_n (pc := 10) (i := 3) (lv' := [(0, _), (1, _), (2, _), (3, _)]) hK (by decide) rfl dX12_clause_10 ?_
  refine V.pick [0, 1, 2, 3] (l := [(0, _), (1, _), (2, _), (3, _)]) rfl ?_
  exact w_X12_clause_L11 hL hO N N _ _ _ _ h
set_option maxHeartbeats 4000000 in
set_option maxRecDepth 100000 in
theorem w_X12_order_L145 {E : v_E} {X : v_X} {sh : v_S} {P : v_P} {out : Int32 × v_M} (hL : v_Lay sh P) (hO : v_O E X cX12_order RX12 5 11 (some .int) "order" (v_Q1 (some (.int out.1)) sh P out.2)) (N : Nat) (k69 : Int32 → Int32 → Int32 → Int32 → v_M → Option (Int32 × v_M)) (hk69 : ∀ (x1 : Int32) (x2 : Int32) (x3 : Int32) (x4 : Int32) (M : v_M), k69 x1 x2 x3 x4 M = some out → V E X (0, 0) 69 [(0, v_rf E 79), (1, .int x1), (2, .int x2), (3, .int x3), (4, .int x4)] [] sh P M) (x1 : Int32) (x2 : Int32) (x3 : Int32) (t0 : Int32) (M : v_M) (h : f_X12_order_L145 N k69 x1 x2 x3 t0 M = some out) : V E X (0, 0) 145 [(0, v_rf E 79), (1, .int x1), (2, .int x2), (3, .int x3)] [.int t0] sh P M := by
  have hK := hO.1
  unfold f_X12_order_L145 at h
  refine V.istore (pc := 145) (i := 4) (lv' := [(0, _), (1, _), (2, _), (3, _), (4, _)]) hK (by decide) rfl dX12_order_145 ?_
  refine V.aload_n (pc := 147) (i := 0) hK rfl ⟨_, rfl⟩ dX12_order_147 ?_
  refine V.dup (pc := 148) hK rfl dX12_order_148 ?_
  refine V.getI (pc := 149) hK fl_RX12_358 rfl (hL.1 79 _ ls_79) dX12_order_149 ?_
  refine V.iconst (pc := 152) (v := 1) hK (by decide) dX12_order_152 ?_
  refine V.iadd (pc := 153) hK dX12_order_153 ?_
  refine V.putI (pc := 154) hK fl_RX12_358 rfl rfl ⟨rfl, rfl⟩ (hL.1 79 _ ls_79) dX12_order_154 ?_
  refine V.nmM (fun M1 eM1 => ?_)
  have h := v_lt eM1 h
  refine V.goto (pc := 157) (tgt := 69) hK dX12_order_157 (by decide) ?_
  refine V.pick [0, 1, 2, 3, 4] (l := [(0, _), (1, _), (2, _), (3, _), (4, _)]) rfl ?_
  exact hk69 _ _ _ _ _ h
set_option maxHeartbeats 4000000 in
set_option maxRecDepth 100000 in
theorem w_X12_order_L144 {E : v_E} {X : v_X} {sh : v_S} {P : v_P} {out : Int32 × v_M} (hL : v_Lay sh P) (hO : v_O E X cX12_order RX12 5 11 (some .int) "order" (v_Q1 (some (.int out.1)) sh P out.2)) (N : Nat) (k69 : Int32 → Int32 → Int32 → Int32 → v_M → Option (Int32 × v_M)) (hk69 : ∀ (x1 : Int32) (x2 : Int32) (x3 : Int32) (x4 : Int32) (M : v_M), k69 x1 x2 x3 x4 M = some out → V E X (0, 0) 69 [(0, v_rf E 79), (1, .int x1), (2, .int x2), (3, .int x3), (4, .int x4)] [] sh P M) (x1 : Int32) (x2 : Int32) (x3 : Int32) (M : v_M) (h : f_X12_order_L144 N k69 x1 x2 x3 M = some out) : V E X (0, 0) 144 [(0, v_rf E 79), (1, .int x1), (2, .int x2), (3, .int x3)] [] sh P M := by
  have hK := hO.1
  unfold f_X12_order_L144 at h
  refine V.iconst (pc := 144) (v := 0) hK (by decide) dX12_order_144 ?_
  refine V.pick [0, 1, 2, 3] (l := [(0, _), (1, _), (2, _), (3, _)]) rfl ?_
  exact w_X12_order_L145 hL hO N _ hk69 _ _ _ _ _ h
set_option maxHeartbeats 4000000 in
set_option maxRecDepth 100000 in
theorem w_X12_order_L122 {E : v_E} {X : v_X} {sh : v_S} {P : v_P} {out : Int32 × v_M} (hL : v_Lay sh P) (hO : v_O E X cX12_order RX12 5 11 (some .int) "order" (v_Q1 (some (.int out.1)) sh P out.2)) (N : Nat) (k69 : Int32 → Int32 → Int32 → Int32 → v_M → Option (Int32 × v_M)) (hk69 : ∀ (x1 : Int32) (x2 : Int32) (x3 : Int32) (x4 : Int32) (M : v_M), k69 x1 x2 x3 x4 M = some out → V E X (0, 0) 69 [(0, v_rf E 79), (1, .int x1), (2, .int x2), (3, .int x3), (4, .int x4)] [] sh P M) (x1 : Int32) (x2 : Int32) (x3 : Int32) (M : v_M) (h : f_X12_order_L122 N k69 x1 x2 x3 M = some out) : V E X (0, 0) 122 [(0, v_rf E 79), (1, .int x1), (2, .int x2), (3, .int x3)] [] sh P M := by
  have hK := hO.1
  unfold f_X12_order_L122 at h
  refine V.aload_n (pc := 122) (i := 0) hK rfl ⟨_, rfl⟩ dX12_order_122 ?_
  refine V.getI (pc := 123) hK fl_RX12_355 rfl (hL.1 79 _ ls_79) dX12_order_123 ?_
  refine V.if_ne (pc := 126) (tgt := 144) hK dX12_order_126 (by decide) (fun c => ?_) (fun c => ?_)
  · rw [if_neg c] at h
    refine V.pick [0, 1, 2, 3] (l := [(0, _), (1, _), (2, _), (3, _)]) rfl ?_
    exact w_X12_order_L144 hL hO N _ hk69 _ _ _ _ h
  · rw [if_pos c] at h
    refine V.aload_n (pc := 129) (i := 0) hK rfl ⟨_, rfl⟩ dX12_order_129 ?_
    refine V.getI (pc := 130) hK fl_RX12_358 rfl (hL.1 79 _ ls_79) dX12_order_130 ?_
    refine V.aload_n (pc := 133) (i := 0) hK rfl ⟨_, rfl⟩ dX12_order_133 ?_
    refine V.getI (pc := 134) hK fl_RX12_322 rfl (hL.1 79 _ ls_79) dX12_order_134 ?_
    refine V.icmp_ge (pc := 137) (tgt := 144) hK dX12_order_137 (by decide) (fun c => ?_) (fun c => ?_)
    · rw [if_pos c] at h
      refine V.pick [0, 1, 2, 3] (l := [(0, _), (1, _), (2, _), (3, _)]) rfl ?_
      exact w_X12_order_L144 hL hO N _ hk69 _ _ _ _ h
    · rw [if_neg c] at h
      refine V.iconst (pc := 140) (v := 1) hK (by decide) dX12_order_140 ?_
      refine V.goto (pc := 141) (tgt := 145) hK dX12_order_141 (by decide) ?_
      refine V.pick [0, 1, 2, 3] (l := [(0, _), (1, _), (2, _), (3, _)]) rfl ?_
      exact w_X12_order_L145 hL hO N _ hk69 _ _ _ _ _ h
set_option maxHeartbeats 4000000 in
set_option maxRecDepth 100000 in
theorem w_X12_order_L69 {E : v_E} {X : v_X} {sh : v_S} {P : v_P} {out : Int32 × v_M} (hL : v_Lay sh P) (hO : v_O E X cX12_order RX12 5 11 (some .int) "order" (v_Q1 (some (.int out.1)) sh P out.2)) (N : Nat) (n : Nat) : ∀ (x1 : Int32) (x2 : Int32) (x3 : Int32) (x4 : Int32) (M : v_M), f_X12_order_L69 N n x1 x2 x3 x4 M = some out → V E X (0, 0) 69 [(0, v_rf E 79), (1, .int x1), (2, .int x2), (3, .int x3), (4, .int x4)] [] sh P M := by
  have hK := hO.1
  induction n with
  | zero => intro x1 x2 x3 x4 M h; rw [f_X12_order_L69] at h; cases h
  | succ n ih =>
    intro x1 x2 x3 x4 M h
    rw [f_X12_order_L69] at h
    refine V.iload (pc := 69) (i := 4) hK rfl dX12_order_69 ?_
    refine V.if_eq (pc := 71) (tgt := 160) hK dX12_order_71 (by decide) (fun c => ?_) (fun c => ?_)
    · rw [if_pos c] at h
      refine V.aload_n (pc := 160) (i := 0) hK rfl ⟨_, rfl⟩ dX12_order_160 ?_
      refine V.iconst (pc := 161) (v := 0) hK (by decide) dX12_order_161 ?_
      refine V.putI (pc := 162) hK fl_RX12_322 rfl rfl ⟨rfl, rfl⟩ (hL.1 79 _ ls_79) dX12_order_162 ?_
      refine V.nmM (fun M1 eM1 => ?_)
      have h := v_lt eM1 h
      refine V.aload_n (pc := 165) (i := 0) hK rfl ⟨_, rfl⟩ dX12_order_165 ?_
      refine V.getI (pc := 166) hK fl_RX12_355 rfl (hL.1 79 _ ls_79) dX12_order_166 ?_
      refine V.if_le (pc := 169) (tgt := 180) hK dX12_order_169 (by decide) (fun c => ?_) (fun c => ?_)
      · rw [if_pos c] at h
        refine V.aload_n (pc := 180) (i := 0) hK rfl ⟨_, rfl⟩ dX12_order_180 ?_
        refine V.getR (pc := 181) hK fl_RX12_101 rfl (hL.1 79 _ ls_79) (hL.2 79 43 110 rfl) dX12_order_181 ?_
        refine V.aload_n (pc := 184) (i := 0) hK rfl ⟨_, rfl⟩ dX12_order_184 ?_
        refine V.getI (pc := 185) hK fl_RX12_385 rfl (hL.1 79 _ ls_79) dX12_order_185 ?_
        refine V.iload_n (pc := 188) (i := 1) hK rfl dX12_order_188 ?_
        obtain ⟨hb, h⟩ := v_ckS h
        refine V.iast (pc := 189) hK (hL.1 110 _ ls_110) (v_ibS hb) dX12_order_189 ?_
        refine V.nmM (fun M2 eM2 => ?_)
        have h := v_lt eM2 h
        refine V.aload_n (pc := 190) (i := 0) hK rfl ⟨_, rfl⟩ dX12_order_190 ?_
        refine V.getR (pc := 191) hK fl_RX12_104 rfl (hL.1 79 _ ls_79) (hL.2 79 44 111 rfl) dX12_order_191 ?_
        refine V.aload_n (pc := 194) (i := 0) hK rfl ⟨_, rfl⟩ dX12_order_194 ?_
        refine V.getI (pc := 195) hK fl_RX12_385 rfl (hL.1 79 _ ls_79) dX12_order_195 ?_
        refine V.iload_n (pc := 198) (i := 2) hK rfl dX12_order_198 ?_
        obtain ⟨hb, h⟩ := v_ckS h
        refine V.iast (pc := 199) hK (hL.1 111 _ ls_111) (v_ibS hb) dX12_order_199 ?_
        refine V.nmM (fun M3 eM3 => ?_)
        have h := v_lt eM3 h
        refine V.aload_n (pc := 200) (i := 0) hK rfl ⟨_, rfl⟩ dX12_order_200 ?_
        refine V.getR (pc := 201) hK fl_RX12_107 rfl (hL.1 79 _ ls_79) (hL.2 79 45 112 rfl) dX12_order_201 ?_
        refine V.aload_n (pc := 204) (i := 0) hK rfl ⟨_, rfl⟩ dX12_order_204 ?_
        refine V.getI (pc := 205) hK fl_RX12_385 rfl (hL.1 79 _ ls_79) dX12_order_205 ?_
        refine V.iload_n (pc := 208) (i := 3) hK rfl dX12_order_208 ?_
        obtain ⟨hb, h⟩ := v_ckS h
        refine V.iast (pc := 209) hK (hL.1 112 _ ls_112) (v_ibS hb) dX12_order_209 ?_
        refine V.nmM (fun M4 eM4 => ?_)
        have h := v_lt eM4 h
        refine V.aload_n (pc := 210) (i := 0) hK rfl ⟨_, rfl⟩ dX12_order_210 ?_
        refine V.dup (pc := 211) hK rfl dX12_order_211 ?_
        refine V.getI (pc := 212) hK fl_RX12_385 rfl (hL.1 79 _ ls_79) dX12_order_212 ?_
        refine V.iconst (pc := 215) (v := 1) hK (by decide) dX12_order_215 ?_
        refine V.iadd (pc := 216) hK dX12_order_216 ?_
        refine V.putI (pc := 217) hK fl_RX12_385 rfl rfl ⟨rfl, rfl⟩ (hL.1 79 _ ls_79) dX12_order_217 ?_
        refine V.nmM (fun M5 eM5 => ?_)
        have h := v_lt eM5 h
        refine V.aload_n (pc := 220) (i := 0) hK rfl ⟨_, rfl⟩ dX12_order_220 ?_
        refine V.getI (pc := 221) hK fl_RX12_385 rfl (hL.1 79 _ ls_79) dX12_order_221 ?_
        refine V.iconst (pc := 224) (v := 1) hK (by decide) dX12_order_224 ?_
        refine V.isub (pc := 225) hK dX12_order_225 ?_
        exact V.iret (pc := 226) hO dX12_order_226 (v_finI h)
      · rw [if_neg c] at h
        refine V.bipush (pc := 172) (v := -2) hK (by decide) dX12_order_172 ?_
        refine V.aload_n (pc := 174) (i := 0) hK rfl ⟨_, rfl⟩ dX12_order_174 ?_
        refine V.getI (pc := 175) hK fl_RX12_355 rfl (hL.1 79 _ ls_79) dX12_order_175 ?_
        refine V.isub (pc := 178) hK dX12_order_178 ?_
        exact V.iret (pc := 179) hO dX12_order_179 (v_finI h)
    · rw [if_neg c] at h
      refine V.aload_n (pc := 74) (i := 0) hK rfl ⟨_, rfl⟩ dX12_order_74 ?_
      refine V.iload_n (pc := 75) (i := 3) hK rfl dX12_order_75 ?_
      obtain ⟨z6, hz6, h⟩ := v_bdS h
      refine V.cVv (pc := 76) (ci := 12) hK (c_X12_clause E hL N _ _ hz6) Y_X12_clause cv_RX12_462 (by decide) rfl (hL.1 79 _ ls_79) dX12_order_76 (by decide) rfl (Nat.le_of_ble_eq_true rfl) ?_
      refine V.iinc (pc := 79) (i := 3) (v := 1) (lv' := [(0, _), (1, _), (2, _), (3, _), (4, _)]) hK rfl (by decide) (by decide) rfl dX12_order_79 ?_
      refine V.aload_n (pc := 82) (i := 0) hK rfl ⟨_, rfl⟩ dX12_order_82 ?_
      obtain ⟨z7, hz7, h⟩ := v_bdS h
      refine V.cVv (pc := 83) (ci := 12) hK (c_X12_blanks E hL N _ hz7) Y_X12_blanks cv_RX12_378 (by decide) rfl (hL.1 79 _ ls_79) dX12_order_83 (by decide) rfl (Nat.le_of_ble_eq_true rfl) ?_
      refine V.aload_n (pc := 86) (i := 0) hK rfl ⟨_, rfl⟩ dX12_order_86 ?_
      refine V.getI (pc := 87) hK fl_RX12_355 rfl (hL.1 79 _ ls_79) dX12_order_87 ?_
      refine V.if_ne (pc := 90) (tgt := 122) hK dX12_order_90 (by decide) (fun c => ?_) (fun c => ?_)
      · rw [if_neg c] at h
        refine V.pick [0, 1, 2, 3] (l := [(0, _), (1, _), (2, _), (3, _)]) rfl ?_
        exact w_X12_order_L122 hL hO N _ ih _ _ _ _ h
      · rw [if_pos c] at h
        refine V.aload_n (pc := 93) (i := 0) hK rfl ⟨_, rfl⟩ dX12_order_93 ?_
        refine V.getI (pc := 94) hK fl_RX12_358 rfl (hL.1 79 _ ls_79) dX12_order_94 ?_
        refine V.aload_n (pc := 97) (i := 0) hK rfl ⟨_, rfl⟩ dX12_order_97 ?_
        refine V.getI (pc := 98) hK fl_RX12_322 rfl (hL.1 79 _ ls_79) dX12_order_98 ?_
        refine V.icmp_ge (pc := 101) (tgt := 122) hK dX12_order_101 (by decide) (fun c => ?_) (fun c => ?_)
        · rw [if_pos c] at h
          refine V.pick [0, 1, 2, 3] (l := [(0, _), (1, _), (2, _), (3, _)]) rfl ?_
          exact w_X12_order_L122 hL hO N _ ih _ _ _ _ h
        · rw [if_neg c] at h
          refine V.aload_n (pc := 104) (i := 0) hK rfl ⟨_, rfl⟩ dX12_order_104 ?_
          obtain ⟨z8, hz8, h⟩ := v_bdS h
          refine V.cV (pc := 105) (ci := 12) hK (c_X12_sign E hL N _ hz8) Y_X12_sign cv_RX12_361 (by decide) rfl (hL.1 79 _ ls_79) dX12_order_105 (by decide) rfl (Nat.le_of_ble_eq_true rfl) ?_
          refine V.bipush (pc := 108) (v := 59) hK (by decide) dX12_order_108 ?_
          refine V.icmp_eq (pc := 110) (tgt := 122) hK dX12_order_110 (by decide) (fun c => ?_) (fun c => ?_)
          · rw [if_pos c] at h
            refine V.pick [0, 1, 2, 3] (l := [(0, _), (1, _), (2, _), (3, _)]) rfl ?_
            exact w_X12_order_L122 hL hO N _ ih _ _ _ _ h
          · rw [if_neg c] at h
            refine V.aload_n (pc := 113) (i := 0) hK rfl ⟨_, rfl⟩ dX12_order_113 ?_
            refine V.iconst (pc := 114) (v := 0) hK (by decide) dX12_order_114 ?_
            refine V.aload_n (pc := 115) (i := 0) hK rfl ⟨_, rfl⟩ dX12_order_115 ?_
            refine V.getI (pc := 116) hK fl_RX12_358 rfl (hL.1 79 _ ls_79) dX12_order_116 ?_
            obtain ⟨z9, hz9, h⟩ := v_bdS h
            refine V.cVv (pc := 119) (ci := 12) hK (c_X12_fails E hL N _ _ _ hz9) Y_X12_fails cv_RX12_394 (by decide) rfl (hL.1 79 _ ls_79) dX12_order_119 (by decide) rfl (Nat.le_of_ble_eq_true rfl) ?_
            refine V.pick [0, 1, 2, 3] (l := [(0, _), (1, _), (2, _), (3, _)]) rfl ?_
            exact w_X12_order_L122 hL hO N _ ih _ _ _ _ h
set_option maxHeartbeats 4000000 in
set_option maxRecDepth 100000 in
theorem c_X12_order (E : v_E) {sh : v_S} {P : v_P} (hL : v_Lay sh P) (N : Nat) (x1 : Int32) (x2 : Int32) (M : v_M) {out : Int32 × v_M} (h : f_X12_order N x1 x2 M = some out) : v_Ct E 11 yX12_order cX12_order 5 (some .int) 0 0 [v_rf E 79, .int x1, .int x2] sh P M (v_Q1 (some (.int out.1)) sh P out.2) := by
  refine v_Ct.of (by decide +kernel) (Nat.le_of_ble_eq_true rfl) (fun X hO => ?_)
  have hK : v_K E X cX12_order RX12 5 11 := hO.1
  have hO : v_O E X cX12_order RX12 5 11 (some .int) "order" (v_Q1 (some (.int out.1)) sh P out.2) := hO
  show V E X (0, 0) 0 [(0, v_rf E 79), (1, .int x1), (2, .int x2)] [] sh P M
  unfold f_X12_order at h
  refine V.aload_n (pc := 0) (i := 0) hK rfl ⟨_, rfl⟩ dX12_order_0 ?_
  refine V.getI (pc := 1) hK fl_RX12_385 rfl (hL.1 79 _ ls_79) dX12_order_1 ?_
  refine V.bipush (pc := 4) (v := 12) hK (by decide) dX12_order_4 ?_
  refine V.icmp_eq (pc := 6) (tgt := 37) hK dX12_order_6 (by decide) (fun c => ?_) (fun c => ?_)
  · rw [if_pos c] at h
    refine V.iconst (pc := 37) (v := -1) hK (by decide) dX12_order_37 ?_
    exact V.iret (pc := 38) hO dX12_order_38 (v_finI h)
  · rw [if_neg c] at h
    refine V.iload_n (pc := 9) (i := 1) hK rfl dX12_order_9 ?_
    refine V.i2l (pc := 10) hK dX12_order_10 ?_
    refine V.lconst (pc := 11) (v := 0) hK (by decide) dX12_order_11 ?_
    refine V.ldc2 (pc := 12) hK tw_1477 dX12_order_12 ?_
    obtain ⟨z1, hz1, h⟩ := v_bdS h
    refine V.cS (pc := 15) hK (c_X12_in E hL N _ _ _ _ hz1) Y_X12_in cs_RX12_229 dX12_order_15 (by decide) rfl (Nat.le_of_ble_eq_true rfl) ?_
    refine V.if_eq (pc := 18) (tgt := 37) hK dX12_order_18 (by decide) (fun c => ?_) (fun c => ?_)
    · rw [if_pos c] at h
      refine V.iconst (pc := 37) (v := -1) hK (by decide) dX12_order_37 ?_
      exact V.iret (pc := 38) hO dX12_order_38 (v_finI h)
    · rw [if_neg c] at h
      refine V.iload_n (pc := 21) (i := 2) hK rfl dX12_order_21 ?_
      refine V.i2l (pc := 22) hK dX12_order_22 ?_
      refine V.aload_n (pc := 23) (i := 0) hK rfl ⟨_, rfl⟩ dX12_order_23 ?_
      refine V.getI (pc := 24) hK fl_RX12_233 rfl (hL.1 79 _ ls_79) dX12_order_24 ?_
      refine V.i2l (pc := 27) hK dX12_order_27 ?_
      refine V.ldc2 (pc := 28) hK tw_1404 dX12_order_28 ?_
      obtain ⟨z2, hz2, h⟩ := v_bdS h
      refine V.cS (pc := 31) hK (c_X12_in E hL N _ _ _ _ hz2) Y_X12_in cs_RX12_229 dX12_order_31 (by decide) rfl (Nat.le_of_ble_eq_true rfl) ?_
      refine V.if_ne (pc := 34) (tgt := 39) hK dX12_order_34 (by decide) (fun c => ?_) (fun c => ?_)
      · rw [if_neg c] at h
        refine V.aload_n (pc := 39) (i := 0) hK rfl ⟨_, rfl⟩ dX12_order_39 ?_
        refine V.iconst (pc := 40) (v := 0) hK (by decide) dX12_order_40 ?_
        refine V.putI (pc := 41) hK fl_RX12_358 rfl rfl ⟨rfl, rfl⟩ (hL.1 79 _ ls_79) dX12_order_41 ?_
        refine V.nmM (fun M3 eM3 => ?_)
        have h := v_lt eM3 h
        refine V.aload_n (pc := 44) (i := 0) hK rfl ⟨_, rfl⟩ dX12_order_44 ?_
        refine V.iconst (pc := 45) (v := 0) hK (by decide) dX12_order_45 ?_
        refine V.putI (pc := 46) hK fl_RX12_355 rfl rfl ⟨rfl, rfl⟩ (hL.1 79 _ ls_79) dX12_order_46 ?_
        refine V.nmM (fun M4 eM4 => ?_)
        have h := v_lt eM4 h
        refine V.aload_n (pc := 49) (i := 0) hK rfl ⟨_, rfl⟩ dX12_order_49 ?_
        refine V.iconst (pc := 50) (v := 0) hK (by decide) dX12_order_50 ?_
        refine V.putI (pc := 51) hK fl_RX12_388 rfl rfl ⟨rfl, rfl⟩ (hL.1 79 _ ls_79) dX12_order_51 ?_
        refine V.nmM (fun M5 eM5 => ?_)
        have h := v_lt eM5 h
        refine V.aload_n (pc := 54) (i := 0) hK rfl ⟨_, rfl⟩ dX12_order_54 ?_
        refine V.iconst (pc := 55) (v := 0) hK (by decide) dX12_order_55 ?_
        refine V.putI (pc := 56) hK fl_RX12_423 rfl rfl ⟨rfl, rfl⟩ (hL.1 79 _ ls_79) dX12_order_56 ?_
        refine V.nmM (fun M6 eM6 => ?_)
        have h := v_lt eM6 h
        refine V.aload_n (pc := 59) (i := 0) hK rfl ⟨_, rfl⟩ dX12_order_59 ?_
        refine V.iconst (pc := 60) (v := 0) hK (by decide) dX12_order_60 ?_
        refine V.putI (pc := 61) hK fl_RX12_391 rfl rfl ⟨rfl, rfl⟩ (hL.1 79 _ ls_79) dX12_order_61 ?_
        refine V.nmM (fun M7 eM7 => ?_)
        have h := v_lt eM7 h
        refine V.iconst (pc := 64) (v := 0) hK (by decide) dX12_order_64 ?_
        refine V.istore_n (pc := 65) (i := 3) (lv' := [(0, _), (1, _), (2, _), (3, _)]) hK (by decide) rfl dX12_order_65 ?_
        refine V.iconst (pc := 66) (v := 1) hK (by decide) dX12_order_66 ?_
        refine V.istore (pc := 67) (i := 4) (lv' := [(0, _), (1, _), (2, _), (3, _), (4, _)]) hK (by decide) rfl dX12_order_67 ?_
        refine V.pick [0, 1, 2, 3, 4] (l := [(0, _), (1, _), (2, _), (3, _), (4, _)]) rfl ?_
        exact w_X12_order_L69 hL hO N N _ _ _ _ _ h
      · rw [if_pos c] at h
        refine V.iconst (pc := 37) (v := -1) hK (by decide) dX12_order_37 ?_
        exact V.iret (pc := 38) hO dX12_order_38 (v_finI h)
set_option maxHeartbeats 4000000 in
set_option maxRecDepth 100000 in
theorem w_X12_takes___L53 {E : v_E} {X : v_X} {sh : v_S} {P : v_P} {out : Int32 × v_M} (hL : v_Lay sh P) (hO : v_O E X cX12_takes__ RX12 4 2 (some .boolean) "takes" (v_Q1 (some (.int out.1)) sh P out.2)) (N : Nat) (x1 : Int32) (x2 : Int32) (x3 : Int32) (t0 : Int32) (M : v_M) (h : f_X12_takes___L53 N x1 x2 x3 t0 M = some out) : V E X (0, 0) 53 [(0, v_rf E 79), (1, .int x1), (2, .int x2), (3, .int x3)] [.int t0] sh P M := by
  have hK := hO.1
  unfold f_X12_takes___L53 at h
  refine V.iload_n (pc := 53) (i := 3) hK rfl dX12_takes___53 ?_
  refine V.icmp_ne (pc := 54) (tgt := 59) hK dX12_takes___54 (by decide) (fun c => ?_) (fun c => ?_)
  · rw [if_neg c] at h
    refine V.aload_n (pc := 59) (i := 0) hK rfl ⟨_, rfl⟩ dX12_takes___59 ?_
    refine V.getR (pc := 60) hK fl_RX12_49 rfl (hL.1 79 _ ls_79) (hL.2 79 17 93 rfl) dX12_takes___60 ?_
    refine V.iload_n (pc := 63) (i := 1) hK rfl dX12_takes___63 ?_
    refine V.dup2 (pc := 64) hK rfl rfl dX12_takes___64 ?_
    obtain ⟨hb, h⟩ := v_ckS h
    refine V.iald (pc := 65) hK (hL.1 93 _ ls_93) (v_ibS hb) dX12_takes___65 ?_
    refine V.iconst (pc := 66) (v := 1) hK (by decide) dX12_takes___66 ?_
    refine V.iload_n (pc := 67) (i := 2) hK rfl dX12_takes___67 ?_
    refine V.ishl (pc := 68) hK dX12_takes___68 ?_
    refine V.ixor (pc := 69) hK dX12_takes___69 ?_
    obtain ⟨hb, h⟩ := v_ckS h
    refine V.iast (pc := 70) hK (hL.1 93 _ ls_93) (v_ibS hb) dX12_takes___70 ?_
    refine V.nmM (fun M1 eM1 => ?_)
    have h := v_lt eM1 h
    refine V.iconst (pc := 71) (v := 1) hK (by decide) dX12_takes___71 ?_
    obtain ⟨hb, h⟩ := v_ckS h
    exact V.zret (pc := 72) hO (v_z01 hb) dX12_takes___72 (v_finI h)
  · rw [if_pos c] at h
    refine V.iconst (pc := 57) (v := 0) hK (by decide) dX12_takes___57 ?_
    obtain ⟨hb, h⟩ := v_ckS h
    exact V.zret (pc := 58) hO (v_z01 hb) dX12_takes___58 (v_finI h)
set_option maxHeartbeats 4000000 in
set_option maxRecDepth 100000 in
theorem c_X12_takes__ (E : v_E) {sh : v_S} {P : v_P} (hL : v_Lay sh P) (N : Nat) (x1 : Int32) (x2 : Int32) (x3 : Int32) (M : v_M) {out : Int32 × v_M} (h : f_X12_takes__ N x1 x2 x3 M = some out) : v_Ct E 2 yX12_takes__ cX12_takes__ 4 (some .boolean) 0 0 [v_rf E 79, .int x1, .int x2, .int x3] sh P M (v_Q1 (some (.int out.1)) sh P out.2) := by
  refine v_Ct.of (by decide +kernel) (Nat.le_of_ble_eq_true rfl) (fun X hO => ?_)
  have hK : v_K E X cX12_takes__ RX12 4 2 := hO.1
  have hO : v_O E X cX12_takes__ RX12 4 2 (some .boolean) "takes" (v_Q1 (some (.int out.1)) sh P out.2) := hO
  show V E X (0, 0) 0 [(0, v_rf E 79), (1, .int x1), (2, .int x2), (3, .int x3)] [] sh P M
  unfold f_X12_takes__ at h
  refine V.aload_n (pc := 0) (i := 0) hK rfl ⟨_, rfl⟩ dX12_takes___0 ?_
  refine V.iload_n (pc := 1) (i := 1) hK rfl dX12_takes___1 ?_
  obtain ⟨z1, hz1, h⟩ := v_bdS h
  refine V.cV (pc := 2) (ci := 12) hK (c_X12_isMachine E hL N _ _ hz1) Y_X12_isMachine cv_RX12_262 (by decide) rfl (hL.1 79 _ ls_79) dX12_takes___2 (by decide) rfl (Nat.le_of_ble_eq_true rfl) ?_
  refine V.if_eq (pc := 5) (tgt := 57) hK dX12_takes___5 (by decide) (fun c => ?_) (fun c => ?_)
  · rw [if_pos c] at h
    refine V.iconst (pc := 57) (v := 0) hK (by decide) dX12_takes___57 ?_
    obtain ⟨hb, h⟩ := v_ckS h
    exact V.zret (pc := 58) hO (v_z01 hb) dX12_takes___58 (v_finI h)
  · rw [if_neg c] at h
    refine V.iload_n (pc := 8) (i := 2) hK rfl dX12_takes___8 ?_
    refine V.i2l (pc := 9) hK dX12_takes___9 ?_
    refine V.lconst (pc := 10) (v := 0) hK (by decide) dX12_takes___10 ?_
    refine V.aload_n (pc := 11) (i := 0) hK rfl ⟨_, rfl⟩ dX12_takes___11 ?_
    refine V.getI (pc := 12) hK fl_RX12_385 rfl (hL.1 79 _ ls_79) dX12_takes___12 ?_
    refine V.iconst (pc := 15) (v := 1) hK (by decide) dX12_takes___15 ?_
    refine V.isub (pc := 16) hK dX12_takes___16 ?_
    refine V.i2l (pc := 17) hK dX12_takes___17 ?_
    obtain ⟨z2, hz2, h⟩ := v_bdS h
    refine V.cS (pc := 18) hK (c_X12_in E hL N _ _ _ _ hz2) Y_X12_in cs_RX12_229 dX12_takes___18 (by decide) rfl (Nat.le_of_ble_eq_true rfl) ?_
    refine V.if_eq (pc := 21) (tgt := 57) hK dX12_takes___21 (by decide) (fun c => ?_) (fun c => ?_)
    · rw [if_pos c] at h
      refine V.iconst (pc := 57) (v := 0) hK (by decide) dX12_takes___57 ?_
      obtain ⟨hb, h⟩ := v_ckS h
      exact V.zret (pc := 58) hO (v_z01 hb) dX12_takes___58 (v_finI h)
    · rw [if_neg c] at h
      refine V.aload_n (pc := 24) (i := 0) hK rfl ⟨_, rfl⟩ dX12_takes___24 ?_
      refine V.getR (pc := 25) hK fl_RX12_101 rfl (hL.1 79 _ ls_79) (hL.2 79 43 110 rfl) dX12_takes___25 ?_
      refine V.iload_n (pc := 28) (i := 2) hK rfl dX12_takes___28 ?_
      obtain ⟨hb, h⟩ := v_ckS h
      refine V.iald (pc := 29) hK (hL.1 110 _ ls_110) (v_ibS hb) dX12_takes___29 ?_
      refine V.iconst (pc := 30) (v := 1) hK (by decide) dX12_takes___30 ?_
      refine V.icmp_ne (pc := 31) (tgt := 57) hK dX12_takes___31 (by decide) (fun c => ?_) (fun c => ?_)
      · rw [if_neg c] at h
        refine V.iconst (pc := 57) (v := 0) hK (by decide) dX12_takes___57 ?_
        obtain ⟨hb, h⟩ := v_ckS h
        exact V.zret (pc := 58) hO (v_z01 hb) dX12_takes___58 (v_finI h)
      · rw [if_pos c] at h
        refine V.aload_n (pc := 34) (i := 0) hK rfl ⟨_, rfl⟩ dX12_takes___34 ?_
        refine V.getR (pc := 35) hK fl_RX12_49 rfl (hL.1 79 _ ls_79) (hL.2 79 17 93 rfl) dX12_takes___35 ?_
        refine V.iload_n (pc := 38) (i := 1) hK rfl dX12_takes___38 ?_
        obtain ⟨hb, h⟩ := v_ckS h
        refine V.iald (pc := 39) hK (hL.1 93 _ ls_93) (v_ibS hb) dX12_takes___39 ?_
        refine V.iload_n (pc := 40) (i := 2) hK rfl dX12_takes___40 ?_
        refine V.ishr (pc := 41) hK dX12_takes___41 ?_
        refine V.iconst (pc := 42) (v := 1) hK (by decide) dX12_takes___42 ?_
        refine V.iand (pc := 43) hK dX12_takes___43 ?_
        refine V.iconst (pc := 44) (v := 1) hK (by decide) dX12_takes___44 ?_
        refine V.icmp_ne (pc := 45) (tgt := 52) hK dX12_takes___45 (by decide) (fun c => ?_) (fun c => ?_)
        · rw [if_neg c] at h
          refine V.iconst (pc := 52) (v := 0) hK (by decide) dX12_takes___52 ?_
          refine V.pick [0, 1, 2, 3] (l := [(0, _), (1, _), (2, _), (3, _)]) rfl ?_
          exact w_X12_takes___L53 hL hO N _ _ _ _ _ h
        · rw [if_pos c] at h
          refine V.iconst (pc := 48) (v := 1) hK (by decide) dX12_takes___48 ?_
          refine V.goto (pc := 49) (tgt := 53) hK dX12_takes___49 (by decide) ?_
          refine V.pick [0, 1, 2, 3] (l := [(0, _), (1, _), (2, _), (3, _)]) rfl ?_
          exact w_X12_takes___L53 hL hO N _ _ _ _ _ h
set_option maxHeartbeats 4000000 in
set_option maxRecDepth 100000 in
theorem c_X12_truth (E : v_E) {sh : v_S} {P : v_P} (hL : v_Lay sh P) (N : Nat) (x0 : Int32) (M : v_M) {out : Int64 × v_M} (h : f_X12_truth N x0 M = some out) : v_Ct E 0 yX12_truth cX12_truth 1 (some .long) 0 0 [.int x0] sh P M (v_Q1 (some (.long out.1)) sh P out.2) := by
  refine v_Ct.of (by decide +kernel) (Nat.le_of_ble_eq_true rfl) (fun X hO => ?_)
  have hK : v_K E X cX12_truth RX12 1 0 := hO.1
  have hO : v_O E X cX12_truth RX12 1 0 (some .long) "truth" (v_Q1 (some (.long out.1)) sh P out.2) := hO
  show V E X (0, 0) 0 [(0, .int x0)] [] sh P M
  unfold f_X12_truth at h
  refine V.iload_n (pc := 0) (i := 0) hK rfl dX12_truth_0 ?_
  refine V.if_eq (pc := 1) (tgt := 8) hK dX12_truth_1 (by decide) (fun c => ?_) (fun c => ?_)
  · rw [if_pos c] at h
    refine V.lconst (pc := 8) (v := 0) hK (by decide) dX12_truth_8 ?_
    exact V.lret (pc := 9) hO dX12_truth_9 (v_finL h)
  · rw [if_neg c] at h
    refine V.lconst (pc := 4) (v := 1) hK (by decide) dX12_truth_4 ?_
    refine V.goto (pc := 5) (tgt := 9) hK dX12_truth_5 (by decide) ?_
    exact V.lret (pc := 9) hO dX12_truth_9 (v_finL h)
set_option maxHeartbeats 4000000 in
set_option maxRecDepth 100000 in
theorem c_X12_both (E : v_E) {sh : v_S} {P : v_P} (hL : v_Lay sh P) (N : Nat) (x0 : Int32) (l1 : Int64) (l3 : Int64) (M : v_M) {out : Int64 × v_M} (h : f_X12_both N x0 l1 l3 M = some out) : v_Ct E 1 yX12_both cX12_both 5 (some .long) 0 0 [.int x0, .long l1, .long l3] sh P M (v_Q1 (some (.long out.1)) sh P out.2) := by
  refine v_Ct.of (by decide +kernel) (Nat.le_of_ble_eq_true rfl) (fun X hO => ?_)
  have hK : v_K E X cX12_both RX12 5 1 := hO.1
  have hO : v_O E X cX12_both RX12 5 1 (some .long) "both" (v_Q1 (some (.long out.1)) sh P out.2) := hO
  show V E X (0, 0) 0 [(0, .int x0), (1, .long l1), (3, .long l3)] [] sh P M
  unfold f_X12_both at h
  refine V.iload_n (pc := 0) (i := 0) hK rfl dX12_both_0 ?_
  by_cases c2 : x0 = (2 : Int32)
  · rw [if_pos c2] at h
    refine V.tableIn (pc := 1) (off := 51) (tgt := 52) hK dX12_both_1 (by rw [c2]; decide) (by rw [c2]; decide) (by rw [c2]; decide) (by decide) ?_
    refine V.lload_n (pc := 52) (i := 1) hK rfl dX12_both_52 ?_
    refine V.lload_n (pc := 53) (i := 3) hK rfl dX12_both_53 ?_
    refine V.ladd (pc := 54) hK dX12_both_54 ?_
    exact V.lret (pc := 55) hO dX12_both_55 (v_finL h)
  · rw [if_neg c2] at h
    by_cases c3 : x0 = (3 : Int32)
    · rw [if_pos c3] at h
      refine V.tableIn (pc := 1) (off := 55) (tgt := 56) hK dX12_both_1 (by rw [c3]; decide) (by rw [c3]; decide) (by rw [c3]; decide) (by decide) ?_
      refine V.lload_n (pc := 56) (i := 1) hK rfl dX12_both_56 ?_
      refine V.lload_n (pc := 57) (i := 3) hK rfl dX12_both_57 ?_
      refine V.lsub (pc := 58) hK dX12_both_58 ?_
      exact V.lret (pc := 59) hO dX12_both_59 (v_finL h)
    · rw [if_neg c3] at h
      by_cases c4 : x0 = (4 : Int32)
      · rw [if_pos c4] at h
        refine V.tableIn (pc := 1) (off := 59) (tgt := 60) hK dX12_both_1 (by rw [c4]; decide) (by rw [c4]; decide) (by rw [c4]; decide) (by decide) ?_
        refine V.lload_n (pc := 60) (i := 1) hK rfl dX12_both_60 ?_
        refine V.lload_n (pc := 61) (i := 3) hK rfl dX12_both_61 ?_
        refine V.lcmp (pc := 62) hK dX12_both_62 ?_
        refine V.if_ge (pc := 63) (tgt := 70) hK dX12_both_63 (by decide) (fun c => ?_) (fun c => ?_)
        · rw [if_pos c] at h
          refine V.iconst (pc := 70) (v := 0) hK (by decide) dX12_both_70 ?_
          obtain ⟨z1, hz1, h⟩ := v_bdS h
          refine V.cS (pc := 71) hK (c_X12_truth E hL N _ _ hz1) Y_X12_truth cs_RX12_465 dX12_both_71 (by decide) rfl (Nat.le_of_ble_eq_true rfl) ?_
          exact V.lret (pc := 74) hO dX12_both_74 (v_finL h)
        · rw [if_neg c] at h
          refine V.iconst (pc := 66) (v := 1) hK (by decide) dX12_both_66 ?_
          refine V.goto (pc := 67) (tgt := 71) hK dX12_both_67 (by decide) ?_
          obtain ⟨z2, hz2, h⟩ := v_bdS h
          refine V.cS (pc := 71) hK (c_X12_truth E hL N _ _ hz2) Y_X12_truth cs_RX12_465 dX12_both_71 (by decide) rfl (Nat.le_of_ble_eq_true rfl) ?_
          exact V.lret (pc := 74) hO dX12_both_74 (v_finL h)
      · rw [if_neg c4] at h
        by_cases c5 : x0 = (5 : Int32)
        · rw [if_pos c5] at h
          refine V.tableIn (pc := 1) (off := 74) (tgt := 75) hK dX12_both_1 (by rw [c5]; decide) (by rw [c5]; decide) (by rw [c5]; decide) (by decide) ?_
          refine V.lload_n (pc := 75) (i := 1) hK rfl dX12_both_75 ?_
          refine V.lload_n (pc := 76) (i := 3) hK rfl dX12_both_76 ?_
          refine V.lcmp (pc := 77) hK dX12_both_77 ?_
          refine V.if_gt (pc := 78) (tgt := 85) hK dX12_both_78 (by decide) (fun c => ?_) (fun c => ?_)
          · rw [if_pos c] at h
            refine V.iconst (pc := 85) (v := 0) hK (by decide) dX12_both_85 ?_
            obtain ⟨z3, hz3, h⟩ := v_bdS h
            refine V.cS (pc := 86) hK (c_X12_truth E hL N _ _ hz3) Y_X12_truth cs_RX12_465 dX12_both_86 (by decide) rfl (Nat.le_of_ble_eq_true rfl) ?_
            exact V.lret (pc := 89) hO dX12_both_89 (v_finL h)
          · rw [if_neg c] at h
            refine V.iconst (pc := 81) (v := 1) hK (by decide) dX12_both_81 ?_
            refine V.goto (pc := 82) (tgt := 86) hK dX12_both_82 (by decide) ?_
            obtain ⟨z4, hz4, h⟩ := v_bdS h
            refine V.cS (pc := 86) hK (c_X12_truth E hL N _ _ hz4) Y_X12_truth cs_RX12_465 dX12_both_86 (by decide) rfl (Nat.le_of_ble_eq_true rfl) ?_
            exact V.lret (pc := 89) hO dX12_both_89 (v_finL h)
        · rw [if_neg c5] at h
          by_cases c6 : x0 = (6 : Int32)
          · rw [if_pos c6] at h
            refine V.tableIn (pc := 1) (off := 89) (tgt := 90) hK dX12_both_1 (by rw [c6]; decide) (by rw [c6]; decide) (by rw [c6]; decide) (by decide) ?_
            refine V.lload_n (pc := 90) (i := 1) hK rfl dX12_both_90 ?_
            refine V.lload_n (pc := 91) (i := 3) hK rfl dX12_both_91 ?_
            refine V.lcmp (pc := 92) hK dX12_both_92 ?_
            refine V.if_ne (pc := 93) (tgt := 100) hK dX12_both_93 (by decide) (fun c => ?_) (fun c => ?_)
            · rw [if_neg c] at h
              refine V.iconst (pc := 100) (v := 0) hK (by decide) dX12_both_100 ?_
              obtain ⟨z5, hz5, h⟩ := v_bdS h
              refine V.cS (pc := 101) hK (c_X12_truth E hL N _ _ hz5) Y_X12_truth cs_RX12_465 dX12_both_101 (by decide) rfl (Nat.le_of_ble_eq_true rfl) ?_
              exact V.lret (pc := 104) hO dX12_both_104 (v_finL h)
            · rw [if_pos c] at h
              refine V.iconst (pc := 96) (v := 1) hK (by decide) dX12_both_96 ?_
              refine V.goto (pc := 97) (tgt := 101) hK dX12_both_97 (by decide) ?_
              obtain ⟨z6, hz6, h⟩ := v_bdS h
              refine V.cS (pc := 101) hK (c_X12_truth E hL N _ _ hz6) Y_X12_truth cs_RX12_465 dX12_both_101 (by decide) rfl (Nat.le_of_ble_eq_true rfl) ?_
              exact V.lret (pc := 104) hO dX12_both_104 (v_finL h)
          · rw [if_neg c6] at h
            by_cases c7 : x0 = (7 : Int32)
            · rw [if_pos c7] at h
              refine V.tableIn (pc := 1) (off := 104) (tgt := 105) hK dX12_both_1 (by rw [c7]; decide) (by rw [c7]; decide) (by rw [c7]; decide) (by decide) ?_
              refine V.lload_n (pc := 105) (i := 1) hK rfl dX12_both_105 ?_
              refine V.lload_n (pc := 106) (i := 3) hK rfl dX12_both_106 ?_
              refine V.lcmp (pc := 107) hK dX12_both_107 ?_
              refine V.if_lt (pc := 108) (tgt := 115) hK dX12_both_108 (by decide) (fun c => ?_) (fun c => ?_)
              · rw [if_pos c] at h
                refine V.iconst (pc := 115) (v := 0) hK (by decide) dX12_both_115 ?_
                obtain ⟨z7, hz7, h⟩ := v_bdS h
                refine V.cS (pc := 116) hK (c_X12_truth E hL N _ _ hz7) Y_X12_truth cs_RX12_465 dX12_both_116 (by decide) rfl (Nat.le_of_ble_eq_true rfl) ?_
                exact V.lret (pc := 119) hO dX12_both_119 (v_finL h)
              · rw [if_neg c] at h
                refine V.iconst (pc := 111) (v := 1) hK (by decide) dX12_both_111 ?_
                refine V.goto (pc := 112) (tgt := 116) hK dX12_both_112 (by decide) ?_
                obtain ⟨z8, hz8, h⟩ := v_bdS h
                refine V.cS (pc := 116) hK (c_X12_truth E hL N _ _ hz8) Y_X12_truth cs_RX12_465 dX12_both_116 (by decide) rfl (Nat.le_of_ble_eq_true rfl) ?_
                exact V.lret (pc := 119) hO dX12_both_119 (v_finL h)
            · rw [if_neg c7] at h
              by_cases c8 : x0 = (8 : Int32)
              · rw [if_pos c8] at h
                refine V.tableIn (pc := 1) (off := 119) (tgt := 120) hK dX12_both_1 (by rw [c8]; decide) (by rw [c8]; decide) (by rw [c8]; decide) (by decide) ?_
                refine V.lload_n (pc := 120) (i := 1) hK rfl dX12_both_120 ?_
                refine V.lload_n (pc := 121) (i := 3) hK rfl dX12_both_121 ?_
                refine V.lcmp (pc := 122) hK dX12_both_122 ?_
                refine V.if_le (pc := 123) (tgt := 130) hK dX12_both_123 (by decide) (fun c => ?_) (fun c => ?_)
                · rw [if_pos c] at h
                  refine V.iconst (pc := 130) (v := 0) hK (by decide) dX12_both_130 ?_
                  obtain ⟨z9, hz9, h⟩ := v_bdS h
                  refine V.cS (pc := 131) hK (c_X12_truth E hL N _ _ hz9) Y_X12_truth cs_RX12_465 dX12_both_131 (by decide) rfl (Nat.le_of_ble_eq_true rfl) ?_
                  exact V.lret (pc := 134) hO dX12_both_134 (v_finL h)
                · rw [if_neg c] at h
                  refine V.iconst (pc := 126) (v := 1) hK (by decide) dX12_both_126 ?_
                  refine V.goto (pc := 127) (tgt := 131) hK dX12_both_127 (by decide) ?_
                  obtain ⟨z10, hz10, h⟩ := v_bdS h
                  refine V.cS (pc := 131) hK (c_X12_truth E hL N _ _ hz10) Y_X12_truth cs_RX12_465 dX12_both_131 (by decide) rfl (Nat.le_of_ble_eq_true rfl) ?_
                  exact V.lret (pc := 134) hO dX12_both_134 (v_finL h)
              · rw [if_neg c8] at h
                by_cases c10 : x0 = (10 : Int32)
                · rw [if_pos c10] at h
                  refine V.tableIn (pc := 1) (off := 134) (tgt := 135) hK dX12_both_1 (by rw [c10]; decide) (by rw [c10]; decide) (by rw [c10]; decide) (by decide) ?_
                  refine V.lload_n (pc := 135) (i := 1) hK rfl dX12_both_135 ?_
                  refine V.lload_n (pc := 136) (i := 3) hK rfl dX12_both_136 ?_
                  refine V.land (pc := 137) hK dX12_both_137 ?_
                  exact V.lret (pc := 138) hO dX12_both_138 (v_finL h)
                · rw [if_neg c10] at h
                  by_cases c9 : x0 = (9 : Int32)
                  · refine V.tableIn (pc := 1) (off := 138) (tgt := 139) hK dX12_both_1 (by rw [c9]; decide) (by rw [c9]; decide) (by rw [c9]; decide) (by decide) ?_
                    refine V.lload_n (pc := 139) (i := 1) hK rfl dX12_both_139 ?_
                    refine V.lload_n (pc := 140) (i := 3) hK rfl dX12_both_140 ?_
                    refine V.lor (pc := 141) hK dX12_both_141 ?_
                    exact V.lret (pc := 142) hO dX12_both_142 (v_finL h)
                  · skip
                    refine V.tableOut (pc := 1) (tgt := 139) hK dX12_both_1 (v_tout (fun i i1 i2 => ?_)) (by decide) ?_
                    · rcases (show i = 2 ∨ i = 3 ∨ i = 4 ∨ i = 5 ∨ i = 6 ∨ i = 7 ∨ i = 8 ∨ i = 10 ∨ i = 9 by omega) with rfl | rfl | rfl | rfl | rfl | rfl | rfl | rfl | rfl
                      · exact v_tne (by decide) c2
                      · exact v_tne (by decide) c3
                      · exact v_tne (by decide) c4
                      · exact v_tne (by decide) c5
                      · exact v_tne (by decide) c6
                      · exact v_tne (by decide) c7
                      · exact v_tne (by decide) c8
                      · exact v_tne (by decide) c10
                      · exact v_tne (by decide) c9
                    · refine V.lload_n (pc := 139) (i := 1) hK rfl dX12_both_139 ?_
                      refine V.lload_n (pc := 140) (i := 3) hK rfl dX12_both_140 ?_
                      refine V.lor (pc := 141) hK dX12_both_141 ?_
                      exact V.lret (pc := 142) hO dX12_both_142 (v_finL h)
set_option maxHeartbeats 4000000 in
set_option maxRecDepth 100000 in
theorem w_X12_answer_L147 {E : v_E} {X : v_X} {sh : v_S} {P : v_P} {out : Int64 × v_M} (hL : v_Lay sh P) (hO : v_O E X cX12_answer RX12 8 2 (some .long) "answer" (v_Q1 (some (.long out.1)) sh P out.2)) (N : Nat) (k6 : Int32 → Int32 → Int32 → Int32 → v_M → Option (Int64 × v_M)) (hk6 : ∀ (x1 : Int32) (x3 : Int32) (x4 : Int32) (x5 : Int32) (M : v_M), k6 x1 x3 x4 x5 M = some out → V E X (0, 0) 6 [(0, v_rf E 79), (1, .int x1), (3, .int x3), (4, .int x4), (5, .int x5)] [] sh P M) (x1 : Int32) (x3 : Int32) (x4 : Int32) (x5 : Int32) (M : v_M) (h : f_X12_answer_L147 N k6 x1 x3 x4 x5 M = some out) : V E X (0, 0) 147 [(0, v_rf E 79), (1, .int x1), (3, .int x3), (4, .int x4), (5, .int x5)] [] sh P M := by
  have hK := hO.1
  unfold f_X12_answer_L147 at h
  refine V.iinc (pc := 147) (i := 5) (v := 1) (lv' := [(0, _), (1, _), (3, _), (4, _), (5, _)]) hK rfl (by decide) (by decide) rfl dX12_answer_147 ?_
  refine V.goto (pc := 150) (tgt := 6) hK dX12_answer_150 (by decide) ?_
  refine V.pick [0, 1, 3, 4, 5] (l := [(0, _), (1, _), (3, _), (4, _), (5, _)]) rfl ?_
  exact hk6 _ _ _ _ _ h
set_option maxHeartbeats 4000000 in
set_option maxRecDepth 100000 in
theorem w_X12_answer_L77 {E : v_E} {X : v_X} {sh : v_S} {P : v_P} {out : Int64 × v_M} (hL : v_Lay sh P) (hO : v_O E X cX12_answer RX12 8 2 (some .long) "answer" (v_Q1 (some (.long out.1)) sh P out.2)) (N : Nat) (k6 : Int32 → Int32 → Int32 → Int32 → v_M → Option (Int64 × v_M)) (hk6 : ∀ (x1 : Int32) (x3 : Int32) (x4 : Int32) (x5 : Int32) (M : v_M), k6 x1 x3 x4 x5 M = some out → V E X (0, 0) 6 [(0, v_rf E 79), (1, .int x1), (3, .int x3), (4, .int x4), (5, .int x5)] [] sh P M) (x1 : Int32) (x3 : Int32) (x4 : Int32) (x5 : Int32) (l0 : Int64) (t1 : Int32) (M : v_M) (h : f_X12_answer_L77 N k6 x1 x3 x4 x5 l0 t1 M = some out) : V E X (0, 0) 77 [(0, v_rf E 79), (1, .int x1), (3, .int x3), (4, .int x4), (5, .int x5)] [.long l0, .int t1, v_rf E 121] sh P M := by
  have hK := hO.1
  unfold f_X12_answer_L77 at h
  obtain ⟨hb, h⟩ := v_ckS h
  refine V.last (pc := 77) hK (hL.1 121 _ ls_121) (v_ibS hb) dX12_answer_77 ?_
  refine V.nmM (fun M1 eM1 => ?_)
  have h := v_lt eM1 h
  refine V.iinc (pc := 78) (i := 4) (v := 1) (lv' := [(0, _), (1, _), (3, _), (4, _), (5, _)]) hK rfl (by decide) (by decide) rfl dX12_answer_78 ?_
  refine V.goto (pc := 81) (tgt := 147) hK dX12_answer_81 (by decide) ?_
  refine V.pick [0, 1, 3, 4, 5] (l := [(0, _), (1, _), (3, _), (4, _), (5, _)]) rfl ?_
  exact w_X12_answer_L147 hL hO N _ hk6 _ _ _ _ _ h
set_option maxHeartbeats 4000000 in
set_option maxRecDepth 100000 in
theorem w_X12_answer_L53 {E : v_E} {X : v_X} {sh : v_S} {P : v_P} {out : Int64 × v_M} (hL : v_Lay sh P) (hO : v_O E X cX12_answer RX12 8 2 (some .long) "answer" (v_Q1 (some (.long out.1)) sh P out.2)) (N : Nat) (k6 : Int32 → Int32 → Int32 → Int32 → v_M → Option (Int64 × v_M)) (hk6 : ∀ (x1 : Int32) (x3 : Int32) (x4 : Int32) (x5 : Int32) (M : v_M), k6 x1 x3 x4 x5 M = some out → V E X (0, 0) 6 [(0, v_rf E 79), (1, .int x1), (3, .int x3), (4, .int x4), (5, .int x5)] [] sh P M) (x1 : Int32) (x3 : Int32) (x4 : Int32) (x5 : Int32) (x6 : Int32) (x7 : Int32) (M : v_M) (h : f_X12_answer_L53 N k6 x1 x3 x4 x5 x6 x7 M = some out) : V E X (0, 0) 53 [(0, v_rf E 79), (1, .int x1), (3, .int x3), (4, .int x4), (5, .int x5), (6, .int x6), (7, .int x7)] [] sh P M := by
  have hK := hO.1
  unfold f_X12_answer_L53 at h
  refine V.aload_n (pc := 53) (i := 0) hK rfl ⟨_, rfl⟩ dX12_answer_53 ?_
  refine V.getR (pc := 54) hK fl_RX12_135 rfl (hL.1 79 _ ls_79) (hL.2 79 54 121 rfl) dX12_answer_54 ?_
  refine V.iload (pc := 57) (i := 4) hK rfl dX12_answer_57 ?_
  refine V.iload (pc := 59) (i := 6) hK rfl dX12_answer_59 ?_
  refine V.if_ne (pc := 61) (tgt := 70) hK dX12_answer_61 (by decide) (fun c => ?_) (fun c => ?_)
  · rw [if_neg c] at h
    refine V.aload_n (pc := 70) (i := 0) hK rfl ⟨_, rfl⟩ dX12_answer_70 ?_
    refine V.getR (pc := 71) hK fl_RX12_131 rfl (hL.1 79 _ ls_79) (hL.2 79 53 120 rfl) dX12_answer_71 ?_
    refine V.iload (pc := 74) (i := 7) hK rfl dX12_answer_74 ?_
    obtain ⟨hb, h⟩ := v_ckS h
    refine V.lald (pc := 76) hK (hL.1 120 _ ls_120) (v_ibS hb) dX12_answer_76 ?_
    refine V.pick [0, 1, 3, 4, 5] (l := [(0, _), (1, _), (3, _), (4, _), (5, _)]) rfl ?_
    exact w_X12_answer_L77 hL hO N _ hk6 _ _ _ _ _ _ _ h
  · rw [if_pos c] at h
    refine V.iload (pc := 64) (i := 7) hK rfl dX12_answer_64 ?_
    refine V.i2l (pc := 66) hK dX12_answer_66 ?_
    refine V.goto (pc := 67) (tgt := 77) hK dX12_answer_67 (by decide) ?_
    refine V.pick [0, 1, 3, 4, 5] (l := [(0, _), (1, _), (3, _), (4, _), (5, _)]) rfl ?_
    exact w_X12_answer_L77 hL hO N _ hk6 _ _ _ _ _ _ _ h
set_option maxHeartbeats 4000000 in
set_option maxRecDepth 100000 in
theorem w_X12_answer_L6 {E : v_E} {X : v_X} {sh : v_S} {P : v_P} {out : Int64 × v_M} (hL : v_Lay sh P) (hO : v_O E X cX12_answer RX12 8 2 (some .long) "answer" (v_Q1 (some (.long out.1)) sh P out.2)) (N : Nat) (n : Nat) : ∀ (x1 : Int32) (x3 : Int32) (x4 : Int32) (x5 : Int32) (M : v_M), f_X12_answer_L6 N n x1 x3 x4 x5 M = some out → V E X (0, 0) 6 [(0, v_rf E 79), (1, .int x1), (3, .int x3), (4, .int x4), (5, .int x5)] [] sh P M := by
  have hK := hO.1
  induction n with
  | zero => intro x1 x3 x4 x5 M h; rw [f_X12_answer_L6] at h; cases h
  | succ n ih =>
    intro x1 x3 x4 x5 M h
    rw [f_X12_answer_L6] at h
    refine V.iload (pc := 6) (i := 5) hK rfl dX12_answer_6 ?_
    refine V.iload_n (pc := 8) (i := 3) hK rfl dX12_answer_8 ?_
    refine V.icmp_ge (pc := 9) (tgt := 153) hK dX12_answer_9 (by decide) (fun c => ?_) (fun c => ?_)
    · rw [if_pos c] at h
      refine V.aload_n (pc := 153) (i := 0) hK rfl ⟨_, rfl⟩ dX12_answer_153 ?_
      refine V.getR (pc := 154) hK fl_RX12_135 rfl (hL.1 79 _ ls_79) (hL.2 79 54 121 rfl) dX12_answer_154 ?_
      refine V.iconst (pc := 157) (v := 0) hK (by decide) dX12_answer_157 ?_
      obtain ⟨hb, h⟩ := v_ckS h
      refine V.lald (pc := 158) hK (hL.1 121 _ ls_121) (v_ibS hb) dX12_answer_158 ?_
      exact V.lret (pc := 159) hO dX12_answer_159 (v_finL h)
    · rw [if_neg c] at h
      refine V.aload_n (pc := 12) (i := 0) hK rfl ⟨_, rfl⟩ dX12_answer_12 ?_
      refine V.getR (pc := 13) hK fl_RX12_95 rfl (hL.1 79 _ ls_79) (hL.2 79 41 108 rfl) dX12_answer_13 ?_
      refine V.sipush (pc := 16) (v := 300) hK (by decide) dX12_answer_16 ?_
      refine V.iload_n (pc := 19) (i := 1) hK rfl dX12_answer_19 ?_
      refine V.imul (pc := 20) hK dX12_answer_20 ?_
      refine V.iload (pc := 21) (i := 5) hK rfl dX12_answer_21 ?_
      refine V.iadd (pc := 23) hK dX12_answer_23 ?_
      obtain ⟨hb, h⟩ := v_ckS h
      refine V.iald (pc := 24) hK (hL.1 108 _ ls_108) (v_ibS hb) dX12_answer_24 ?_
      refine V.topi (fun y1 ey1 => ?_)
      have h := v_lt ey1 h
      refine V.istore (pc := 25) (i := 6) (lv' := [(0, _), (1, _), (3, _), (4, _), (5, _), (6, _)]) hK (by decide) rfl dX12_answer_25 ?_
      refine V.aload_n (pc := 27) (i := 0) hK rfl ⟨_, rfl⟩ dX12_answer_27 ?_
      refine V.getR (pc := 28) hK fl_RX12_98 rfl (hL.1 79 _ ls_79) (hL.2 79 42 109 rfl) dX12_answer_28 ?_
      refine V.sipush (pc := 31) (v := 300) hK (by decide) dX12_answer_31 ?_
      refine V.iload_n (pc := 34) (i := 1) hK rfl dX12_answer_34 ?_
      refine V.imul (pc := 35) hK dX12_answer_35 ?_
      refine V.iload (pc := 36) (i := 5) hK rfl dX12_answer_36 ?_
      refine V.iadd (pc := 38) hK dX12_answer_38 ?_
      obtain ⟨hb, h⟩ := v_ckS h
      refine V.iald (pc := 39) hK (hL.1 109 _ ls_109) (v_ibS hb) dX12_answer_39 ?_
      refine V.topi (fun y2 ey2 => ?_)
      have h := v_lt ey2 h
      refine V.istore (pc := 40) (i := 7) (lv' := [(0, _), (1, _), (3, _), (4, _), (5, _), (6, _), (7, _)]) hK (by decide) rfl dX12_answer_40 ?_
      refine V.iload (pc := 42) (i := 6) hK rfl dX12_answer_42 ?_
      refine V.if_eq (pc := 44) (tgt := 53) hK dX12_answer_44 (by decide) (fun c => ?_) (fun c => ?_)
      · rw [if_pos c] at h
        refine V.pick [0, 1, 3, 4, 5, 6, 7] (l := [(0, _), (1, _), (3, _), (4, _), (5, _), (6, _), (7, _)]) rfl ?_
        exact w_X12_answer_L53 hL hO N _ ih _ _ _ _ _ _ _ h
      · rw [if_neg c] at h
        refine V.iload (pc := 47) (i := 6) hK rfl dX12_answer_47 ?_
        refine V.iconst (pc := 49) (v := 1) hK (by decide) dX12_answer_49 ?_
        refine V.icmp_ne (pc := 50) (tgt := 84) hK dX12_answer_50 (by decide) (fun c => ?_) (fun c => ?_)
        · rw [if_neg c] at h
          refine V.iload (pc := 84) (i := 6) hK rfl dX12_answer_84 ?_
          refine V.bipush (pc := 86) (v := 9) hK (by decide) dX12_answer_86 ?_
          refine V.icmp_ne (pc := 88) (tgt := 114) hK dX12_answer_88 (by decide) (fun c => ?_) (fun c => ?_)
          · rw [if_neg c] at h
            refine V.iinc (pc := 114) (i := 4) (v := -1) (lv' := [(0, _), (1, _), (3, _), (4, _), (5, _), (6, _), (7, _)]) hK rfl (by decide) (by decide) rfl dX12_answer_114 ?_
            refine V.aload_n (pc := 117) (i := 0) hK rfl ⟨_, rfl⟩ dX12_answer_117 ?_
            refine V.getR (pc := 118) hK fl_RX12_135 rfl (hL.1 79 _ ls_79) (hL.2 79 54 121 rfl) dX12_answer_118 ?_
            refine V.iload (pc := 121) (i := 4) hK rfl dX12_answer_121 ?_
            refine V.iconst (pc := 123) (v := 1) hK (by decide) dX12_answer_123 ?_
            refine V.isub (pc := 124) hK dX12_answer_124 ?_
            refine V.iload (pc := 125) (i := 6) hK rfl dX12_answer_125 ?_
            refine V.aload_n (pc := 127) (i := 0) hK rfl ⟨_, rfl⟩ dX12_answer_127 ?_
            refine V.getR (pc := 128) hK fl_RX12_135 rfl (hL.1 79 _ ls_79) (hL.2 79 54 121 rfl) dX12_answer_128 ?_
            refine V.iload (pc := 131) (i := 4) hK rfl dX12_answer_131 ?_
            refine V.iconst (pc := 133) (v := 1) hK (by decide) dX12_answer_133 ?_
            refine V.isub (pc := 134) hK dX12_answer_134 ?_
            obtain ⟨hb, h⟩ := v_ckS h
            refine V.lald (pc := 135) hK (hL.1 121 _ ls_121) (v_ibS hb) dX12_answer_135 ?_
            refine V.aload_n (pc := 136) (i := 0) hK rfl ⟨_, rfl⟩ dX12_answer_136 ?_
            refine V.getR (pc := 137) hK fl_RX12_135 rfl (hL.1 79 _ ls_79) (hL.2 79 54 121 rfl) dX12_answer_137 ?_
            refine V.iload (pc := 140) (i := 4) hK rfl dX12_answer_140 ?_
            obtain ⟨hb, h⟩ := v_ckS h
            refine V.lald (pc := 142) hK (hL.1 121 _ ls_121) (v_ibS hb) dX12_answer_142 ?_
            obtain ⟨z3, hz3, h⟩ := v_bdS h
            refine V.cS (pc := 143) hK (c_X12_both E hL N _ _ _ _ hz3) Y_X12_both cs_RX12_469 dX12_answer_143 (by decide) rfl (Nat.le_of_ble_eq_true rfl) ?_
            obtain ⟨hb, h⟩ := v_ckS h
            refine V.last (pc := 146) hK (hL.1 121 _ ls_121) (v_ibS hb) dX12_answer_146 ?_
            refine V.nmM (fun M4 eM4 => ?_)
            have h := v_lt eM4 h
            refine V.pick [0, 1, 3, 4, 5] (l := [(0, _), (1, _), (3, _), (4, _), (5, _)]) rfl ?_
            exact w_X12_answer_L147 hL hO N _ ih _ _ _ _ _ h
          · rw [if_pos c] at h
            refine V.aload_n (pc := 91) (i := 0) hK rfl ⟨_, rfl⟩ dX12_answer_91 ?_
            refine V.getR (pc := 92) hK fl_RX12_135 rfl (hL.1 79 _ ls_79) (hL.2 79 54 121 rfl) dX12_answer_92 ?_
            refine V.iload (pc := 95) (i := 4) hK rfl dX12_answer_95 ?_
            refine V.iconst (pc := 97) (v := 1) hK (by decide) dX12_answer_97 ?_
            refine V.isub (pc := 98) hK dX12_answer_98 ?_
            refine V.lconst (pc := 99) (v := 1) hK (by decide) dX12_answer_99 ?_
            refine V.aload_n (pc := 100) (i := 0) hK rfl ⟨_, rfl⟩ dX12_answer_100 ?_
            refine V.getR (pc := 101) hK fl_RX12_135 rfl (hL.1 79 _ ls_79) (hL.2 79 54 121 rfl) dX12_answer_101 ?_
            refine V.iload (pc := 104) (i := 4) hK rfl dX12_answer_104 ?_
            refine V.iconst (pc := 106) (v := 1) hK (by decide) dX12_answer_106 ?_
            refine V.isub (pc := 107) hK dX12_answer_107 ?_
            obtain ⟨hb, h⟩ := v_ckS h
            refine V.lald (pc := 108) hK (hL.1 121 _ ls_121) (v_ibS hb) dX12_answer_108 ?_
            refine V.lsub (pc := 109) hK dX12_answer_109 ?_
            obtain ⟨hb, h⟩ := v_ckS h
            refine V.last (pc := 110) hK (hL.1 121 _ ls_121) (v_ibS hb) dX12_answer_110 ?_
            refine V.nmM (fun M5 eM5 => ?_)
            have h := v_lt eM5 h
            refine V.goto (pc := 111) (tgt := 147) hK dX12_answer_111 (by decide) ?_
            refine V.pick [0, 1, 3, 4, 5] (l := [(0, _), (1, _), (3, _), (4, _), (5, _)]) rfl ?_
            exact w_X12_answer_L147 hL hO N _ ih _ _ _ _ _ h
        · rw [if_pos c] at h
          refine V.pick [0, 1, 3, 4, 5, 6, 7] (l := [(0, _), (1, _), (3, _), (4, _), (5, _), (6, _), (7, _)]) rfl ?_
          exact w_X12_answer_L53 hL hO N _ ih _ _ _ _ _ _ _ h
set_option maxHeartbeats 4000000 in
set_option maxRecDepth 100000 in
theorem c_X12_answer (E : v_E) {sh : v_S} {P : v_P} (hL : v_Lay sh P) (N : Nat) (x1 : Int32) (x2 : Int32) (x3 : Int32) (M : v_M) {out : Int64 × v_M} (h : f_X12_answer N x1 x2 x3 M = some out) : v_Ct E 2 yX12_answer cX12_answer 8 (some .long) 0 0 [v_rf E 79, .int x1, .int x2, .int x3] sh P M (v_Q1 (some (.long out.1)) sh P out.2) := by
  refine v_Ct.of (by decide +kernel) (Nat.le_of_ble_eq_true rfl) (fun X hO => ?_)
  have hK : v_K E X cX12_answer RX12 8 2 := hO.1
  have hO : v_O E X cX12_answer RX12 8 2 (some .long) "answer" (v_Q1 (some (.long out.1)) sh P out.2) := hO
  show V E X (0, 0) 0 [(0, v_rf E 79), (1, .int x1), (2, .int x2), (3, .int x3)] [] sh P M
  unfold f_X12_answer at h
  refine V.iconst (pc := 0) (v := 0) hK (by decide) dX12_answer_0 ?_
  refine V.istore (pc := 1) (i := 4) (lv' := [(0, _), (1, _), (2, _), (3, _), (4, _)]) hK (by decide) rfl dX12_answer_1 ?_
  refine V.iload_n (pc := 3) (i := 2) hK rfl dX12_answer_3 ?_
  refine V.istore (pc := 4) (i := 5) (lv' := [(0, _), (1, _), (2, _), (3, _), (4, _), (5, _)]) hK (by decide) rfl dX12_answer_4 ?_
  refine V.pick [0, 1, 3, 4, 5] (l := [(0, _), (1, _), (3, _), (4, _), (5, _)]) rfl ?_
  exact w_X12_answer_L6 hL hO N N _ _ _ _ _ h
