set_option maxHeartbeats 4000000 in
set_option maxRecDepth 100000 in
theorem c_X12_carries (E : v_E) {sh : v_S} {P : v_P} (hL : v_Lay sh P) (N : Nat) (x1 : Int32) (M : v_M) {out : Int32 × v_M} (h : f_X12_carries N x1 M = some out) : v_Ct E 1 yX12_carries cX12_carries 2 none 0 0 [v_rf E 79, .int x1] sh P M (v_Q1 (none) sh P out.2) := by
  refine v_Ct.of (by decide +kernel) (Nat.le_of_ble_eq_true rfl) (fun X hO => ?_)
  have hK : v_K E X cX12_carries RX12 2 1 := hO.1
  have hO : v_O E X cX12_carries RX12 2 1 none "carries" (v_Q1 (none) sh P out.2) := hO
  show V E X (0, 0) 0 [(0, v_rf E 79), (1, .int x1)] [] sh P M
  unfold f_X12_carries at h
  refine V.aload_n (pc := 0) (i := 0) hK rfl ⟨_, rfl⟩ dX12_carries_0 ?_
  refine V.sipush (pc := 1) (v := 2000) hK (by decide) dX12_carries_1 ?_
  refine V.iload_n (pc := 4) (i := 1) hK rfl dX12_carries_4 ?_
  refine V.imul (pc := 5) hK dX12_carries_5 ?_
  refine V.putI (pc := 6) hK fl_RX12_553 rfl rfl ⟨rfl, rfl⟩ (hL.1 79 _ ls_79) dX12_carries_6 ?_
  refine V.nmM (fun M1 eM1 => ?_)
  have h := v_lt eM1 h
  refine V.aload_n (pc := 9) (i := 0) hK rfl ⟨_, rfl⟩ dX12_carries_9 ?_
  refine V.aload_n (pc := 10) (i := 0) hK rfl ⟨_, rfl⟩ dX12_carries_10 ?_
  refine V.getR (pc := 11) hK fl_RX12_34 rfl (hL.1 79 _ ls_79) (hL.2 79 12 88 rfl) dX12_carries_11 ?_
  obtain ⟨z2, hz2, h⟩ := v_bdS h
  refine V.cVv (pc := 14) (ci := 12) hK (c_X12_carry E hL N _ _ (hL.1 88 _ ls_88) _ hz2) Y_X12_carry cv_RX12_556 (by decide) rfl (hL.1 79 _ ls_79) dX12_carries_14 (by decide) rfl (Nat.le_of_ble_eq_true rfl) ?_
  refine V.aload_n (pc := 17) (i := 0) hK rfl ⟨_, rfl⟩ dX12_carries_17 ?_
  refine V.aload_n (pc := 18) (i := 0) hK rfl ⟨_, rfl⟩ dX12_carries_18 ?_
  refine V.getR (pc := 19) hK fl_RX12_37 rfl (hL.1 79 _ ls_79) (hL.2 79 13 89 rfl) dX12_carries_19 ?_
  obtain ⟨z3, hz3, h⟩ := v_bdS h
  refine V.cVv (pc := 22) (ci := 12) hK (c_X12_carry E hL N _ _ (hL.1 89 _ ls_89) _ hz3) Y_X12_carry cv_RX12_556 (by decide) rfl (hL.1 79 _ ls_79) dX12_carries_22 (by decide) rfl (Nat.le_of_ble_eq_true rfl) ?_
  refine V.aload_n (pc := 25) (i := 0) hK rfl ⟨_, rfl⟩ dX12_carries_25 ?_
  refine V.aload_n (pc := 26) (i := 0) hK rfl ⟨_, rfl⟩ dX12_carries_26 ?_
  refine V.getR (pc := 27) hK fl_RX12_40 rfl (hL.1 79 _ ls_79) (hL.2 79 14 90 rfl) dX12_carries_27 ?_
  obtain ⟨z4, hz4, h⟩ := v_bdS h
  refine V.cVv (pc := 30) (ci := 12) hK (c_X12_carry E hL N _ _ (hL.1 90 _ ls_90) _ hz4) Y_X12_carry cv_RX12_556 (by decide) rfl (hL.1 79 _ ls_79) dX12_carries_30 (by decide) rfl (Nat.le_of_ble_eq_true rfl) ?_
  refine V.aload_n (pc := 33) (i := 0) hK rfl ⟨_, rfl⟩ dX12_carries_33 ?_
  refine V.aload_n (pc := 34) (i := 0) hK rfl ⟨_, rfl⟩ dX12_carries_34 ?_
  refine V.getR (pc := 35) hK fl_RX12_43 rfl (hL.1 79 _ ls_79) (hL.2 79 15 91 rfl) dX12_carries_35 ?_
  obtain ⟨z5, hz5, h⟩ := v_bdS h
  refine V.cVv (pc := 38) (ci := 12) hK (c_X12_carry E hL N _ _ (hL.1 91 _ ls_91) _ hz5) Y_X12_carry cv_RX12_556 (by decide) rfl (hL.1 79 _ ls_79) dX12_carries_38 (by decide) rfl (Nat.le_of_ble_eq_true rfl) ?_
  refine V.aload_n (pc := 41) (i := 0) hK rfl ⟨_, rfl⟩ dX12_carries_41 ?_
  refine V.aload_n (pc := 42) (i := 0) hK rfl ⟨_, rfl⟩ dX12_carries_42 ?_
  refine V.getR (pc := 43) hK fl_RX12_46 rfl (hL.1 79 _ ls_79) (hL.2 79 16 92 rfl) dX12_carries_43 ?_
  obtain ⟨z6, hz6, h⟩ := v_bdS h
  refine V.cVv (pc := 46) (ci := 12) hK (c_X12_carry E hL N _ _ (hL.1 92 _ ls_92) _ hz6) Y_X12_carry cv_RX12_556 (by decide) rfl (hL.1 79 _ ls_79) dX12_carries_46 (by decide) rfl (Nat.le_of_ble_eq_true rfl) ?_
  refine V.aload_n (pc := 49) (i := 0) hK rfl ⟨_, rfl⟩ dX12_carries_49 ?_
  refine V.aload_n (pc := 50) (i := 0) hK rfl ⟨_, rfl⟩ dX12_carries_50 ?_
  refine V.getR (pc := 51) hK fl_RX12_49 rfl (hL.1 79 _ ls_79) (hL.2 79 17 93 rfl) dX12_carries_51 ?_
  obtain ⟨z7, hz7, h⟩ := v_bdS h
  refine V.cVv (pc := 54) (ci := 12) hK (c_X12_carry E hL N _ _ (hL.1 93 _ ls_93) _ hz7) Y_X12_carry cv_RX12_556 (by decide) rfl (hL.1 79 _ ls_79) dX12_carries_54 (by decide) rfl (Nat.le_of_ble_eq_true rfl) ?_
  exact V.vret (pc := 57) hO dX12_carries_57 (v_finV h)
set_option maxHeartbeats 4000000 in
set_option maxRecDepth 100000 in
theorem c_X12_mark (E : v_E) {sh : v_S} {P : v_P} (hL : v_Lay sh P) (N : Nat) (x1 : Int32) (M : v_M) {out : Int32 × v_M} (h : f_X12_mark N x1 M = some out) : v_Ct E 2 yX12_mark cX12_mark 2 (some .int) 0 0 [v_rf E 79, .int x1] sh P M (v_Q1 (some (.int out.1)) sh P out.2) := by
  refine v_Ct.of (by decide +kernel) (Nat.le_of_ble_eq_true rfl) (fun X hO => ?_)
  have hK : v_K E X cX12_mark RX12 2 2 := hO.1
  have hO : v_O E X cX12_mark RX12 2 2 (some .int) "mark" (v_Q1 (some (.int out.1)) sh P out.2) := hO
  show V E X (0, 0) 0 [(0, v_rf E 79), (1, .int x1)] [] sh P M
  unfold f_X12_mark at h
  refine V.iload_n (pc := 0) (i := 1) hK rfl dX12_mark_0 ?_
  refine V.i2l (pc := 1) hK dX12_mark_1 ?_
  refine V.lconst (pc := 2) (v := 0) hK (by decide) dX12_mark_2 ?_
  refine V.ldc2 (pc := 3) hK tw_1781 dX12_mark_3 ?_
  obtain ⟨z1, hz1, h⟩ := v_bdS h
  refine V.cS (pc := 6) hK (c_X12_in E hL N _ _ _ _ hz1) Y_X12_in cs_RX12_229 dX12_mark_6 (by decide) rfl (Nat.le_of_ble_eq_true rfl) ?_
  refine V.if_ne (pc := 9) (tgt := 14) hK dX12_mark_9 (by decide) (fun c => ?_) (fun c => ?_)
  · rw [if_neg c] at h
    refine V.aload_n (pc := 14) (i := 0) hK rfl ⟨_, rfl⟩ dX12_mark_14 ?_
    refine V.getR (pc := 15) hK fl_RX12_220 rfl (hL.1 79 _ ls_79) (hL.2 79 90 149 rfl) dX12_mark_15 ?_
    refine V.iload_n (pc := 18) (i := 1) hK rfl dX12_mark_18 ?_
    refine V.iconst (pc := 19) (v := 1) hK (by decide) dX12_mark_19 ?_
    obtain ⟨hb, h⟩ := v_ckS h
    refine V.zast (pc := 20) hK (hL.1 149 _ ls_149) (v_ibS hb) dX12_mark_20 ?_
    refine V.nmM (fun M2 eM2 => ?_)
    have h := v_lt eM2 h
    refine V.aload_n (pc := 21) (i := 0) hK rfl ⟨_, rfl⟩ dX12_mark_21 ?_
    refine V.getR (pc := 22) hK fl_RX12_217 rfl (hL.1 79 _ ls_79) (hL.2 79 89 148 rfl) dX12_mark_22 ?_
    refine V.iload_n (pc := 25) (i := 1) hK rfl dX12_mark_25 ?_
    refine V.aload_n (pc := 26) (i := 0) hK rfl ⟨_, rfl⟩ dX12_mark_26 ?_
    refine V.getI (pc := 27) hK fl_RX12_233 rfl (hL.1 79 _ ls_79) dX12_mark_27 ?_
    obtain ⟨hb, h⟩ := v_ckS h
    refine V.iast (pc := 30) hK (hL.1 148 _ ls_148) (v_ibS hb) dX12_mark_30 ?_
    refine V.nmM (fun M3 eM3 => ?_)
    have h := v_lt eM3 h
    refine V.aload_n (pc := 31) (i := 0) hK rfl ⟨_, rfl⟩ dX12_mark_31 ?_
    refine V.getR (pc := 32) hK fl_RX12_211 rfl (hL.1 79 _ ls_79) (hL.2 79 87 146 rfl) dX12_mark_32 ?_
    refine V.iload_n (pc := 35) (i := 1) hK rfl dX12_mark_35 ?_
    refine V.aload_n (pc := 36) (i := 0) hK rfl ⟨_, rfl⟩ dX12_mark_36 ?_
    refine V.getI (pc := 37) hK fl_RX12_236 rfl (hL.1 79 _ ls_79) dX12_mark_37 ?_
    obtain ⟨hb, h⟩ := v_ckS h
    refine V.iast (pc := 40) hK (hL.1 146 _ ls_146) (v_ibS hb) dX12_mark_40 ?_
    refine V.nmM (fun M4 eM4 => ?_)
    have h := v_lt eM4 h
    refine V.aload_n (pc := 41) (i := 0) hK rfl ⟨_, rfl⟩ dX12_mark_41 ?_
    refine V.getR (pc := 42) hK fl_RX12_214 rfl (hL.1 79 _ ls_79) (hL.2 79 88 147 rfl) dX12_mark_42 ?_
    refine V.iload_n (pc := 45) (i := 1) hK rfl dX12_mark_45 ?_
    refine V.aload_n (pc := 46) (i := 0) hK rfl ⟨_, rfl⟩ dX12_mark_46 ?_
    refine V.getI (pc := 47) hK fl_RX12_239 rfl (hL.1 79 _ ls_79) dX12_mark_47 ?_
    obtain ⟨hb, h⟩ := v_ckS h
    refine V.iast (pc := 50) hK (hL.1 147 _ ls_147) (v_ibS hb) dX12_mark_50 ?_
    refine V.nmM (fun M5 eM5 => ?_)
    have h := v_lt eM5 h
    refine V.aload_n (pc := 51) (i := 0) hK rfl ⟨_, rfl⟩ dX12_mark_51 ?_
    refine V.iconst (pc := 52) (v := 0) hK (by decide) dX12_mark_52 ?_
    obtain ⟨hb, h⟩ := v_ckS h
    refine V.putI (pc := 53) hK fl_RX12_550 rfl rfl (v_okZ hb) (hL.1 79 _ ls_79) dX12_mark_53 ?_
    refine V.nmM (fun M6 eM6 => ?_)
    have h := v_lt eM6 h
    refine V.aload_n (pc := 56) (i := 0) hK rfl ⟨_, rfl⟩ dX12_mark_56 ?_
    refine V.iload_n (pc := 57) (i := 1) hK rfl dX12_mark_57 ?_
    obtain ⟨z7, hz7, h⟩ := v_bdS h
    refine V.cVv (pc := 58) (ci := 12) hK (c_X12_carries E hL N _ _ hz7) Y_X12_carries cv_RX12_562 (by decide) rfl (hL.1 79 _ ls_79) dX12_mark_58 (by decide) rfl (Nat.le_of_ble_eq_true rfl) ?_
    refine V.aload_n (pc := 61) (i := 0) hK rfl ⟨_, rfl⟩ dX12_mark_61 ?_
    refine V.getI (pc := 62) hK fl_RX12_233 rfl (hL.1 79 _ ls_79) dX12_mark_62 ?_
    exact V.iret (pc := 65) hO dX12_mark_65 (v_finI h)
  · rw [if_pos c] at h
    refine V.iconst (pc := 12) (v := -1) hK (by decide) dX12_mark_12 ?_
    exact V.iret (pc := 13) hO dX12_mark_13 (v_finI h)
set_option maxHeartbeats 4000000 in
set_option maxRecDepth 100000 in
theorem w_X12_forgets_L212 {E : v_E} {X : v_X} {sh : v_S} {P : v_P} {out : Int32 × v_M} (hL : v_Lay sh P) (hO : v_O E X cX12_forgets RX12 3 0 none "forgets" (v_Q1 (none) sh P out.2)) (N : Nat) (k176 : Int32 → v_M → Option (Int32 × v_M)) (hk176 : ∀ (x2 : Int32) (M : v_M), k176 x2 M = some out → V E X (0, 0) 176 [(0, v_rf E 79), (2, .int x2)] [] sh P M) (x2 : Int32) (t0 : Int32) (t1 : Int32) (M : v_M) (h : f_X12_forgets_L212 N k176 x2 t0 t1 M = some out) : V E X (0, 0) 212 [(0, v_rf E 79), (2, .int x2)] [.int t0, .int t1, v_rf E 140] sh P M := by
  have hK := hO.1
  unfold f_X12_forgets_L212 at h
  obtain ⟨hb, h⟩ := v_ckS h
  refine V.iast (pc := 212) hK (hL.1 140 _ ls_140) (v_ibS hb) dX12_forgets_212 ?_
  refine V.nmM (fun M1 eM1 => ?_)
  have h := v_lt eM1 h
  refine V.iinc (pc := 213) (i := 2) (v := 1) (lv' := [(0, _), (2, _)]) hK rfl (by decide) (by decide) rfl dX12_forgets_213 ?_
  refine V.goto (pc := 216) (tgt := 176) hK dX12_forgets_216 (by decide) ?_
  refine V.pick [0, 2] (l := [(0, _), (2, _)]) rfl ?_
  exact hk176 _ _ h
set_option maxHeartbeats 4000000 in
set_option maxRecDepth 100000 in
theorem w_X12_forgets_L176 {E : v_E} {X : v_X} {sh : v_S} {P : v_P} {out : Int32 × v_M} (hL : v_Lay sh P) (hO : v_O E X cX12_forgets RX12 3 0 none "forgets" (v_Q1 (none) sh P out.2)) (N : Nat) (n : Nat) : ∀ (x2 : Int32) (M : v_M), f_X12_forgets_L176 N n x2 M = some out → V E X (0, 0) 176 [(0, v_rf E 79), (2, .int x2)] [] sh P M := by
  have hK := hO.1
  induction n with
  | zero => intro x2 M h; rw [f_X12_forgets_L176] at h; cases h
  | succ n ih =>
    intro x2 M h
    rw [f_X12_forgets_L176] at h
    refine V.iload_n (pc := 176) (i := 2) hK rfl dX12_forgets_176 ?_
    refine V.aload_n (pc := 177) (i := 0) hK rfl ⟨_, rfl⟩ dX12_forgets_177 ?_
    refine V.getI (pc := 178) hK fl_RX12_531 rfl (hL.1 79 _ ls_79) dX12_forgets_178 ?_
    refine V.icmp_ge (pc := 181) (tgt := 219) hK dX12_forgets_181 (by decide) (fun c => ?_) (fun c => ?_)
    · rw [if_pos c] at h
      exact V.vret (pc := 219) hO dX12_forgets_219 (v_finV h)
    · rw [if_neg c] at h
      refine V.aload_n (pc := 184) (i := 0) hK rfl ⟨_, rfl⟩ dX12_forgets_184 ?_
      refine V.getR (pc := 185) hK fl_RX12_193 rfl (hL.1 79 _ ls_79) (hL.2 79 81 140 rfl) dX12_forgets_185 ?_
      refine V.iload_n (pc := 188) (i := 2) hK rfl dX12_forgets_188 ?_
      refine V.aload_n (pc := 189) (i := 0) hK rfl ⟨_, rfl⟩ dX12_forgets_189 ?_
      refine V.getR (pc := 190) hK fl_RX12_193 rfl (hL.1 79 _ ls_79) (hL.2 79 81 140 rfl) dX12_forgets_190 ?_
      refine V.iload_n (pc := 193) (i := 2) hK rfl dX12_forgets_193 ?_
      obtain ⟨hb, h⟩ := v_ckS h
      refine V.iald (pc := 194) hK (hL.1 140 _ ls_140) (v_ibS hb) dX12_forgets_194 ?_
      refine V.aload_n (pc := 195) (i := 0) hK rfl ⟨_, rfl⟩ dX12_forgets_195 ?_
      refine V.getI (pc := 196) hK fl_RX12_239 rfl (hL.1 79 _ ls_79) dX12_forgets_196 ?_
      refine V.icmp_ge (pc := 199) (tgt := 211) hK dX12_forgets_199 (by decide) (fun c => ?_) (fun c => ?_)
      · rw [if_pos c] at h
        refine V.iconst (pc := 211) (v := -1) hK (by decide) dX12_forgets_211 ?_
        refine V.pick [0, 2] (l := [(0, _), (2, _)]) rfl ?_
        exact w_X12_forgets_L212 hL hO N _ ih _ _ _ _ h
      · rw [if_neg c] at h
        refine V.aload_n (pc := 202) (i := 0) hK rfl ⟨_, rfl⟩ dX12_forgets_202 ?_
        refine V.getR (pc := 203) hK fl_RX12_193 rfl (hL.1 79 _ ls_79) (hL.2 79 81 140 rfl) dX12_forgets_203 ?_
        refine V.iload_n (pc := 206) (i := 2) hK rfl dX12_forgets_206 ?_
        obtain ⟨hb, h⟩ := v_ckS h
        refine V.iald (pc := 207) hK (hL.1 140 _ ls_140) (v_ibS hb) dX12_forgets_207 ?_
        refine V.goto (pc := 208) (tgt := 212) hK dX12_forgets_208 (by decide) ?_
        refine V.pick [0, 2] (l := [(0, _), (2, _)]) rfl ?_
        exact w_X12_forgets_L212 hL hO N _ ih _ _ _ _ h
set_option maxHeartbeats 4000000 in
set_option maxRecDepth 100000 in
theorem w_X12_forgets_L163 {E : v_E} {X : v_X} {sh : v_S} {P : v_P} {out : Int32 × v_M} (hL : v_Lay sh P) (hO : v_O E X cX12_forgets RX12 3 0 none "forgets" (v_Q1 (none) sh P out.2)) (N : Nat) (k91 : Int32 → Int32 → v_M → Option (Int32 × v_M)) (hk91 : ∀ (x1 : Int32) (x2 : Int32) (M : v_M), k91 x1 x2 M = some out → V E X (0, 0) 91 [(0, v_rf E 79), (1, .int x1), (2, .int x2)] [] sh P M) (x1 : Int32) (x2 : Int32) (M : v_M) (h : f_X12_forgets_L163 N k91 x1 x2 M = some out) : V E X (0, 0) 163 [(0, v_rf E 79), (1, .int x1), (2, .int x2)] [] sh P M := by
  have hK := hO.1
  unfold f_X12_forgets_L163 at h
  refine V.iinc (pc := 163) (i := 2) (v := 1) (lv' := [(0, _), (1, _), (2, _)]) hK rfl (by decide) (by decide) rfl dX12_forgets_163 ?_
  refine V.goto (pc := 166) (tgt := 91) hK dX12_forgets_166 (by decide) ?_
  refine V.pick [0, 1, 2] (l := [(0, _), (1, _), (2, _)]) rfl ?_
  exact hk91 _ _ _ h
set_option maxHeartbeats 4000000 in
set_option maxRecDepth 100000 in
theorem w_X12_forgets_L91 {E : v_E} {X : v_X} {sh : v_S} {P : v_P} {out : Int32 × v_M} (hL : v_Lay sh P) (hO : v_O E X cX12_forgets RX12 3 0 none "forgets" (v_Q1 (none) sh P out.2)) (N : Nat) (n : Nat) : ∀ (x1 : Int32) (x2 : Int32) (M : v_M), f_X12_forgets_L91 N n x1 x2 M = some out → V E X (0, 0) 91 [(0, v_rf E 79), (1, .int x1), (2, .int x2)] [] sh P M := by
  have hK := hO.1
  induction n with
  | zero => intro x1 x2 M h; rw [f_X12_forgets_L91] at h; cases h
  | succ n ih =>
    intro x1 x2 M h
    rw [f_X12_forgets_L91] at h
    refine V.iload_n (pc := 91) (i := 2) hK rfl dX12_forgets_91 ?_
    refine V.aload_n (pc := 92) (i := 0) hK rfl ⟨_, rfl⟩ dX12_forgets_92 ?_
    refine V.getI (pc := 93) hK fl_RX12_506 rfl (hL.1 79 _ ls_79) dX12_forgets_93 ?_
    refine V.icmp_ge (pc := 96) (tgt := 169) hK dX12_forgets_96 (by decide) (fun c => ?_) (fun c => ?_)
    · rw [if_pos c] at h
      refine V.aload_n (pc := 169) (i := 0) hK rfl ⟨_, rfl⟩ dX12_forgets_169 ?_
      refine V.iload_n (pc := 170) (i := 1) hK rfl dX12_forgets_170 ?_
      refine V.putI (pc := 171) hK fl_RX12_506 rfl rfl ⟨rfl, rfl⟩ (hL.1 79 _ ls_79) dX12_forgets_171 ?_
      refine V.nmM (fun M1 eM1 => ?_)
      have h := v_lt eM1 h
      refine V.iconst (pc := 174) (v := 0) hK (by decide) dX12_forgets_174 ?_
      refine V.istore_n (pc := 175) (i := 2) (lv' := [(0, _), (1, _), (2, _)]) hK (by decide) rfl dX12_forgets_175 ?_
      refine V.pick [0, 2] (l := [(0, _), (2, _)]) rfl ?_
      exact w_X12_forgets_L176 hL hO N N _ _ h
    · rw [if_neg c] at h
      refine V.aload_n (pc := 99) (i := 0) hK rfl ⟨_, rfl⟩ dX12_forgets_99 ?_
      refine V.getR (pc := 100) hK fl_RX12_156 rfl (hL.1 79 _ ls_79) (hL.2 79 68 128 rfl) dX12_forgets_100 ?_
      refine V.iload_n (pc := 103) (i := 2) hK rfl dX12_forgets_103 ?_
      obtain ⟨hb, h⟩ := v_ckS h
      refine V.iald (pc := 104) hK (hL.1 128 _ ls_128) (v_ibS hb) dX12_forgets_104 ?_
      refine V.aload_n (pc := 105) (i := 0) hK rfl ⟨_, rfl⟩ dX12_forgets_105 ?_
      refine V.getI (pc := 106) hK fl_RX12_239 rfl (hL.1 79 _ ls_79) dX12_forgets_106 ?_
      refine V.icmp_ge (pc := 109) (tgt := 163) hK dX12_forgets_109 (by decide) (fun c => ?_) (fun c => ?_)
      · rw [if_pos c] at h
        refine V.pick [0, 1, 2] (l := [(0, _), (1, _), (2, _)]) rfl ?_
        exact w_X12_forgets_L163 hL hO N _ ih _ _ _ h
      · rw [if_neg c] at h
        refine V.aload_n (pc := 112) (i := 0) hK rfl ⟨_, rfl⟩ dX12_forgets_112 ?_
        refine V.getR (pc := 113) hK fl_RX12_156 rfl (hL.1 79 _ ls_79) (hL.2 79 68 128 rfl) dX12_forgets_113 ?_
        refine V.iload_n (pc := 116) (i := 1) hK rfl dX12_forgets_116 ?_
        refine V.aload_n (pc := 117) (i := 0) hK rfl ⟨_, rfl⟩ dX12_forgets_117 ?_
        refine V.getR (pc := 118) hK fl_RX12_156 rfl (hL.1 79 _ ls_79) (hL.2 79 68 128 rfl) dX12_forgets_118 ?_
        refine V.iload_n (pc := 121) (i := 2) hK rfl dX12_forgets_121 ?_
        obtain ⟨hb, h⟩ := v_ckS h
        refine V.iald (pc := 122) hK (hL.1 128 _ ls_128) (v_ibS hb) dX12_forgets_122 ?_
        obtain ⟨hb, h⟩ := v_ckS h
        refine V.iast (pc := 123) hK (hL.1 128 _ ls_128) (v_ibS hb) dX12_forgets_123 ?_
        refine V.nmM (fun M2 eM2 => ?_)
        have h := v_lt eM2 h
        refine V.aload_n (pc := 124) (i := 0) hK rfl ⟨_, rfl⟩ dX12_forgets_124 ?_
        refine V.getR (pc := 125) hK fl_RX12_159 rfl (hL.1 79 _ ls_79) (hL.2 79 69 129 rfl) dX12_forgets_125 ?_
        refine V.iload_n (pc := 128) (i := 1) hK rfl dX12_forgets_128 ?_
        refine V.aload_n (pc := 129) (i := 0) hK rfl ⟨_, rfl⟩ dX12_forgets_129 ?_
        refine V.getR (pc := 130) hK fl_RX12_159 rfl (hL.1 79 _ ls_79) (hL.2 79 69 129 rfl) dX12_forgets_130 ?_
        refine V.iload_n (pc := 133) (i := 2) hK rfl dX12_forgets_133 ?_
        obtain ⟨hb, h⟩ := v_ckS h
        refine V.iald (pc := 134) hK (hL.1 129 _ ls_129) (v_ibS hb) dX12_forgets_134 ?_
        obtain ⟨hb, h⟩ := v_ckS h
        refine V.iast (pc := 135) hK (hL.1 129 _ ls_129) (v_ibS hb) dX12_forgets_135 ?_
        refine V.nmM (fun M3 eM3 => ?_)
        have h := v_lt eM3 h
        refine V.aload_n (pc := 136) (i := 0) hK rfl ⟨_, rfl⟩ dX12_forgets_136 ?_
        refine V.getR (pc := 137) hK fl_RX12_162 rfl (hL.1 79 _ ls_79) (hL.2 79 70 130 rfl) dX12_forgets_137 ?_
        refine V.iload_n (pc := 140) (i := 1) hK rfl dX12_forgets_140 ?_
        refine V.aload_n (pc := 141) (i := 0) hK rfl ⟨_, rfl⟩ dX12_forgets_141 ?_
        refine V.getR (pc := 142) hK fl_RX12_162 rfl (hL.1 79 _ ls_79) (hL.2 79 70 130 rfl) dX12_forgets_142 ?_
        refine V.iload_n (pc := 145) (i := 2) hK rfl dX12_forgets_145 ?_
        obtain ⟨hb, h⟩ := v_ckS h
        refine V.iald (pc := 146) hK (hL.1 130 _ ls_130) (v_ibS hb) dX12_forgets_146 ?_
        obtain ⟨hb, h⟩ := v_ckS h
        refine V.iast (pc := 147) hK (hL.1 130 _ ls_130) (v_ibS hb) dX12_forgets_147 ?_
        refine V.nmM (fun M4 eM4 => ?_)
        have h := v_lt eM4 h
        refine V.aload_n (pc := 148) (i := 0) hK rfl ⟨_, rfl⟩ dX12_forgets_148 ?_
        refine V.getR (pc := 149) hK fl_RX12_165 rfl (hL.1 79 _ ls_79) (hL.2 79 71 131 rfl) dX12_forgets_149 ?_
        refine V.iload_n (pc := 152) (i := 1) hK rfl dX12_forgets_152 ?_
        refine V.aload_n (pc := 153) (i := 0) hK rfl ⟨_, rfl⟩ dX12_forgets_153 ?_
        refine V.getR (pc := 154) hK fl_RX12_165 rfl (hL.1 79 _ ls_79) (hL.2 79 71 131 rfl) dX12_forgets_154 ?_
        refine V.iload_n (pc := 157) (i := 2) hK rfl dX12_forgets_157 ?_
        obtain ⟨hb, h⟩ := v_ckS h
        refine V.zald (pc := 158) hK (hL.1 131 _ ls_131) (v_ibS hb) dX12_forgets_158 ?_
        obtain ⟨hb, h⟩ := v_ckS h
        refine V.zast (pc := 159) hK (hL.1 131 _ ls_131) (v_ibS hb) dX12_forgets_159 ?_
        refine V.nmM (fun M5 eM5 => ?_)
        have h := v_lt eM5 h
        refine V.iinc (pc := 160) (i := 1) (v := 1) (lv' := [(0, _), (1, _), (2, _)]) hK rfl (by decide) (by decide) rfl dX12_forgets_160 ?_
        refine V.pick [0, 1, 2] (l := [(0, _), (1, _), (2, _)]) rfl ?_
        exact w_X12_forgets_L163 hL hO N _ ih _ _ _ h
set_option maxHeartbeats 4000000 in
set_option maxRecDepth 100000 in
theorem w_X12_forgets_L76 {E : v_E} {X : v_X} {sh : v_S} {P : v_P} {out : Int32 × v_M} (hL : v_Lay sh P) (hO : v_O E X cX12_forgets RX12 3 0 none "forgets" (v_Q1 (none) sh P out.2)) (N : Nat) (k4 : Int32 → Int32 → v_M → Option (Int32 × v_M)) (hk4 : ∀ (x1 : Int32) (x2 : Int32) (M : v_M), k4 x1 x2 M = some out → V E X (0, 0) 4 [(0, v_rf E 79), (1, .int x1), (2, .int x2)] [] sh P M) (x1 : Int32) (x2 : Int32) (M : v_M) (h : f_X12_forgets_L76 N k4 x1 x2 M = some out) : V E X (0, 0) 76 [(0, v_rf E 79), (1, .int x1), (2, .int x2)] [] sh P M := by
  have hK := hO.1
  unfold f_X12_forgets_L76 at h
  refine V.iinc (pc := 76) (i := 2) (v := 1) (lv' := [(0, _), (1, _), (2, _)]) hK rfl (by decide) (by decide) rfl dX12_forgets_76 ?_
  refine V.goto (pc := 79) (tgt := 4) hK dX12_forgets_79 (by decide) ?_
  refine V.pick [0, 1, 2] (l := [(0, _), (1, _), (2, _)]) rfl ?_
  exact hk4 _ _ _ h
set_option maxHeartbeats 4000000 in
set_option maxRecDepth 100000 in
theorem w_X12_forgets_L4 {E : v_E} {X : v_X} {sh : v_S} {P : v_P} {out : Int32 × v_M} (hL : v_Lay sh P) (hO : v_O E X cX12_forgets RX12 3 0 none "forgets" (v_Q1 (none) sh P out.2)) (N : Nat) (n : Nat) : ∀ (x1 : Int32) (x2 : Int32) (M : v_M), f_X12_forgets_L4 N n x1 x2 M = some out → V E X (0, 0) 4 [(0, v_rf E 79), (1, .int x1), (2, .int x2)] [] sh P M := by
  have hK := hO.1
  induction n with
  | zero => intro x1 x2 M h; rw [f_X12_forgets_L4] at h; cases h
  | succ n ih =>
    intro x1 x2 M h
    rw [f_X12_forgets_L4] at h
    refine V.iload_n (pc := 4) (i := 2) hK rfl dX12_forgets_4 ?_
    refine V.aload_n (pc := 5) (i := 0) hK rfl ⟨_, rfl⟩ dX12_forgets_5 ?_
    refine V.getI (pc := 6) hK fl_RX12_473 rfl (hL.1 79 _ ls_79) dX12_forgets_6 ?_
    refine V.icmp_ge (pc := 9) (tgt := 82) hK dX12_forgets_9 (by decide) (fun c => ?_) (fun c => ?_)
    · rw [if_pos c] at h
      refine V.aload_n (pc := 82) (i := 0) hK rfl ⟨_, rfl⟩ dX12_forgets_82 ?_
      refine V.iload_n (pc := 83) (i := 1) hK rfl dX12_forgets_83 ?_
      refine V.putI (pc := 84) hK fl_RX12_473 rfl rfl ⟨rfl, rfl⟩ (hL.1 79 _ ls_79) dX12_forgets_84 ?_
      refine V.nmM (fun M1 eM1 => ?_)
      have h := v_lt eM1 h
      refine V.iconst (pc := 87) (v := 0) hK (by decide) dX12_forgets_87 ?_
      refine V.istore_n (pc := 88) (i := 1) (lv' := [(0, _), (1, _), (2, _)]) hK (by decide) rfl dX12_forgets_88 ?_
      refine V.iconst (pc := 89) (v := 0) hK (by decide) dX12_forgets_89 ?_
      refine V.istore_n (pc := 90) (i := 2) (lv' := [(0, _), (1, _), (2, _)]) hK (by decide) rfl dX12_forgets_90 ?_
      refine V.pick [0, 1, 2] (l := [(0, _), (1, _), (2, _)]) rfl ?_
      exact w_X12_forgets_L91 hL hO N N _ _ _ h
    · rw [if_neg c] at h
      refine V.aload_n (pc := 12) (i := 0) hK rfl ⟨_, rfl⟩ dX12_forgets_12 ?_
      refine V.getR (pc := 13) hK fl_RX12_138 rfl (hL.1 79 _ ls_79) (hL.2 79 62 122 rfl) dX12_forgets_13 ?_
      refine V.iload_n (pc := 16) (i := 2) hK rfl dX12_forgets_16 ?_
      obtain ⟨hb, h⟩ := v_ckS h
      refine V.iald (pc := 17) hK (hL.1 122 _ ls_122) (v_ibS hb) dX12_forgets_17 ?_
      refine V.aload_n (pc := 18) (i := 0) hK rfl ⟨_, rfl⟩ dX12_forgets_18 ?_
      refine V.getI (pc := 19) hK fl_RX12_239 rfl (hL.1 79 _ ls_79) dX12_forgets_19 ?_
      refine V.icmp_ge (pc := 22) (tgt := 76) hK dX12_forgets_22 (by decide) (fun c => ?_) (fun c => ?_)
      · rw [if_pos c] at h
        refine V.pick [0, 1, 2] (l := [(0, _), (1, _), (2, _)]) rfl ?_
        exact w_X12_forgets_L76 hL hO N _ ih _ _ _ h
      · rw [if_neg c] at h
        refine V.aload_n (pc := 25) (i := 0) hK rfl ⟨_, rfl⟩ dX12_forgets_25 ?_
        refine V.getR (pc := 26) hK fl_RX12_138 rfl (hL.1 79 _ ls_79) (hL.2 79 62 122 rfl) dX12_forgets_26 ?_
        refine V.iload_n (pc := 29) (i := 1) hK rfl dX12_forgets_29 ?_
        refine V.aload_n (pc := 30) (i := 0) hK rfl ⟨_, rfl⟩ dX12_forgets_30 ?_
        refine V.getR (pc := 31) hK fl_RX12_138 rfl (hL.1 79 _ ls_79) (hL.2 79 62 122 rfl) dX12_forgets_31 ?_
        refine V.iload_n (pc := 34) (i := 2) hK rfl dX12_forgets_34 ?_
        obtain ⟨hb, h⟩ := v_ckS h
        refine V.iald (pc := 35) hK (hL.1 122 _ ls_122) (v_ibS hb) dX12_forgets_35 ?_
        obtain ⟨hb, h⟩ := v_ckS h
        refine V.iast (pc := 36) hK (hL.1 122 _ ls_122) (v_ibS hb) dX12_forgets_36 ?_
        refine V.nmM (fun M2 eM2 => ?_)
        have h := v_lt eM2 h
        refine V.aload_n (pc := 37) (i := 0) hK rfl ⟨_, rfl⟩ dX12_forgets_37 ?_
        refine V.getR (pc := 38) hK fl_RX12_141 rfl (hL.1 79 _ ls_79) (hL.2 79 63 123 rfl) dX12_forgets_38 ?_
        refine V.iload_n (pc := 41) (i := 1) hK rfl dX12_forgets_41 ?_
        refine V.aload_n (pc := 42) (i := 0) hK rfl ⟨_, rfl⟩ dX12_forgets_42 ?_
        refine V.getR (pc := 43) hK fl_RX12_141 rfl (hL.1 79 _ ls_79) (hL.2 79 63 123 rfl) dX12_forgets_43 ?_
        refine V.iload_n (pc := 46) (i := 2) hK rfl dX12_forgets_46 ?_
        obtain ⟨hb, h⟩ := v_ckS h
        refine V.iald (pc := 47) hK (hL.1 123 _ ls_123) (v_ibS hb) dX12_forgets_47 ?_
        obtain ⟨hb, h⟩ := v_ckS h
        refine V.iast (pc := 48) hK (hL.1 123 _ ls_123) (v_ibS hb) dX12_forgets_48 ?_
        refine V.nmM (fun M3 eM3 => ?_)
        have h := v_lt eM3 h
        refine V.aload_n (pc := 49) (i := 0) hK rfl ⟨_, rfl⟩ dX12_forgets_49 ?_
        refine V.getR (pc := 50) hK fl_RX12_144 rfl (hL.1 79 _ ls_79) (hL.2 79 64 124 rfl) dX12_forgets_50 ?_
        refine V.iload_n (pc := 53) (i := 1) hK rfl dX12_forgets_53 ?_
        refine V.aload_n (pc := 54) (i := 0) hK rfl ⟨_, rfl⟩ dX12_forgets_54 ?_
        refine V.getR (pc := 55) hK fl_RX12_144 rfl (hL.1 79 _ ls_79) (hL.2 79 64 124 rfl) dX12_forgets_55 ?_
        refine V.iload_n (pc := 58) (i := 2) hK rfl dX12_forgets_58 ?_
        obtain ⟨hb, h⟩ := v_ckS h
        refine V.iald (pc := 59) hK (hL.1 124 _ ls_124) (v_ibS hb) dX12_forgets_59 ?_
        obtain ⟨hb, h⟩ := v_ckS h
        refine V.iast (pc := 60) hK (hL.1 124 _ ls_124) (v_ibS hb) dX12_forgets_60 ?_
        refine V.nmM (fun M4 eM4 => ?_)
        have h := v_lt eM4 h
        refine V.aload_n (pc := 61) (i := 0) hK rfl ⟨_, rfl⟩ dX12_forgets_61 ?_
        refine V.getR (pc := 62) hK fl_RX12_147 rfl (hL.1 79 _ ls_79) (hL.2 79 65 125 rfl) dX12_forgets_62 ?_
        refine V.iload_n (pc := 65) (i := 1) hK rfl dX12_forgets_65 ?_
        refine V.aload_n (pc := 66) (i := 0) hK rfl ⟨_, rfl⟩ dX12_forgets_66 ?_
        refine V.getR (pc := 67) hK fl_RX12_147 rfl (hL.1 79 _ ls_79) (hL.2 79 65 125 rfl) dX12_forgets_67 ?_
        refine V.iload_n (pc := 70) (i := 2) hK rfl dX12_forgets_70 ?_
        obtain ⟨hb, h⟩ := v_ckS h
        refine V.iald (pc := 71) hK (hL.1 125 _ ls_125) (v_ibS hb) dX12_forgets_71 ?_
        obtain ⟨hb, h⟩ := v_ckS h
        refine V.iast (pc := 72) hK (hL.1 125 _ ls_125) (v_ibS hb) dX12_forgets_72 ?_
        refine V.nmM (fun M5 eM5 => ?_)
        have h := v_lt eM5 h
        refine V.iinc (pc := 73) (i := 1) (v := 1) (lv' := [(0, _), (1, _), (2, _)]) hK rfl (by decide) (by decide) rfl dX12_forgets_73 ?_
        refine V.pick [0, 1, 2] (l := [(0, _), (1, _), (2, _)]) rfl ?_
        exact w_X12_forgets_L76 hL hO N _ ih _ _ _ h
set_option maxHeartbeats 4000000 in
set_option maxRecDepth 100000 in
theorem c_X12_forgets (E : v_E) {sh : v_S} {P : v_P} (hL : v_Lay sh P) (N : Nat) (M : v_M) {out : Int32 × v_M} (h : f_X12_forgets N M = some out) : v_Ct E 0 yX12_forgets cX12_forgets 3 none 0 0 [v_rf E 79] sh P M (v_Q1 (none) sh P out.2) := by
  refine v_Ct.of (by decide +kernel) (Nat.le_of_ble_eq_true rfl) (fun X hO => ?_)
  have hK : v_K E X cX12_forgets RX12 3 0 := hO.1
  have hO : v_O E X cX12_forgets RX12 3 0 none "forgets" (v_Q1 (none) sh P out.2) := hO
  show V E X (0, 0) 0 [(0, v_rf E 79)] [] sh P M
  unfold f_X12_forgets at h
  refine V.iconst (pc := 0) (v := 0) hK (by decide) dX12_forgets_0 ?_
  refine V.istore_n (pc := 1) (i := 1) (lv' := [(0, _), (1, _)]) hK (by decide) rfl dX12_forgets_1 ?_
  refine V.iconst (pc := 2) (v := 0) hK (by decide) dX12_forgets_2 ?_
  refine V.istore_n (pc := 3) (i := 2) (lv' := [(0, _), (1, _), (2, _)]) hK (by decide) rfl dX12_forgets_3 ?_
  refine V.pick [0, 1, 2] (l := [(0, _), (1, _), (2, _)]) rfl ?_
  exact w_X12_forgets_L4 hL hO N N _ _ _ h
set_option maxHeartbeats 4000000 in
set_option maxRecDepth 100000 in
theorem c_X12_count (E : v_E) {sh : v_S} {P : v_P} (hL : v_Lay sh P) (N : Nat) (x1 : Int32) (M : v_M) {out : Int32 × v_M} (h : f_X12_count N x1 M = some out) : v_Ct E 0 yX12_count cX12_count 2 (some .int) 0 0 [v_rf E 79, .int x1] sh P M (v_Q1 (some (.int out.1)) sh P out.2) := by
  refine v_Ct.of (by decide +kernel) (Nat.le_of_ble_eq_true rfl) (fun X hO => ?_)
  have hK : v_K E X cX12_count RX12 2 0 := hO.1
  have hO : v_O E X cX12_count RX12 2 0 (some .int) "count" (v_Q1 (some (.int out.1)) sh P out.2) := hO
  show V E X (0, 0) 0 [(0, v_rf E 79), (1, .int x1)] [] sh P M
  unfold f_X12_count at h
  refine V.iload_n (pc := 0) (i := 1) hK rfl dX12_count_0 ?_
  by_cases c0 : x1 = (0 : Int32)
  · rw [if_pos c0] at h
    refine V.tableIn (pc := 1) (off := 51) (tgt := 52) hK dX12_count_1 (by rw [c0]; decide) (by rw [c0]; decide) (by rw [c0]; decide) (by decide) ?_
    refine V.aload_n (pc := 52) (i := 0) hK rfl ⟨_, rfl⟩ dX12_count_52 ?_
    refine V.getI (pc := 53) hK fl_RX12_233 rfl (hL.1 79 _ ls_79) dX12_count_53 ?_
    exact V.iret (pc := 56) hO dX12_count_56 (v_finI h)
  · rw [if_neg c0] at h
    by_cases c1 : x1 = (1 : Int32)
    · rw [if_pos c1] at h
      refine V.tableIn (pc := 1) (off := 56) (tgt := 57) hK dX12_count_1 (by rw [c1]; decide) (by rw [c1]; decide) (by rw [c1]; decide) (by decide) ?_
      refine V.aload_n (pc := 57) (i := 0) hK rfl ⟨_, rfl⟩ dX12_count_57 ?_
      refine V.getI (pc := 58) hK fl_RX12_236 rfl (hL.1 79 _ ls_79) dX12_count_58 ?_
      exact V.iret (pc := 61) hO dX12_count_61 (v_finI h)
    · rw [if_neg c1] at h
      by_cases c2 : x1 = (2 : Int32)
      · rw [if_pos c2] at h
        refine V.tableIn (pc := 1) (off := 61) (tgt := 62) hK dX12_count_1 (by rw [c2]; decide) (by rw [c2]; decide) (by rw [c2]; decide) (by decide) ?_
        refine V.aload_n (pc := 62) (i := 0) hK rfl ⟨_, rfl⟩ dX12_count_62 ?_
        refine V.getI (pc := 63) hK fl_RX12_239 rfl (hL.1 79 _ ls_79) dX12_count_63 ?_
        exact V.iret (pc := 66) hO dX12_count_66 (v_finI h)
      · rw [if_neg c2] at h
        by_cases c3 : x1 = (3 : Int32)
        · rw [if_pos c3] at h
          refine V.tableIn (pc := 1) (off := 66) (tgt := 67) hK dX12_count_1 (by rw [c3]; decide) (by rw [c3]; decide) (by rw [c3]; decide) (by decide) ?_
          refine V.aload_n (pc := 67) (i := 0) hK rfl ⟨_, rfl⟩ dX12_count_67 ?_
          refine V.getI (pc := 68) hK fl_RX12_299 rfl (hL.1 79 _ ls_79) dX12_count_68 ?_
          exact V.iret (pc := 71) hO dX12_count_71 (v_finI h)
        · rw [if_neg c3] at h
          by_cases c4 : x1 = (4 : Int32)
          · rw [if_pos c4] at h
            refine V.tableIn (pc := 1) (off := 71) (tgt := 72) hK dX12_count_1 (by rw [c4]; decide) (by rw [c4]; decide) (by rw [c4]; decide) (by decide) ?_
            refine V.aload_n (pc := 72) (i := 0) hK rfl ⟨_, rfl⟩ dX12_count_72 ?_
            refine V.getI (pc := 73) hK fl_RX12_385 rfl (hL.1 79 _ ls_79) dX12_count_73 ?_
            exact V.iret (pc := 76) hO dX12_count_76 (v_finI h)
          · rw [if_neg c4] at h
            by_cases c5 : x1 = (5 : Int32)
            · rw [if_pos c5] at h
              refine V.tableIn (pc := 1) (off := 76) (tgt := 77) hK dX12_count_1 (by rw [c5]; decide) (by rw [c5]; decide) (by rw [c5]; decide) (by decide) ?_
              refine V.aload_n (pc := 77) (i := 0) hK rfl ⟨_, rfl⟩ dX12_count_77 ?_
              refine V.getI (pc := 78) hK fl_RX12_473 rfl (hL.1 79 _ ls_79) dX12_count_78 ?_
              exact V.iret (pc := 81) hO dX12_count_81 (v_finI h)
            · rw [if_neg c5] at h
              by_cases c6 : x1 = (6 : Int32)
              · rw [if_pos c6] at h
                refine V.tableIn (pc := 1) (off := 81) (tgt := 82) hK dX12_count_1 (by rw [c6]; decide) (by rw [c6]; decide) (by rw [c6]; decide) (by decide) ?_
                refine V.aload_n (pc := 82) (i := 0) hK rfl ⟨_, rfl⟩ dX12_count_82 ?_
                refine V.getI (pc := 83) hK fl_RX12_506 rfl (hL.1 79 _ ls_79) dX12_count_83 ?_
                exact V.iret (pc := 86) hO dX12_count_86 (v_finI h)
              · rw [if_neg c6] at h
                by_cases c7 : x1 = (7 : Int32)
                · rw [if_pos c7] at h
                  refine V.tableIn (pc := 1) (off := 86) (tgt := 87) hK dX12_count_1 (by rw [c7]; decide) (by rw [c7]; decide) (by rw [c7]; decide) (by decide) ?_
                  refine V.aload_n (pc := 87) (i := 0) hK rfl ⟨_, rfl⟩ dX12_count_87 ?_
                  refine V.getI (pc := 88) hK fl_RX12_531 rfl (hL.1 79 _ ls_79) dX12_count_88 ?_
                  exact V.iret (pc := 91) hO dX12_count_91 (v_finI h)
                · rw [if_neg c7] at h
                  by_cases c8 : x1 = (8 : Int32)
                  · rw [if_pos c8] at h
                    refine V.tableIn (pc := 1) (off := 91) (tgt := 92) hK dX12_count_1 (by rw [c8]; decide) (by rw [c8]; decide) (by rw [c8]; decide) (by decide) ?_
                    refine V.aload_n (pc := 92) (i := 0) hK rfl ⟨_, rfl⟩ dX12_count_92 ?_
                    refine V.getI (pc := 93) hK fl_RX12_322 rfl (hL.1 79 _ ls_79) dX12_count_93 ?_
                    exact V.iret (pc := 96) hO dX12_count_96 (v_finI h)
                  · rw [if_neg c8] at h
                    refine V.tableOut (pc := 1) (tgt := 97) hK dX12_count_1 (v_tout (fun i i1 i2 => ?_)) (by decide) ?_
                    · rcases (show i = 0 ∨ i = 1 ∨ i = 2 ∨ i = 3 ∨ i = 4 ∨ i = 5 ∨ i = 6 ∨ i = 7 ∨ i = 8 by omega) with rfl | rfl | rfl | rfl | rfl | rfl | rfl | rfl | rfl
                      · exact v_tne (by decide) c0
                      · exact v_tne (by decide) c1
                      · exact v_tne (by decide) c2
                      · exact v_tne (by decide) c3
                      · exact v_tne (by decide) c4
                      · exact v_tne (by decide) c5
                      · exact v_tne (by decide) c6
                      · exact v_tne (by decide) c7
                      · exact v_tne (by decide) c8
                    · refine V.iconst (pc := 97) (v := -1) hK (by decide) dX12_count_97 ?_
                      exact V.iret (pc := 98) hO dX12_count_98 (v_finI h)
set_option maxHeartbeats 4000000 in
set_option maxRecDepth 100000 in
theorem c_J6_bitCount_0f7a4 (E : v_E) {sh : v_S} {P : v_P} (hL : v_Lay sh P) (N : Nat) (x0 : Int32) (M : v_M) {out : Int32 × v_M} (h : f_J6_bitCount_0f7a4 N x0 M = some out) : v_Ct E 0 yJ6_bitCount_0f7a4 cJ6_bitCount_0f7a4 1 (some .int) 0 0 [.int x0] sh P M (v_Q1 (some (.int out.1)) sh P out.2) := by
  refine v_Ct.of (by decide +kernel) (Nat.le_of_ble_eq_true rfl) (fun X hO => ?_)
  have hK : v_K E X cJ6_bitCount_0f7a4 RJ6 1 0 := hO.1
  have hO : v_O E X cJ6_bitCount_0f7a4 RJ6 1 0 (some .int) "bitCount" (v_Q1 (some (.int out.1)) sh P out.2) := hO
  show V E X (0, 0) 0 [(0, .int x0)] [] sh P M
  unfold f_J6_bitCount_0f7a4 at h
  refine V.iload_n (pc := 0) (i := 0) hK rfl dJ6_bitCount_0f7a4_0 ?_
  refine V.iload_n (pc := 1) (i := 0) hK rfl dJ6_bitCount_0f7a4_1 ?_
  refine V.iconst (pc := 2) (v := 1) hK (by decide) dJ6_bitCount_0f7a4_2 ?_
  refine V.iushr (pc := 3) hK dJ6_bitCount_0f7a4_3 ?_
  refine V.ldcw (pc := 4) hK tw_688 dJ6_bitCount_0f7a4_4 ?_
  refine V.iand (pc := 7) hK dJ6_bitCount_0f7a4_7 ?_
  refine V.isub (pc := 8) hK dJ6_bitCount_0f7a4_8 ?_
  refine V.topi (fun y1 ey1 => ?_)
  have h := v_lt ey1 h
  refine V.istore_n (pc := 9) (i := 0) (lv' := [(0, _)]) hK (by decide) rfl dJ6_bitCount_0f7a4_9 ?_
  refine V.iload_n (pc := 10) (i := 0) hK rfl dJ6_bitCount_0f7a4_10 ?_
  refine V.ldcw (pc := 11) hK tw_689 dJ6_bitCount_0f7a4_11 ?_
  refine V.iand (pc := 14) hK dJ6_bitCount_0f7a4_14 ?_
  refine V.iload_n (pc := 15) (i := 0) hK rfl dJ6_bitCount_0f7a4_15 ?_
  refine V.iconst (pc := 16) (v := 2) hK (by decide) dJ6_bitCount_0f7a4_16 ?_
  refine V.iushr (pc := 17) hK dJ6_bitCount_0f7a4_17 ?_
  refine V.ldcw (pc := 18) hK tw_689 dJ6_bitCount_0f7a4_18 ?_
  refine V.iand (pc := 21) hK dJ6_bitCount_0f7a4_21 ?_
  refine V.iadd (pc := 22) hK dJ6_bitCount_0f7a4_22 ?_
  refine V.topi (fun y2 ey2 => ?_)
  have h := v_lt ey2 h
  refine V.istore_n (pc := 23) (i := 0) (lv' := [(0, _)]) hK (by decide) rfl dJ6_bitCount_0f7a4_23 ?_
  refine V.iload_n (pc := 24) (i := 0) hK rfl dJ6_bitCount_0f7a4_24 ?_
  refine V.iload_n (pc := 25) (i := 0) hK rfl dJ6_bitCount_0f7a4_25 ?_
  refine V.iconst (pc := 26) (v := 4) hK (by decide) dJ6_bitCount_0f7a4_26 ?_
  refine V.iushr (pc := 27) hK dJ6_bitCount_0f7a4_27 ?_
  refine V.iadd (pc := 28) hK dJ6_bitCount_0f7a4_28 ?_
  refine V.ldcw (pc := 29) hK tw_690 dJ6_bitCount_0f7a4_29 ?_
  refine V.iand (pc := 32) hK dJ6_bitCount_0f7a4_32 ?_
  refine V.topi (fun y3 ey3 => ?_)
  have h := v_lt ey3 h
  refine V.istore_n (pc := 33) (i := 0) (lv' := [(0, _)]) hK (by decide) rfl dJ6_bitCount_0f7a4_33 ?_
  refine V.iload_n (pc := 34) (i := 0) hK rfl dJ6_bitCount_0f7a4_34 ?_
  refine V.iload_n (pc := 35) (i := 0) hK rfl dJ6_bitCount_0f7a4_35 ?_
  refine V.bipush (pc := 36) (v := 8) hK (by decide) dJ6_bitCount_0f7a4_36 ?_
  refine V.iushr (pc := 38) hK dJ6_bitCount_0f7a4_38 ?_
  refine V.iadd (pc := 39) hK dJ6_bitCount_0f7a4_39 ?_
  refine V.topi (fun y4 ey4 => ?_)
  have h := v_lt ey4 h
  refine V.istore_n (pc := 40) (i := 0) (lv' := [(0, _)]) hK (by decide) rfl dJ6_bitCount_0f7a4_40 ?_
  refine V.iload_n (pc := 41) (i := 0) hK rfl dJ6_bitCount_0f7a4_41 ?_
  refine V.iload_n (pc := 42) (i := 0) hK rfl dJ6_bitCount_0f7a4_42 ?_
  refine V.bipush (pc := 43) (v := 16) hK (by decide) dJ6_bitCount_0f7a4_43 ?_
  refine V.iushr (pc := 45) hK dJ6_bitCount_0f7a4_45 ?_
  refine V.iadd (pc := 46) hK dJ6_bitCount_0f7a4_46 ?_
  refine V.topi (fun y5 ey5 => ?_)
  have h := v_lt ey5 h
  refine V.istore_n (pc := 47) (i := 0) (lv' := [(0, _)]) hK (by decide) rfl dJ6_bitCount_0f7a4_47 ?_
  refine V.iload_n (pc := 48) (i := 0) hK rfl dJ6_bitCount_0f7a4_48 ?_
  refine V.bipush (pc := 49) (v := 63) hK (by decide) dJ6_bitCount_0f7a4_49 ?_
  refine V.iand (pc := 51) hK dJ6_bitCount_0f7a4_51 ?_
  exact V.iret (pc := 52) hO dJ6_bitCount_0f7a4_52 (v_finI h)
set_option maxHeartbeats 4000000 in
set_option maxRecDepth 100000 in
theorem c_J7_rangeCheck_23922 (E : v_E) {sh : v_S} {P : v_P} (hL : v_Lay sh P) (N : Nat) (x0 : Int32) (x1 : Int32) (x2 : Int32) (M : v_M) {out : Int32 × v_M} (h : f_J7_rangeCheck_23922 N x0 x1 x2 M = some out) : v_Ct E 0 yJ7_rangeCheck_23922 cJ7_rangeCheck_23922 3 none 0 0 [.int x0, .int x1, .int x2] sh P M (v_Q1 (none) sh P out.2) := by
  refine v_Ct.of (by decide +kernel) (Nat.le_of_ble_eq_true rfl) (fun X hO => ?_)
  have hK : v_K E X cJ7_rangeCheck_23922 RJ7 3 0 := hO.1
  have hO : v_O E X cJ7_rangeCheck_23922 RJ7 3 0 none "rangeCheck" (v_Q1 (none) sh P out.2) := hO
  show V E X (0, 0) 0 [(0, .int x0), (1, .int x1), (2, .int x2)] [] sh P M
  unfold f_J7_rangeCheck_23922 at h
  refine V.iload_n (pc := 0) (i := 1) hK rfl dJ7_rangeCheck_23922_0 ?_
  refine V.iload_n (pc := 1) (i := 2) hK rfl dJ7_rangeCheck_23922_1 ?_
  refine V.icmp_le (pc := 2) (tgt := 46) hK dJ7_rangeCheck_23922_2 (by decide) (fun c => ?_) (fun c => ?_)
  · rw [if_pos c] at h
    refine V.iload_n (pc := 46) (i := 1) hK rfl dJ7_rangeCheck_23922_46 ?_
    refine V.if_ge (pc := 47) (tgt := 59) hK dJ7_rangeCheck_23922_47 (by decide) (fun c => ?_) (fun c => ?_)
    · rw [if_pos c] at h
      refine V.iload_n (pc := 59) (i := 2) hK rfl dJ7_rangeCheck_23922_59 ?_
      refine V.iload_n (pc := 60) (i := 0) hK rfl dJ7_rangeCheck_23922_60 ?_
      refine V.icmp_le (pc := 61) (tgt := 73) hK dJ7_rangeCheck_23922_61 (by decide) (fun c => ?_) (fun c => ?_)
      · rw [if_pos c] at h
        exact V.vret (pc := 73) hO dJ7_rangeCheck_23922_73 (v_finV h)
      · rw [if_neg c] at h
        cases h
    · rw [if_neg c] at h
      cases h
  · rw [if_neg c] at h
    cases h
set_option maxHeartbeats 4000000 in
set_option maxRecDepth 100000 in
theorem w_J7_fill_53178_L5 {E : v_E} {X : v_X} {sh : v_S} {P : v_P} {out : Int32 × v_M} (hL : v_Lay sh P) (r0 n0 : Nat) (hr0 : sh[r0]? = some (1, n0)) (hO : v_O E X cJ7_fill_53178 RJ7 4 0 none "fill" (v_Q1 (none) sh P out.2)) (N : Nat) (n : Nat) : ∀ (x1 : Int32) (x2 : Int32) (x3 : Int32) (M : v_M), f_J7_fill_53178_L5 N r0 n0 n x1 x2 x3 M = some out → V E X (0, 0) 5 [(0, v_rf E r0), (1, .int x1), (2, .int x2), (3, .int x3)] [] sh P M := by
  have hK := hO.1
  induction n with
  | zero => intro x1 x2 x3 M h; rw [f_J7_fill_53178_L5] at h; cases h
  | succ n ih =>
    intro x1 x2 x3 M h
    rw [f_J7_fill_53178_L5] at h
    refine V.iload_n (pc := 5) (i := 2) hK rfl dJ7_fill_53178_5 ?_
    refine V.iload_n (pc := 6) (i := 3) hK rfl dJ7_fill_53178_6 ?_
    refine V.icmp_ge (pc := 7) (tgt := 20) hK dJ7_fill_53178_7 (by decide) (fun c => ?_) (fun c => ?_)
    · rw [if_pos c] at h
      exact V.vret (pc := 20) hO dJ7_fill_53178_20 (v_finV h)
    · rw [if_neg c] at h
      refine V.aload_n (pc := 10) (i := 0) hK rfl ⟨_, rfl⟩ dJ7_fill_53178_10 ?_
      refine V.iload_n (pc := 11) (i := 2) hK rfl dJ7_fill_53178_11 ?_
      refine V.iload_n (pc := 12) (i := 1) hK rfl dJ7_fill_53178_12 ?_
      obtain ⟨hb, h⟩ := v_ckS h
      refine V.iast (pc := 13) hK hr0 (v_ibS hb) dJ7_fill_53178_13 ?_
      refine V.nmM (fun M1 eM1 => ?_)
      have h := v_lt eM1 h
      refine V.iinc (pc := 14) (i := 2) (v := 1) (lv' := [(0, _), (1, _), (2, _), (3, _)]) hK rfl (by decide) (by decide) rfl dJ7_fill_53178_14 ?_
      refine V.goto (pc := 17) (tgt := 5) hK dJ7_fill_53178_17 (by decide) ?_
      refine V.pick [0, 1, 2, 3] (l := [(0, _), (1, _), (2, _), (3, _)]) rfl ?_
      exact ih _ _ _ _ h
set_option maxHeartbeats 4000000 in
set_option maxRecDepth 100000 in
theorem c_J7_fill_53178 (E : v_E) {sh : v_S} {P : v_P} (hL : v_Lay sh P) (N : Nat) (r0 n0 : Nat) (hr0 : sh[r0]? = some (1, n0)) (x1 : Int32) (M : v_M) {out : Int32 × v_M} (h : f_J7_fill_53178 N r0 n0 x1 M = some out) : v_Ct E 0 yJ7_fill_53178 cJ7_fill_53178 4 none 0 0 [v_rf E r0, .int x1] sh P M (v_Q1 (none) sh P out.2) := by
  refine v_Ct.of (by decide +kernel) (Nat.le_of_ble_eq_true rfl) (fun X hO => ?_)
  have hK : v_K E X cJ7_fill_53178 RJ7 4 0 := hO.1
  have hO : v_O E X cJ7_fill_53178 RJ7 4 0 none "fill" (v_Q1 (none) sh P out.2) := hO
  show V E X (0, 0) 0 [(0, v_rf E r0), (1, .int x1)] [] sh P M
  unfold f_J7_fill_53178 at h
  refine V.iconst (pc := 0) (v := 0) hK (by decide) dJ7_fill_53178_0 ?_
  refine V.istore_n (pc := 1) (i := 2) (lv' := [(0, _), (1, _), (2, _)]) hK (by decide) rfl dJ7_fill_53178_1 ?_
  refine V.aload_n (pc := 2) (i := 0) hK rfl ⟨_, rfl⟩ dJ7_fill_53178_2 ?_
  refine V.alen (pc := 3) hK hr0 (by decide) rfl dJ7_fill_53178_3 ?_
  refine V.topi (fun y1 ey1 => ?_)
  have h := v_lt ey1 h
  refine V.istore_n (pc := 4) (i := 3) (lv' := [(0, _), (1, _), (2, _), (3, _)]) hK (by decide) rfl dJ7_fill_53178_4 ?_
  refine V.pick [0, 1, 2, 3] (l := [(0, _), (1, _), (2, _), (3, _)]) rfl ?_
  exact w_J7_fill_53178_L5 hL r0 n0 hr0 hO N N _ _ _ _ h
set_option maxHeartbeats 4000000 in
set_option maxRecDepth 100000 in
theorem w_J7_fill_fda19_L10 {E : v_E} {X : v_X} {sh : v_S} {P : v_P} {out : Int32 × v_M} (hL : v_Lay sh P) (r0 n0 : Nat) (hr0 : sh[r0]? = some (1, n0)) (hO : v_O E X cJ7_fill_fda19 RJ7 5 1 none "fill" (v_Q1 (none) sh P out.2)) (N : Nat) (n : Nat) : ∀ (x2 : Int32) (x3 : Int32) (x4 : Int32) (M : v_M), f_J7_fill_fda19_L10 N r0 n0 n x2 x3 x4 M = some out → V E X (0, 0) 10 [(0, v_rf E r0), (2, .int x2), (3, .int x3), (4, .int x4)] [] sh P M := by
  have hK := hO.1
  induction n with
  | zero => intro x2 x3 x4 M h; rw [f_J7_fill_fda19_L10] at h; cases h
  | succ n ih =>
    intro x2 x3 x4 M h
    rw [f_J7_fill_fda19_L10] at h
    refine V.iload (pc := 10) (i := 4) hK rfl dJ7_fill_fda19_10 ?_
    refine V.iload_n (pc := 12) (i := 2) hK rfl dJ7_fill_fda19_12 ?_
    refine V.icmp_ge (pc := 13) (tgt := 27) hK dJ7_fill_fda19_13 (by decide) (fun c => ?_) (fun c => ?_)
    · rw [if_pos c] at h
      exact V.vret (pc := 27) hO dJ7_fill_fda19_27 (v_finV h)
    · rw [if_neg c] at h
      refine V.aload_n (pc := 16) (i := 0) hK rfl ⟨_, rfl⟩ dJ7_fill_fda19_16 ?_
      refine V.iload (pc := 17) (i := 4) hK rfl dJ7_fill_fda19_17 ?_
      refine V.iload_n (pc := 19) (i := 3) hK rfl dJ7_fill_fda19_19 ?_
      obtain ⟨hb, h⟩ := v_ckS h
      refine V.iast (pc := 20) hK hr0 (v_ibS hb) dJ7_fill_fda19_20 ?_
      refine V.nmM (fun M1 eM1 => ?_)
      have h := v_lt eM1 h
      refine V.iinc (pc := 21) (i := 4) (v := 1) (lv' := [(0, _), (2, _), (3, _), (4, _)]) hK rfl (by decide) (by decide) rfl dJ7_fill_fda19_21 ?_
      refine V.goto (pc := 24) (tgt := 10) hK dJ7_fill_fda19_24 (by decide) ?_
      refine V.pick [0, 2, 3, 4] (l := [(0, _), (2, _), (3, _), (4, _)]) rfl ?_
      exact ih _ _ _ _ h
set_option maxHeartbeats 4000000 in
set_option maxRecDepth 100000 in
theorem c_J7_fill_fda19 (E : v_E) {sh : v_S} {P : v_P} (hL : v_Lay sh P) (N : Nat) (r0 n0 : Nat) (hr0 : sh[r0]? = some (1, n0)) (x1 : Int32) (x2 : Int32) (x3 : Int32) (M : v_M) {out : Int32 × v_M} (h : f_J7_fill_fda19 N r0 n0 x1 x2 x3 M = some out) : v_Ct E 1 yJ7_fill_fda19 cJ7_fill_fda19 5 none 0 0 [v_rf E r0, .int x1, .int x2, .int x3] sh P M (v_Q1 (none) sh P out.2) := by
  refine v_Ct.of (by decide +kernel) (Nat.le_of_ble_eq_true rfl) (fun X hO => ?_)
  have hK : v_K E X cJ7_fill_fda19 RJ7 5 1 := hO.1
  have hO : v_O E X cJ7_fill_fda19 RJ7 5 1 none "fill" (v_Q1 (none) sh P out.2) := hO
  show V E X (0, 0) 0 [(0, v_rf E r0), (1, .int x1), (2, .int x2), (3, .int x3)] [] sh P M
  unfold f_J7_fill_fda19 at h
  refine V.aload_n (pc := 0) (i := 0) hK rfl ⟨_, rfl⟩ dJ7_fill_fda19_0 ?_
  refine V.alen (pc := 1) hK hr0 (by decide) rfl dJ7_fill_fda19_1 ?_
  refine V.iload_n (pc := 2) (i := 1) hK rfl dJ7_fill_fda19_2 ?_
  refine V.iload_n (pc := 3) (i := 2) hK rfl dJ7_fill_fda19_3 ?_
  obtain ⟨z1, hz1, h⟩ := v_bdS h
  refine V.cSv (pc := 4) hK (c_J7_rangeCheck_23922 E hL N _ _ _ _ hz1) Y_J7_rangeCheck_23922 cs_RJ7_13 dJ7_fill_fda19_4 (by decide) rfl (Nat.le_of_ble_eq_true rfl) ?_
  refine V.iload_n (pc := 7) (i := 1) hK rfl dJ7_fill_fda19_7 ?_
  refine V.istore (pc := 8) (i := 4) (lv' := [(0, _), (1, _), (2, _), (3, _), (4, _)]) hK (by decide) rfl dJ7_fill_fda19_8 ?_
  refine V.pick [0, 2, 3, 4] (l := [(0, _), (2, _), (3, _), (4, _)]) rfl ?_
  exact w_J7_fill_fda19_L10 hL r0 n0 hr0 hO N N _ _ _ _ h
set_option maxHeartbeats 4000000 in
set_option maxRecDepth 100000 in
theorem c_X0_begin (E : v_E) {sh : v_S} {P : v_P} (hL : v_Lay sh P) (N : Nat) (x1 : Int32) (x2 : Int32) (x3 : Int32) (M : v_M) {out : Int32 × v_M} (h : f_X0_begin N x1 x2 x3 M = some out) : v_Ct E 1 yX0_begin cX0_begin 4 none 0 0 [v_rf E 49, .int x1, .int x2, .int x3] sh P M (v_Q1 (none) sh P out.2) := by
  refine v_Ct.of (by decide +kernel) (Nat.le_of_ble_eq_true rfl) (fun X hO => ?_)
  have hK : v_K E X cX0_begin RX0 4 1 := hO.1
  have hO : v_O E X cX0_begin RX0 4 1 none "begin" (v_Q1 (none) sh P out.2) := hO
  show V E X (0, 0) 0 [(0, v_rf E 49), (1, .int x1), (2, .int x2), (3, .int x3)] [] sh P M
  unfold f_X0_begin at h
  refine V.aload_n (pc := 0) (i := 0) hK rfl ⟨_, rfl⟩ dX0_begin_0 ?_
  refine V.iconst (pc := 1) (v := 0) hK (by decide) dX0_begin_1 ?_
  refine V.putI (pc := 2) hK fl_RX0_9 rfl rfl ⟨rfl, rfl⟩ (hL.1 49 _ ls_49) dX0_begin_2 ?_
  refine V.nmM (fun M1 eM1 => ?_)
  have h := v_lt eM1 h
  refine V.aload_n (pc := 5) (i := 0) hK rfl ⟨_, rfl⟩ dX0_begin_5 ?_
  refine V.iconst (pc := 6) (v := 0) hK (by decide) dX0_begin_6 ?_
  refine V.putI (pc := 7) hK fl_RX0_15 rfl rfl ⟨rfl, rfl⟩ (hL.1 49 _ ls_49) dX0_begin_7 ?_
  refine V.nmM (fun M2 eM2 => ?_)
  have h := v_lt eM2 h
  refine V.aload_n (pc := 10) (i := 0) hK rfl ⟨_, rfl⟩ dX0_begin_10 ?_
  refine V.iconst (pc := 11) (v := 0) hK (by decide) dX0_begin_11 ?_
  refine V.putI (pc := 12) hK fl_RX0_18 rfl rfl ⟨rfl, rfl⟩ (hL.1 49 _ ls_49) dX0_begin_12 ?_
  refine V.nmM (fun M3 eM3 => ?_)
  have h := v_lt eM3 h
  refine V.aload_n (pc := 15) (i := 0) hK rfl ⟨_, rfl⟩ dX0_begin_15 ?_
  refine V.iconst (pc := 16) (v := 0) hK (by decide) dX0_begin_16 ?_
  obtain ⟨hb, h⟩ := v_ckS h
  refine V.putI (pc := 17) hK fl_RX0_21 rfl rfl (v_okZ hb) (hL.1 49 _ ls_49) dX0_begin_17 ?_
  refine V.nmM (fun M4 eM4 => ?_)
  have h := v_lt eM4 h
  refine V.aload_n (pc := 20) (i := 0) hK rfl ⟨_, rfl⟩ dX0_begin_20 ?_
  refine V.sipush (pc := 21) (v := 999) hK (by decide) dX0_begin_21 ?_
  refine V.putI (pc := 24) hK fl_RX0_25 rfl rfl ⟨rfl, rfl⟩ (hL.1 49 _ ls_49) dX0_begin_24 ?_
  refine V.nmM (fun M5 eM5 => ?_)
  have h := v_lt eM5 h
  refine V.aload_n (pc := 27) (i := 0) hK rfl ⟨_, rfl⟩ dX0_begin_27 ?_
  refine V.iload_n (pc := 28) (i := 3) hK rfl dX0_begin_28 ?_
  refine V.putI (pc := 29) hK fl_RX0_28 rfl rfl ⟨rfl, rfl⟩ (hL.1 49 _ ls_49) dX0_begin_29 ?_
  refine V.nmM (fun M6 eM6 => ?_)
  have h := v_lt eM6 h
  refine V.aload_n (pc := 32) (i := 0) hK rfl ⟨_, rfl⟩ dX0_begin_32 ?_
  refine V.getR (pc := 33) hK fl_RX0_31 rfl (hL.1 49 _ ls_49) (hL.2 49 6 50 rfl) dX0_begin_33 ?_
  refine V.iconst (pc := 36) (v := 0) hK (by decide) dX0_begin_36 ?_
  refine V.iload_n (pc := 37) (i := 1) hK rfl dX0_begin_37 ?_
  obtain ⟨hb, h⟩ := v_ckS h
  refine V.iast (pc := 38) hK (hL.1 50 _ ls_50) (v_ibS hb) dX0_begin_38 ?_
  refine V.nmM (fun M7 eM7 => ?_)
  have h := v_lt eM7 h
  refine V.aload_n (pc := 39) (i := 0) hK rfl ⟨_, rfl⟩ dX0_begin_39 ?_
  refine V.getR (pc := 40) hK fl_RX0_31 rfl (hL.1 49 _ ls_49) (hL.2 49 6 50 rfl) dX0_begin_40 ?_
  refine V.iconst (pc := 43) (v := 1) hK (by decide) dX0_begin_43 ?_
  refine V.iload_n (pc := 44) (i := 2) hK rfl dX0_begin_44 ?_
  obtain ⟨hb, h⟩ := v_ckS h
  refine V.iast (pc := 45) hK (hL.1 50 _ ls_50) (v_ibS hb) dX0_begin_45 ?_
  refine V.nmM (fun M8 eM8 => ?_)
  have h := v_lt eM8 h
  refine V.aload_n (pc := 46) (i := 0) hK rfl ⟨_, rfl⟩ dX0_begin_46 ?_
  refine V.getR (pc := 47) hK fl_RX0_31 rfl (hL.1 49 _ ls_49) (hL.2 49 6 50 rfl) dX0_begin_47 ?_
  refine V.iconst (pc := 50) (v := 5) hK (by decide) dX0_begin_50 ?_
  refine V.iload_n (pc := 51) (i := 3) hK rfl dX0_begin_51 ?_
  obtain ⟨z9, hz9, h⟩ := v_bdS h
  refine V.cS (pc := 52) hK (c_J6_bitCount_0f7a4 E hL N _ _ hz9) Y_J6_bitCount_0f7a4 cs_RX0_38 dX0_begin_52 (by decide) rfl (Nat.le_of_ble_eq_true rfl) ?_
  obtain ⟨hb, h⟩ := v_ckS h
  refine V.iast (pc := 55) hK (hL.1 50 _ ls_50) (v_ibS hb) dX0_begin_55 ?_
  refine V.nmM (fun M10 eM10 => ?_)
  have h := v_lt eM10 h
  exact V.vret (pc := 56) hO dX0_begin_56 (v_finV h)
set_option maxHeartbeats 4000000 in
set_option maxRecDepth 100000 in
theorem c_X0_joined (E : v_E) {sh : v_S} {P : v_P} (hL : v_Lay sh P) (N : Nat) (x0 : Int32) (x1 : Int32) (x2 : Int32) (M : v_M) {out : Int32 × v_M} (h : f_X0_joined N x0 x1 x2 M = some out) : v_Ct E 1 yX0_joined cX0_joined 3 (some .int) 0 0 [.int x0, .int x1, .int x2] sh P M (v_Q1 (some (.int out.1)) sh P out.2) := by
  refine v_Ct.of (by decide +kernel) (Nat.le_of_ble_eq_true rfl) (fun X hO => ?_)
  have hK : v_K E X cX0_joined RX0 3 1 := hO.1
  have hO : v_O E X cX0_joined RX0 3 1 (some .int) "joined" (v_Q1 (some (.int out.1)) sh P out.2) := hO
  show V E X (0, 0) 0 [(0, .int x0), (1, .int x1), (2, .int x2)] [] sh P M
  unfold f_X0_joined at h
  refine V.iload_n (pc := 0) (i := 0) hK rfl dX0_joined_0 ?_
  by_cases cm16 : x0 = (-16 : Int32)
  · rw [if_pos cm16] at h
    refine V.tableIn (pc := 1) (off := 125) (tgt := 126) hK dX0_joined_1 (by rw [cm16]; decide) (by rw [cm16]; decide) (by rw [cm16]; decide) (by decide) ?_
    refine V.iload_n (pc := 126) (i := 1) hK rfl dX0_joined_126 ?_
    refine V.iload_n (pc := 127) (i := 2) hK rfl dX0_joined_127 ?_
    refine V.iand (pc := 128) hK dX0_joined_128 ?_
    exact V.iret (pc := 129) hO dX0_joined_129 (v_finI h)
  · rw [if_neg cm16] at h
    by_cases cm15 : x0 = (-15 : Int32)
    · rw [if_pos cm15] at h
      refine V.tableIn (pc := 1) (off := 111) (tgt := 112) hK dX0_joined_1 (by rw [cm15]; decide) (by rw [cm15]; decide) (by rw [cm15]; decide) (by decide) ?_
      refine V.iload_n (pc := 112) (i := 1) hK rfl dX0_joined_112 ?_
      refine V.iload_n (pc := 113) (i := 2) hK rfl dX0_joined_113 ?_
      refine V.icmp_le (pc := 114) (tgt := 121) hK dX0_joined_114 (by decide) (fun c => ?_) (fun c => ?_)
      · rw [if_pos c] at h
        refine V.iconst (pc := 121) (v := 0) hK (by decide) dX0_joined_121 ?_
        obtain ⟨z1, hz1, h⟩ := v_bdS h
        refine V.cSN (pc := 122) hK (c_X11_asNumber E hL N _ _ hz1) Y_X11_asNumber cn_RX0_107 dX0_joined_122 (by decide) rfl (Nat.le_of_ble_eq_true rfl) ?_
        exact V.iret (pc := 125) hO dX0_joined_125 (v_finI h)
      · rw [if_neg c] at h
        refine V.iconst (pc := 117) (v := 1) hK (by decide) dX0_joined_117 ?_
        refine V.goto (pc := 118) (tgt := 122) hK dX0_joined_118 (by decide) ?_
        obtain ⟨z2, hz2, h⟩ := v_bdS h
        refine V.cSN (pc := 122) hK (c_X11_asNumber E hL N _ _ hz2) Y_X11_asNumber cn_RX0_107 dX0_joined_122 (by decide) rfl (Nat.le_of_ble_eq_true rfl) ?_
        exact V.iret (pc := 125) hO dX0_joined_125 (v_finI h)
    · rw [if_neg cm15] at h
      by_cases cm14 : x0 = (-14 : Int32)
      · rw [if_pos cm14] at h
        refine V.tableIn (pc := 1) (off := 97) (tgt := 98) hK dX0_joined_1 (by rw [cm14]; decide) (by rw [cm14]; decide) (by rw [cm14]; decide) (by decide) ?_
        refine V.iload_n (pc := 98) (i := 1) hK rfl dX0_joined_98 ?_
        refine V.iload_n (pc := 99) (i := 2) hK rfl dX0_joined_99 ?_
        refine V.icmp_lt (pc := 100) (tgt := 107) hK dX0_joined_100 (by decide) (fun c => ?_) (fun c => ?_)
        · rw [if_pos c] at h
          refine V.iconst (pc := 107) (v := 0) hK (by decide) dX0_joined_107 ?_
          obtain ⟨z3, hz3, h⟩ := v_bdS h
          refine V.cSN (pc := 108) hK (c_X11_asNumber E hL N _ _ hz3) Y_X11_asNumber cn_RX0_107 dX0_joined_108 (by decide) rfl (Nat.le_of_ble_eq_true rfl) ?_
          exact V.iret (pc := 111) hO dX0_joined_111 (v_finI h)
        · rw [if_neg c] at h
          refine V.iconst (pc := 103) (v := 1) hK (by decide) dX0_joined_103 ?_
          refine V.goto (pc := 104) (tgt := 108) hK dX0_joined_104 (by decide) ?_
          obtain ⟨z4, hz4, h⟩ := v_bdS h
          refine V.cSN (pc := 108) hK (c_X11_asNumber E hL N _ _ hz4) Y_X11_asNumber cn_RX0_107 dX0_joined_108 (by decide) rfl (Nat.le_of_ble_eq_true rfl) ?_
          exact V.iret (pc := 111) hO dX0_joined_111 (v_finI h)
      · rw [if_neg cm14] at h
        by_cases cm13 : x0 = (-13 : Int32)
        · rw [if_pos cm13] at h
          refine V.tableIn (pc := 1) (off := 83) (tgt := 84) hK dX0_joined_1 (by rw [cm13]; decide) (by rw [cm13]; decide) (by rw [cm13]; decide) (by decide) ?_
          refine V.iload_n (pc := 84) (i := 1) hK rfl dX0_joined_84 ?_
          refine V.iload_n (pc := 85) (i := 2) hK rfl dX0_joined_85 ?_
          refine V.icmp_ne (pc := 86) (tgt := 93) hK dX0_joined_86 (by decide) (fun c => ?_) (fun c => ?_)
          · rw [if_neg c] at h
            refine V.iconst (pc := 93) (v := 0) hK (by decide) dX0_joined_93 ?_
            obtain ⟨z5, hz5, h⟩ := v_bdS h
            refine V.cSN (pc := 94) hK (c_X11_asNumber E hL N _ _ hz5) Y_X11_asNumber cn_RX0_107 dX0_joined_94 (by decide) rfl (Nat.le_of_ble_eq_true rfl) ?_
            exact V.iret (pc := 97) hO dX0_joined_97 (v_finI h)
          · rw [if_pos c] at h
            refine V.iconst (pc := 89) (v := 1) hK (by decide) dX0_joined_89 ?_
            refine V.goto (pc := 90) (tgt := 94) hK dX0_joined_90 (by decide) ?_
            obtain ⟨z6, hz6, h⟩ := v_bdS h
            refine V.cSN (pc := 94) hK (c_X11_asNumber E hL N _ _ hz6) Y_X11_asNumber cn_RX0_107 dX0_joined_94 (by decide) rfl (Nat.le_of_ble_eq_true rfl) ?_
            exact V.iret (pc := 97) hO dX0_joined_97 (v_finI h)
        · rw [if_neg cm13] at h
          by_cases cm12 : x0 = (-12 : Int32)
          · rw [if_pos cm12] at h
            refine V.tableIn (pc := 1) (off := 69) (tgt := 70) hK dX0_joined_1 (by rw [cm12]; decide) (by rw [cm12]; decide) (by rw [cm12]; decide) (by decide) ?_
            refine V.iload_n (pc := 70) (i := 1) hK rfl dX0_joined_70 ?_
            refine V.iload_n (pc := 71) (i := 2) hK rfl dX0_joined_71 ?_
            refine V.icmp_gt (pc := 72) (tgt := 79) hK dX0_joined_72 (by decide) (fun c => ?_) (fun c => ?_)
            · rw [if_pos c] at h
              refine V.iconst (pc := 79) (v := 0) hK (by decide) dX0_joined_79 ?_
              obtain ⟨z7, hz7, h⟩ := v_bdS h
              refine V.cSN (pc := 80) hK (c_X11_asNumber E hL N _ _ hz7) Y_X11_asNumber cn_RX0_107 dX0_joined_80 (by decide) rfl (Nat.le_of_ble_eq_true rfl) ?_
              exact V.iret (pc := 83) hO dX0_joined_83 (v_finI h)
            · rw [if_neg c] at h
              refine V.iconst (pc := 75) (v := 1) hK (by decide) dX0_joined_75 ?_
              refine V.goto (pc := 76) (tgt := 80) hK dX0_joined_76 (by decide) ?_
              obtain ⟨z8, hz8, h⟩ := v_bdS h
              refine V.cSN (pc := 80) hK (c_X11_asNumber E hL N _ _ hz8) Y_X11_asNumber cn_RX0_107 dX0_joined_80 (by decide) rfl (Nat.le_of_ble_eq_true rfl) ?_
              exact V.iret (pc := 83) hO dX0_joined_83 (v_finI h)
          · rw [if_neg cm12] at h
            by_cases cm11 : x0 = (-11 : Int32)
            · rw [if_pos cm11] at h
              refine V.tableIn (pc := 1) (off := 55) (tgt := 56) hK dX0_joined_1 (by rw [cm11]; decide) (by rw [cm11]; decide) (by rw [cm11]; decide) (by decide) ?_
              refine V.iload_n (pc := 56) (i := 1) hK rfl dX0_joined_56 ?_
              refine V.iload_n (pc := 57) (i := 2) hK rfl dX0_joined_57 ?_
              refine V.icmp_ge (pc := 58) (tgt := 65) hK dX0_joined_58 (by decide) (fun c => ?_) (fun c => ?_)
              · rw [if_pos c] at h
                refine V.iconst (pc := 65) (v := 0) hK (by decide) dX0_joined_65 ?_
                obtain ⟨z9, hz9, h⟩ := v_bdS h
                refine V.cSN (pc := 66) hK (c_X11_asNumber E hL N _ _ hz9) Y_X11_asNumber cn_RX0_107 dX0_joined_66 (by decide) rfl (Nat.le_of_ble_eq_true rfl) ?_
                exact V.iret (pc := 69) hO dX0_joined_69 (v_finI h)
              · rw [if_neg c] at h
                refine V.iconst (pc := 61) (v := 1) hK (by decide) dX0_joined_61 ?_
                refine V.goto (pc := 62) (tgt := 66) hK dX0_joined_62 (by decide) ?_
                obtain ⟨z10, hz10, h⟩ := v_bdS h
                refine V.cSN (pc := 66) hK (c_X11_asNumber E hL N _ _ hz10) Y_X11_asNumber cn_RX0_107 dX0_joined_66 (by decide) rfl (Nat.le_of_ble_eq_true rfl) ?_
                exact V.iret (pc := 69) hO dX0_joined_69 (v_finI h)
            · rw [if_neg cm11] at h
              by_cases cm10 : x0 = (-10 : Int32)
              · rw [if_pos cm10] at h
                refine V.tableIn (pc := 1) (off := 51) (tgt := 52) hK dX0_joined_1 (by rw [cm10]; decide) (by rw [cm10]; decide) (by rw [cm10]; decide) (by decide) ?_
                refine V.iload_n (pc := 52) (i := 1) hK rfl dX0_joined_52 ?_
                refine V.iload_n (pc := 53) (i := 2) hK rfl dX0_joined_53 ?_
                refine V.isub (pc := 54) hK dX0_joined_54 ?_
                exact V.iret (pc := 55) hO dX0_joined_55 (v_finI h)
              · rw [if_neg cm10] at h
                by_cases cm9 : x0 = (-9 : Int32)
                · rw [if_pos cm9] at h
                  refine V.tableIn (pc := 1) (off := 47) (tgt := 48) hK dX0_joined_1 (by rw [cm9]; decide) (by rw [cm9]; decide) (by rw [cm9]; decide) (by decide) ?_
                  refine V.iload_n (pc := 48) (i := 1) hK rfl dX0_joined_48 ?_
                  refine V.iload_n (pc := 49) (i := 2) hK rfl dX0_joined_49 ?_
                  refine V.iadd (pc := 50) hK dX0_joined_50 ?_
                  exact V.iret (pc := 51) hO dX0_joined_51 (v_finI h)
                · rw [if_neg cm9] at h
                  refine V.tableOut (pc := 1) (tgt := 130) hK dX0_joined_1 (v_tout (fun i i1 i2 => ?_)) (by decide) ?_
                  · rcases (show i = -16 ∨ i = -15 ∨ i = -14 ∨ i = -13 ∨ i = -12 ∨ i = -11 ∨ i = -10 ∨ i = -9 by omega) with rfl | rfl | rfl | rfl | rfl | rfl | rfl | rfl
                    · exact v_tne (by decide) cm16
                    · exact v_tne (by decide) cm15
                    · exact v_tne (by decide) cm14
                    · exact v_tne (by decide) cm13
                    · exact v_tne (by decide) cm12
                    · exact v_tne (by decide) cm11
                    · exact v_tne (by decide) cm10
                    · exact v_tne (by decide) cm9
                  · refine V.iload_n (pc := 130) (i := 1) hK rfl dX0_joined_130 ?_
                    refine V.iload_n (pc := 131) (i := 2) hK rfl dX0_joined_131 ?_
                    refine V.ior (pc := 132) hK dX0_joined_132 ?_
                    exact V.iret (pc := 133) hO dX0_joined_133 (v_finI h)
set_option maxHeartbeats 4000000 in
set_option maxRecDepth 100000 in
theorem c_X1_isCheaper (E : v_E) {sh : v_S} {P : v_P} (hL : v_Lay sh P) (N : Nat) (x1 : Int32) (x2 : Int32) (M : v_M) {out : Int32 × v_M} (h : f_X1_isCheaper N x1 x2 M = some out) : v_Ct E 1 yX1_isCheaper cX1_isCheaper 7 (some .boolean) 0 0 [v_rf E 29, .int x1, .int x2] sh P M (v_Q1 (some (.int out.1)) sh P out.2) := by
  refine v_Ct.of (by decide +kernel) (Nat.le_of_ble_eq_true rfl) (fun X hO => ?_)
  have hK : v_K E X cX1_isCheaper RX1 7 1 := hO.1
  have hO : v_O E X cX1_isCheaper RX1 7 1 (some .boolean) "isCheaper" (v_Q1 (some (.int out.1)) sh P out.2) := hO
  show V E X (0, 0) 0 [(0, v_rf E 29), (1, .int x1), (2, .int x2)] [] sh P M
  unfold f_X1_isCheaper at h
  refine V.aload_n (pc := 0) (i := 0) hK rfl ⟨_, rfl⟩ dX1_isCheaper_0 ?_
  refine V.iload_n (pc := 1) (i := 1) hK rfl dX1_isCheaper_1 ?_
  obtain ⟨z1, hz1, h⟩ := v_bdS h
  refine V.cV (pc := 2) (ci := 1) hK (c_X1_coinsOf E hL N _ _ hz1) Y_X1_coinsOf cv_RX1_31 (by decide) rfl (hL.1 29 _ ls_29) dX1_isCheaper_2 (by decide) rfl (Nat.le_of_ble_eq_true rfl) ?_
  refine V.topi (fun y2 ey2 => ?_)
  have h := v_lt ey2 h
  refine V.istore_n (pc := 5) (i := 3) (lv' := [(0, _), (1, _), (2, _), (3, _)]) hK (by decide) rfl dX1_isCheaper_5 ?_
  refine V.aload_n (pc := 6) (i := 0) hK rfl ⟨_, rfl⟩ dX1_isCheaper_6 ?_
  refine V.iload_n (pc := 7) (i := 2) hK rfl dX1_isCheaper_7 ?_
  obtain ⟨z3, hz3, h⟩ := v_bdS h
  refine V.cV (pc := 8) (ci := 1) hK (c_X1_coinsOf E hL N _ _ hz3) Y_X1_coinsOf cv_RX1_31 (by decide) rfl (hL.1 29 _ ls_29) dX1_isCheaper_8 (by decide) rfl (Nat.le_of_ble_eq_true rfl) ?_
  refine V.topi (fun y4 ey4 => ?_)
  have h := v_lt ey4 h
  refine V.istore (pc := 11) (i := 4) (lv' := [(0, _), (1, _), (2, _), (3, _), (4, _)]) hK (by decide) rfl dX1_isCheaper_11 ?_
  refine V.iload_n (pc := 13) (i := 3) hK rfl dX1_isCheaper_13 ?_
  refine V.iload (pc := 14) (i := 4) hK rfl dX1_isCheaper_14 ?_
  refine V.icmp_eq (pc := 16) (tgt := 31) hK dX1_isCheaper_16 (by decide) (fun c => ?_) (fun c => ?_)
  · rw [if_pos c] at h
    refine V.iload_n (pc := 31) (i := 1) hK rfl dX1_isCheaper_31 ?_
    obtain ⟨z5, hz5, h⟩ := v_bdS h
    refine V.cS (pc := 32) hK (c_J6_bitCount_0f7a4 E hL N _ _ hz5) Y_J6_bitCount_0f7a4 cs_RX1_35 dX1_isCheaper_32 (by decide) rfl (Nat.le_of_ble_eq_true rfl) ?_
    refine V.topi (fun y6 ey6 => ?_)
    have h := v_lt ey6 h
    refine V.istore (pc := 35) (i := 5) (lv' := [(0, _), (1, _), (2, _), (3, _), (4, _), (5, _)]) hK (by decide) rfl dX1_isCheaper_35 ?_
    refine V.iload_n (pc := 37) (i := 2) hK rfl dX1_isCheaper_37 ?_
    obtain ⟨z7, hz7, h⟩ := v_bdS h
    refine V.cS (pc := 38) hK (c_J6_bitCount_0f7a4 E hL N _ _ hz7) Y_J6_bitCount_0f7a4 cs_RX1_35 dX1_isCheaper_38 (by decide) rfl (Nat.le_of_ble_eq_true rfl) ?_
    refine V.topi (fun y8 ey8 => ?_)
    have h := v_lt ey8 h
    refine V.istore (pc := 41) (i := 6) (lv' := [(0, _), (1, _), (2, _), (3, _), (4, _), (5, _), (6, _)]) hK (by decide) rfl dX1_isCheaper_41 ?_
    refine V.iload (pc := 43) (i := 5) hK rfl dX1_isCheaper_43 ?_
    refine V.iload (pc := 45) (i := 6) hK rfl dX1_isCheaper_45 ?_
    refine V.icmp_lt (pc := 47) (tgt := 62) hK dX1_isCheaper_47 (by decide) (fun c => ?_) (fun c => ?_)
    · rw [if_pos c] at h
      refine V.iconst (pc := 62) (v := 1) hK (by decide) dX1_isCheaper_62 ?_
      refine V.goto (pc := 63) (tgt := 67) hK dX1_isCheaper_63 (by decide) ?_
      obtain ⟨hb, h⟩ := v_ckS h
      exact V.zret (pc := 67) hO (v_z01 hb) dX1_isCheaper_67 (v_finI h)
    · rw [if_neg c] at h
      refine V.iload (pc := 50) (i := 5) hK rfl dX1_isCheaper_50 ?_
      refine V.iload (pc := 52) (i := 6) hK rfl dX1_isCheaper_52 ?_
      refine V.icmp_ne (pc := 54) (tgt := 66) hK dX1_isCheaper_54 (by decide) (fun c => ?_) (fun c => ?_)
      · rw [if_neg c] at h
        refine V.iconst (pc := 66) (v := 0) hK (by decide) dX1_isCheaper_66 ?_
        obtain ⟨hb, h⟩ := v_ckS h
        exact V.zret (pc := 67) hO (v_z01 hb) dX1_isCheaper_67 (v_finI h)
      · rw [if_pos c] at h
        refine V.iload_n (pc := 57) (i := 1) hK rfl dX1_isCheaper_57 ?_
        refine V.iload_n (pc := 58) (i := 2) hK rfl dX1_isCheaper_58 ?_
        refine V.icmp_ge (pc := 59) (tgt := 66) hK dX1_isCheaper_59 (by decide) (fun c => ?_) (fun c => ?_)
        · rw [if_pos c] at h
          refine V.iconst (pc := 66) (v := 0) hK (by decide) dX1_isCheaper_66 ?_
          obtain ⟨hb, h⟩ := v_ckS h
          exact V.zret (pc := 67) hO (v_z01 hb) dX1_isCheaper_67 (v_finI h)
        · rw [if_neg c] at h
          refine V.iconst (pc := 62) (v := 1) hK (by decide) dX1_isCheaper_62 ?_
          refine V.goto (pc := 63) (tgt := 67) hK dX1_isCheaper_63 (by decide) ?_
          obtain ⟨hb, h⟩ := v_ckS h
          exact V.zret (pc := 67) hO (v_z01 hb) dX1_isCheaper_67 (v_finI h)
  · rw [if_neg c] at h
    refine V.iload_n (pc := 19) (i := 3) hK rfl dX1_isCheaper_19 ?_
    refine V.iload (pc := 20) (i := 4) hK rfl dX1_isCheaper_20 ?_
    refine V.icmp_ge (pc := 22) (tgt := 29) hK dX1_isCheaper_22 (by decide) (fun c => ?_) (fun c => ?_)
    · rw [if_pos c] at h
      refine V.iconst (pc := 29) (v := 0) hK (by decide) dX1_isCheaper_29 ?_
      obtain ⟨hb, h⟩ := v_ckS h
      exact V.zret (pc := 30) hO (v_z01 hb) dX1_isCheaper_30 (v_finI h)
    · rw [if_neg c] at h
      refine V.iconst (pc := 25) (v := 1) hK (by decide) dX1_isCheaper_25 ?_
      refine V.goto (pc := 26) (tgt := 30) hK dX1_isCheaper_26 (by decide) ?_
      obtain ⟨hb, h⟩ := v_ckS h
      exact V.zret (pc := 30) hO (v_z01 hb) dX1_isCheaper_30 (v_finI h)
set_option maxHeartbeats 4000000 in
set_option maxRecDepth 100000 in
theorem w_X1_applyTo_L95 {E : v_E} {X : v_X} {sh : v_S} {P : v_P} {out : Int32 × v_M} (hL : v_Lay sh P) (hO : v_O E X cX1_applyTo RX1 5 1 none "applyTo" (v_Q1 (none) sh P out.2)) (N : Nat) (k2 : Int32 → Int32 → v_M → Option (Int32 × v_M)) (hk2 : ∀ (x2 : Int32) (x3 : Int32) (M : v_M), k2 x2 x3 M = some out → V E X (0, 0) 2 [(0, v_rf E 29), (1, v_rf E 18), (2, .int x2), (3, .int x3)] [] sh P M) (x2 : Int32) (x3 : Int32) (M : v_M) (h : f_X1_applyTo_L95 N k2 x2 x3 M = some out) : V E X (0, 0) 95 [(0, v_rf E 29), (1, v_rf E 18), (2, .int x2), (3, .int x3)] [] sh P M := by
  have hK := hO.1
  unfold f_X1_applyTo_L95 at h
  refine V.iinc (pc := 95) (i := 3) (v := 1) (lv' := [(0, _), (1, _), (2, _), (3, _)]) hK rfl (by decide) (by decide) rfl dX1_applyTo_95 ?_
  refine V.goto (pc := 98) (tgt := 2) hK dX1_applyTo_98 (by decide) ?_
  refine V.pick [0, 1, 2, 3] (l := [(0, _), (1, _), (2, _), (3, _)]) rfl ?_
  exact hk2 _ _ _ h
set_option maxHeartbeats 4000000 in
set_option maxRecDepth 100000 in
theorem w_X1_applyTo_L2 {E : v_E} {X : v_X} {sh : v_S} {P : v_P} {out : Int32 × v_M} (hL : v_Lay sh P) (hO : v_O E X cX1_applyTo RX1 5 1 none "applyTo" (v_Q1 (none) sh P out.2)) (N : Nat) (n : Nat) : ∀ (x2 : Int32) (x3 : Int32) (M : v_M), f_X1_applyTo_L2 N n x2 x3 M = some out → V E X (0, 0) 2 [(0, v_rf E 29), (1, v_rf E 18), (2, .int x2), (3, .int x3)] [] sh P M := by
  have hK := hO.1
  induction n with
  | zero => intro x2 x3 M h; rw [f_X1_applyTo_L2] at h; cases h
  | succ n ih =>
    intro x2 x3 M h
    rw [f_X1_applyTo_L2] at h
    refine V.iload_n (pc := 2) (i := 3) hK rfl dX1_applyTo_2 ?_
    refine V.aload_n (pc := 3) (i := 0) hK rfl ⟨_, rfl⟩ dX1_applyTo_3 ?_
    refine V.getI (pc := 4) hK fl_RX1_9 rfl (hL.1 29 _ ls_29) dX1_applyTo_4 ?_
    refine V.icmp_ge (pc := 7) (tgt := 101) hK dX1_applyTo_7 (by decide) (fun c => ?_) (fun c => ?_)
    · rw [if_pos c] at h
      exact V.vret (pc := 101) hO dX1_applyTo_101 (v_finV h)
    · rw [if_neg c] at h
      refine V.aload_n (pc := 10) (i := 0) hK rfl ⟨_, rfl⟩ dX1_applyTo_10 ?_
      refine V.getR (pc := 11) hK fl_RX1_15 rfl (hL.1 29 _ ls_29) (hL.2 29 1 30 rfl) dX1_applyTo_11 ?_
      refine V.iload_n (pc := 14) (i := 3) hK rfl dX1_applyTo_14 ?_
      obtain ⟨hb, h⟩ := v_ckS h
      refine V.iald (pc := 15) hK (hL.1 30 _ ls_30) (v_ibS hb) dX1_applyTo_15 ?_
      refine V.topi (fun y1 ey1 => ?_)
      have h := v_lt ey1 h
      refine V.istore (pc := 16) (i := 4) (lv' := [(0, _), (1, _), (2, _), (3, _), (4, _)]) hK (by decide) rfl dX1_applyTo_16 ?_
      refine V.iload_n (pc := 18) (i := 2) hK rfl dX1_applyTo_18 ?_
      refine V.iload_n (pc := 19) (i := 3) hK rfl dX1_applyTo_19 ?_
      refine V.ishr (pc := 20) hK dX1_applyTo_20 ?_
      refine V.iconst (pc := 21) (v := 1) hK (by decide) dX1_applyTo_21 ?_
      refine V.iand (pc := 22) hK dX1_applyTo_22 ?_
      refine V.iconst (pc := 23) (v := 1) hK (by decide) dX1_applyTo_23 ?_
      refine V.icmp_ne (pc := 24) (tgt := 95) hK dX1_applyTo_24 (by decide) (fun c => ?_) (fun c => ?_)
      · rw [if_neg c] at h
        refine V.pick [0, 1, 2, 3] (l := [(0, _), (1, _), (2, _), (3, _)]) rfl ?_
        exact w_X1_applyTo_L95 hL hO N _ ih _ _ _ h
      · rw [if_pos c] at h
        refine V.iload (pc := 27) (i := 4) hK rfl dX1_applyTo_27 ?_
        refine V.iconst (pc := 29) (v := 0) hK (by decide) dX1_applyTo_29 ?_
        refine V.bipush (pc := 30) (v := 23) hK (by decide) dX1_applyTo_30 ?_
        obtain ⟨z2, hz2, h⟩ := v_bdS h
        refine V.cSN (pc := 32) hK (c_X11_within E hL N _ _ _ _ hz2) Y_X11_within cn_RX1_40 dX1_applyTo_32 (by decide) rfl (Nat.le_of_ble_eq_true rfl) ?_
        refine V.if_eq (pc := 35) (tgt := 95) hK dX1_applyTo_35 (by decide) (fun c => ?_) (fun c => ?_)
        · rw [if_pos c] at h
          refine V.pick [0, 1, 2, 3] (l := [(0, _), (1, _), (2, _), (3, _)]) rfl ?_
          exact w_X1_applyTo_L95 hL hO N _ ih _ _ _ h
        · rw [if_neg c] at h
          refine V.aload_n (pc := 38) (i := 1) hK rfl ⟨_, rfl⟩ dX1_applyTo_38 ?_
          refine V.getR (pc := 39) hK fl_RX1_44 rfl (hL.1 18 _ ls_18) (hL.2 18 0 19 rfl) dX1_applyTo_39 ?_
          refine V.iload (pc := 42) (i := 4) hK rfl dX1_applyTo_42 ?_
          refine V.iconst (pc := 44) (v := 0) hK (by decide) dX1_applyTo_44 ?_
          refine V.aload_n (pc := 45) (i := 1) hK rfl ⟨_, rfl⟩ dX1_applyTo_45 ?_
          refine V.getR (pc := 46) hK fl_RX1_44 rfl (hL.1 18 _ ls_18) (hL.2 18 0 19 rfl) dX1_applyTo_46 ?_
          refine V.iload (pc := 49) (i := 4) hK rfl dX1_applyTo_49 ?_
          obtain ⟨hb, h⟩ := v_ckS h
          refine V.iald (pc := 51) hK (hL.1 19 _ ls_19) (v_ibS hb) dX1_applyTo_51 ?_
          refine V.aload_n (pc := 52) (i := 0) hK rfl ⟨_, rfl⟩ dX1_applyTo_52 ?_
          refine V.getR (pc := 53) hK fl_RX1_19 rfl (hL.1 29 _ ls_29) (hL.2 29 2 31 rfl) dX1_applyTo_53 ?_
          refine V.iload_n (pc := 56) (i := 3) hK rfl dX1_applyTo_56 ?_
          obtain ⟨hb, h⟩ := v_ckS h
          refine V.iald (pc := 57) hK (hL.1 31 _ ls_31) (v_ibS hb) dX1_applyTo_57 ?_
          refine V.isub (pc := 58) hK dX1_applyTo_58 ?_
          refine V.mmax (pc := 59) hK tw_696 tw_mmaxs tw_mi tw_mmaxc dX1_applyTo_59 (by decide) (Nat.le_of_ble_eq_true rfl) ?_
          obtain ⟨hb, h⟩ := v_ckS h
          refine V.iast (pc := 62) hK (hL.1 19 _ ls_19) (v_ibS hb) dX1_applyTo_62 ?_
          refine V.nmM (fun M3 eM3 => ?_)
          have h := v_lt eM3 h
          refine V.aload_n (pc := 63) (i := 1) hK rfl ⟨_, rfl⟩ dX1_applyTo_63 ?_
          refine V.getR (pc := 64) hK fl_RX1_53 rfl (hL.1 18 _ ls_18) (hL.2 18 2 21 rfl) dX1_applyTo_64 ?_
          refine V.iload (pc := 67) (i := 4) hK rfl dX1_applyTo_67 ?_
          refine V.dup2 (pc := 69) hK rfl rfl dX1_applyTo_69 ?_
          obtain ⟨hb, h⟩ := v_ckS h
          refine V.iald (pc := 70) hK (hL.1 21 _ ls_21) (v_ibS hb) dX1_applyTo_70 ?_
          refine V.aload_n (pc := 71) (i := 0) hK rfl ⟨_, rfl⟩ dX1_applyTo_71 ?_
          refine V.getR (pc := 72) hK fl_RX1_22 rfl (hL.1 29 _ ls_29) (hL.2 29 3 32 rfl) dX1_applyTo_72 ?_
          refine V.iload_n (pc := 75) (i := 3) hK rfl dX1_applyTo_75 ?_
          obtain ⟨hb, h⟩ := v_ckS h
          refine V.iald (pc := 76) hK (hL.1 32 _ ls_32) (v_ibS hb) dX1_applyTo_76 ?_
          refine V.iadd (pc := 77) hK dX1_applyTo_77 ?_
          obtain ⟨hb, h⟩ := v_ckS h
          refine V.iast (pc := 78) hK (hL.1 21 _ ls_21) (v_ibS hb) dX1_applyTo_78 ?_
          refine V.nmM (fun M4 eM4 => ?_)
          have h := v_lt eM4 h
          refine V.aload_n (pc := 79) (i := 1) hK rfl ⟨_, rfl⟩ dX1_applyTo_79 ?_
          refine V.getR (pc := 80) hK fl_RX1_54 rfl (hL.1 18 _ ls_18) (hL.2 18 1 20 rfl) dX1_applyTo_80 ?_
          refine V.iload (pc := 83) (i := 4) hK rfl dX1_applyTo_83 ?_
          refine V.dup2 (pc := 85) hK rfl rfl dX1_applyTo_85 ?_
          obtain ⟨hb, h⟩ := v_ckS h
          refine V.iald (pc := 86) hK (hL.1 20 _ ls_20) (v_ibS hb) dX1_applyTo_86 ?_
          refine V.aload_n (pc := 87) (i := 0) hK rfl ⟨_, rfl⟩ dX1_applyTo_87 ?_
          refine V.getR (pc := 88) hK fl_RX1_25 rfl (hL.1 29 _ ls_29) (hL.2 29 4 33 rfl) dX1_applyTo_88 ?_
          refine V.iload_n (pc := 91) (i := 3) hK rfl dX1_applyTo_91 ?_
          obtain ⟨hb, h⟩ := v_ckS h
          refine V.iald (pc := 92) hK (hL.1 33 _ ls_33) (v_ibS hb) dX1_applyTo_92 ?_
          refine V.iadd (pc := 93) hK dX1_applyTo_93 ?_
          obtain ⟨hb, h⟩ := v_ckS h
          refine V.iast (pc := 94) hK (hL.1 20 _ ls_20) (v_ibS hb) dX1_applyTo_94 ?_
          refine V.nmM (fun M5 eM5 => ?_)
          have h := v_lt eM5 h
          refine V.pick [0, 1, 2, 3] (l := [(0, _), (1, _), (2, _), (3, _)]) rfl ?_
          exact w_X1_applyTo_L95 hL hO N _ ih _ _ _ h
set_option maxHeartbeats 4000000 in
set_option maxRecDepth 100000 in
theorem c_X1_applyTo (E : v_E) {sh : v_S} {P : v_P} (hL : v_Lay sh P) (N : Nat) (x2 : Int32) (M : v_M) {out : Int32 × v_M} (h : f_X1_applyTo N x2 M = some out) : v_Ct E 1 yX1_applyTo cX1_applyTo 5 none 0 0 [v_rf E 29, v_rf E 18, .int x2] sh P M (v_Q1 (none) sh P out.2) := by
  refine v_Ct.of (by decide +kernel) (Nat.le_of_ble_eq_true rfl) (fun X hO => ?_)
  have hK : v_K E X cX1_applyTo RX1 5 1 := hO.1
  have hO : v_O E X cX1_applyTo RX1 5 1 none "applyTo" (v_Q1 (none) sh P out.2) := hO
  show V E X (0, 0) 0 [(0, v_rf E 29), (1, v_rf E 18), (2, .int x2)] [] sh P M
  unfold f_X1_applyTo at h
  refine V.iconst (pc := 0) (v := 0) hK (by decide) dX1_applyTo_0 ?_
  refine V.istore_n (pc := 1) (i := 3) (lv' := [(0, _), (1, _), (2, _), (3, _)]) hK (by decide) rfl dX1_applyTo_1 ?_
  refine V.pick [0, 1, 2, 3] (l := [(0, _), (1, _), (2, _), (3, _)]) rfl ?_
  exact w_X1_applyTo_L2 hL hO N N _ _ _ h
set_option maxHeartbeats 4000000 in
set_option maxRecDepth 100000 in
theorem c_X2_load (E : v_E) {sh : v_S} {P : v_P} (hL : v_Lay sh P) (N : Nat) (q2 : Nat) (hq2 : v_Fl sh P q2) (x3 : Int32) (M : v_M) {out : Int32 × v_M} (h : f_X2_load N q2 x3 M = some out) : v_Ct E 1 yX2_load cX2_load 5 none 0 0 [v_rf E 18, v_rf E 1, v_rf E q2, .int x3] sh P M (v_Q1 (none) sh P out.2) := by
  refine v_Ct.of (by decide +kernel) (Nat.le_of_ble_eq_true rfl) (fun X hO => ?_)
  have hK : v_K E X cX2_load RX2 5 1 := hO.1
  have hO : v_O E X cX2_load RX2 5 1 none "load" (v_Q1 (none) sh P out.2) := hO
  show V E X (0, 0) 0 [(0, v_rf E 18), (1, v_rf E 1), (2, v_rf E q2), (3, .int x3)] [] sh P M
  unfold f_X2_load at h
  refine V.iload_n (pc := 0) (i := 3) hK rfl dX2_load_0 ?_
  refine V.iconst (pc := 1) (v := 0) hK (by decide) dX2_load_1 ?_
  refine V.bipush (pc := 2) (v := 19) hK (by decide) dX2_load_2 ?_
  obtain ⟨z1, hz1, h⟩ := v_bdS h
  refine V.cSN (pc := 4) hK (c_X11_within E hL N _ _ _ _ hz1) Y_X11_within cn_RX2_42 dX2_load_4 (by decide) rfl (Nat.le_of_ble_eq_true rfl) ?_
  refine V.if_ne (pc := 7) (tgt := 11) hK dX2_load_7 (by decide) (fun c => ?_) (fun c => ?_)
  · rw [if_neg c] at h
    refine V.iload_n (pc := 11) (i := 3) hK rfl dX2_load_11 ?_
    refine V.iconst (pc := 12) (v := 0) hK (by decide) dX2_load_12 ?_
    obtain ⟨z2, hz2, h⟩ := v_bdS h
    refine V.cS (pc := 13) hK (c_X4_spot E hL N _ _ _ hz2) Y_X4_spot cs_RX2_46 dX2_load_13 (by decide) rfl (Nat.le_of_ble_eq_true rfl) ?_
    refine V.topi (fun y3 ey3 => ?_)
    have h := v_lt ey3 h
    refine V.istore (pc := 16) (i := 4) (lv' := [(0, _), (1, _), (2, _), (3, _), (4, _)]) hK (by decide) rfl dX2_load_16 ?_
    refine V.aload_n (pc := 18) (i := 1) hK rfl ⟨_, rfl⟩ dX2_load_18 ?_
    refine V.getR (pc := 19) hK fl_RX2_52 rfl (hL.1 1 _ ls_1) (hL.2 1 3 4 rfl) dX2_load_19 ?_
    refine V.iconst (pc := 22) (v := 0) hK (by decide) dX2_load_22 ?_
    refine V.aload_n (pc := 23) (i := 0) hK rfl ⟨_, rfl⟩ dX2_load_23 ?_
    refine V.getR (pc := 24) hK fl_RX2_9 rfl (hL.1 18 _ ls_18) (hL.2 18 0 19 rfl) dX2_load_24 ?_
    refine V.iconst (pc := 27) (v := 0) hK (by decide) dX2_load_27 ?_
    refine V.bipush (pc := 28) (v := 24) hK (by decide) dX2_load_28 ?_
    obtain ⟨hb, h⟩ := v_ckS h
    obtain ⟨hb1, hb2, hb3, hb4, hb5⟩ := v_cpkS hb
    refine V.copy (pc := 30) hK tw_573 tw_cpn tw_cps tw_cpi (hL.1 4 _ ls_4) (hL.1 19 _ ls_19) hb1 hb2 hb3 hb4 hb5 dX2_load_30 (by decide) (Nat.le_of_ble_eq_true rfl) ?_
    refine V.nmM (fun M4 eM4 => ?_)
    have h := v_lt eM4 h
    refine V.aload_n (pc := 33) (i := 1) hK rfl ⟨_, rfl⟩ dX2_load_33 ?_
    refine V.getR (pc := 34) hK fl_RX2_61 rfl (hL.1 1 _ ls_1) (hL.2 1 7 8 rfl) dX2_load_34 ?_
    refine V.iconst (pc := 37) (v := 0) hK (by decide) dX2_load_37 ?_
    refine V.aload_n (pc := 38) (i := 0) hK rfl ⟨_, rfl⟩ dX2_load_38 ?_
    refine V.getR (pc := 39) hK fl_RX2_15 rfl (hL.1 18 _ ls_18) (hL.2 18 1 20 rfl) dX2_load_39 ?_
    refine V.iconst (pc := 42) (v := 0) hK (by decide) dX2_load_42 ?_
    refine V.bipush (pc := 43) (v := 24) hK (by decide) dX2_load_43 ?_
    obtain ⟨hb, h⟩ := v_ckS h
    obtain ⟨hb1, hb2, hb3, hb4, hb5⟩ := v_cpkS hb
    refine V.copy (pc := 45) hK tw_573 tw_cpn tw_cps tw_cpi (hL.1 8 _ ls_8) (hL.1 20 _ ls_20) hb1 hb2 hb3 hb4 hb5 dX2_load_45 (by decide) (Nat.le_of_ble_eq_true rfl) ?_
    refine V.nmM (fun M5 eM5 => ?_)
    have h := v_lt eM5 h
    refine V.aload_n (pc := 48) (i := 1) hK rfl ⟨_, rfl⟩ dX2_load_48 ?_
    refine V.getR (pc := 49) hK fl_RX2_62 rfl (hL.1 1 _ ls_1) (hL.2 1 8 9 rfl) dX2_load_49 ?_
    refine V.iconst (pc := 52) (v := 0) hK (by decide) dX2_load_52 ?_
    refine V.aload_n (pc := 53) (i := 0) hK rfl ⟨_, rfl⟩ dX2_load_53 ?_
    refine V.getR (pc := 54) hK fl_RX2_18 rfl (hL.1 18 _ ls_18) (hL.2 18 2 21 rfl) dX2_load_54 ?_
    refine V.iconst (pc := 57) (v := 0) hK (by decide) dX2_load_57 ?_
    refine V.bipush (pc := 58) (v := 24) hK (by decide) dX2_load_58 ?_
    obtain ⟨hb, h⟩ := v_ckS h
    obtain ⟨hb1, hb2, hb3, hb4, hb5⟩ := v_cpkS hb
    refine V.copy (pc := 60) hK tw_573 tw_cpn tw_cps tw_cpi (hL.1 9 _ ls_9) (hL.1 21 _ ls_21) hb1 hb2 hb3 hb4 hb5 dX2_load_60 (by decide) (Nat.le_of_ble_eq_true rfl) ?_
    refine V.nmM (fun M6 eM6 => ?_)
    have h := v_lt eM6 h
    refine V.aload_n (pc := 63) (i := 2) hK rfl ⟨_, rfl⟩ dX2_load_63 ?_
    refine V.getR (pc := 64) hK fl_RX2_63 rfl (hq2.1 0 _ rfl) (hq2.2 1 1 rfl) dX2_load_64 ?_
    refine V.iload (pc := 67) (i := 4) hK rfl dX2_load_67 ?_
    refine V.aload_n (pc := 69) (i := 0) hK rfl ⟨_, rfl⟩ dX2_load_69 ?_
    refine V.getR (pc := 70) hK fl_RX2_21 rfl (hL.1 18 _ ls_18) (hL.2 18 3 22 rfl) dX2_load_70 ?_
    refine V.iconst (pc := 73) (v := 0) hK (by decide) dX2_load_73 ?_
    refine V.bipush (pc := 74) (v := 24) hK (by decide) dX2_load_74 ?_
    obtain ⟨hb, h⟩ := v_ckS h
    obtain ⟨hb1, hb2, hb3, hb4, hb5⟩ := v_cpkS hb
    refine V.copy (pc := 76) hK tw_573 tw_cpn tw_cps tw_cpi (hq2.1 1 _ rfl) (hL.1 22 _ ls_22) hb1 hb2 hb3 hb4 hb5 dX2_load_76 (by decide) (Nat.le_of_ble_eq_true rfl) ?_
    refine V.nmM (fun M7 eM7 => ?_)
    have h := v_lt eM7 h
    refine V.aload_n (pc := 79) (i := 2) hK rfl ⟨_, rfl⟩ dX2_load_79 ?_
    refine V.getR (pc := 80) hK fl_RX2_64 rfl (hq2.1 0 _ rfl) (hq2.2 2 2 rfl) dX2_load_80 ?_
    refine V.iload (pc := 83) (i := 4) hK rfl dX2_load_83 ?_
    refine V.aload_n (pc := 85) (i := 0) hK rfl ⟨_, rfl⟩ dX2_load_85 ?_
    refine V.getR (pc := 86) hK fl_RX2_24 rfl (hL.1 18 _ ls_18) (hL.2 18 4 23 rfl) dX2_load_86 ?_
    refine V.iconst (pc := 89) (v := 0) hK (by decide) dX2_load_89 ?_
    refine V.bipush (pc := 90) (v := 24) hK (by decide) dX2_load_90 ?_
    obtain ⟨hb, h⟩ := v_ckS h
    obtain ⟨hb1, hb2, hb3, hb4, hb5⟩ := v_cpkS hb
    refine V.copy (pc := 92) hK tw_573 tw_cpn tw_cps tw_cpi (hq2.1 2 _ rfl) (hL.1 23 _ ls_23) hb1 hb2 hb3 hb4 hb5 dX2_load_92 (by decide) (Nat.le_of_ble_eq_true rfl) ?_
    refine V.nmM (fun M8 eM8 => ?_)
    have h := v_lt eM8 h
    refine V.aload_n (pc := 95) (i := 2) hK rfl ⟨_, rfl⟩ dX2_load_95 ?_
    refine V.getR (pc := 96) hK fl_RX2_65 rfl (hq2.1 0 _ rfl) (hq2.2 3 3 rfl) dX2_load_96 ?_
    refine V.iload (pc := 99) (i := 4) hK rfl dX2_load_99 ?_
    refine V.aload_n (pc := 101) (i := 0) hK rfl ⟨_, rfl⟩ dX2_load_101 ?_
    refine V.getR (pc := 102) hK fl_RX2_27 rfl (hL.1 18 _ ls_18) (hL.2 18 5 24 rfl) dX2_load_102 ?_
    refine V.iconst (pc := 105) (v := 0) hK (by decide) dX2_load_105 ?_
    refine V.bipush (pc := 106) (v := 24) hK (by decide) dX2_load_106 ?_
    obtain ⟨hb, h⟩ := v_ckS h
    obtain ⟨hb1, hb2, hb3, hb4, hb5⟩ := v_cpkS hb
    refine V.copy (pc := 108) hK tw_573 tw_cpn tw_cps tw_cpi (hq2.1 3 _ rfl) (hL.1 24 _ ls_24) hb1 hb2 hb3 hb4 hb5 dX2_load_108 (by decide) (Nat.le_of_ble_eq_true rfl) ?_
    refine V.nmM (fun M9 eM9 => ?_)
    have h := v_lt eM9 h
    refine V.aload_n (pc := 111) (i := 2) hK rfl ⟨_, rfl⟩ dX2_load_111 ?_
    refine V.getR (pc := 112) hK fl_RX2_66 rfl (hq2.1 0 _ rfl) (hq2.2 4 4 rfl) dX2_load_112 ?_
    refine V.iload (pc := 115) (i := 4) hK rfl dX2_load_115 ?_
    refine V.aload_n (pc := 117) (i := 0) hK rfl ⟨_, rfl⟩ dX2_load_117 ?_
    refine V.getR (pc := 118) hK fl_RX2_30 rfl (hL.1 18 _ ls_18) (hL.2 18 6 25 rfl) dX2_load_118 ?_
    refine V.iconst (pc := 121) (v := 0) hK (by decide) dX2_load_121 ?_
    refine V.bipush (pc := 122) (v := 24) hK (by decide) dX2_load_122 ?_
    obtain ⟨hb, h⟩ := v_ckS h
    obtain ⟨hb1, hb2, hb3, hb4, hb5⟩ := v_cpkS hb
    refine V.copy (pc := 124) hK tw_573 tw_cpn tw_cps tw_cpi (hq2.1 4 _ rfl) (hL.1 25 _ ls_25) hb1 hb2 hb3 hb4 hb5 dX2_load_124 (by decide) (Nat.le_of_ble_eq_true rfl) ?_
    refine V.nmM (fun M10 eM10 => ?_)
    have h := v_lt eM10 h
    exact V.vret (pc := 127) hO dX2_load_127 (v_finV h)
  · rw [if_pos c] at h
    exact V.vret (pc := 10) hO dX2_load_10 (v_finV h)
set_option maxHeartbeats 4000000 in
set_option maxRecDepth 100000 in
theorem c_X2_save (E : v_E) {sh : v_S} {P : v_P} (hL : v_Lay sh P) (N : Nat) (q1 : Nat) (hq1 : v_Fl sh P q1) (x2 : Int32) (M : v_M) {out : Int32 × v_M} (h : f_X2_save N q1 x2 M = some out) : v_Ct E 1 yX2_save cX2_save 4 none 0 0 [v_rf E 18, v_rf E q1, .int x2] sh P M (v_Q1 (none) sh P out.2) := by
  refine v_Ct.of (by decide +kernel) (Nat.le_of_ble_eq_true rfl) (fun X hO => ?_)
  have hK : v_K E X cX2_save RX2 4 1 := hO.1
  have hO : v_O E X cX2_save RX2 4 1 none "save" (v_Q1 (none) sh P out.2) := hO
  show V E X (0, 0) 0 [(0, v_rf E 18), (1, v_rf E q1), (2, .int x2)] [] sh P M
  unfold f_X2_save at h
  refine V.iload_n (pc := 0) (i := 2) hK rfl dX2_save_0 ?_
  refine V.iconst (pc := 1) (v := 0) hK (by decide) dX2_save_1 ?_
  refine V.bipush (pc := 2) (v := 19) hK (by decide) dX2_save_2 ?_
  obtain ⟨z1, hz1, h⟩ := v_bdS h
  refine V.cSN (pc := 4) hK (c_X11_within E hL N _ _ _ _ hz1) Y_X11_within cn_RX2_42 dX2_save_4 (by decide) rfl (Nat.le_of_ble_eq_true rfl) ?_
  refine V.if_ne (pc := 7) (tgt := 11) hK dX2_save_7 (by decide) (fun c => ?_) (fun c => ?_)
  · rw [if_neg c] at h
    refine V.iload_n (pc := 11) (i := 2) hK rfl dX2_save_11 ?_
    refine V.iconst (pc := 12) (v := 0) hK (by decide) dX2_save_12 ?_
    obtain ⟨z2, hz2, h⟩ := v_bdS h
    refine V.cS (pc := 13) hK (c_X4_spot E hL N _ _ _ hz2) Y_X4_spot cs_RX2_46 dX2_save_13 (by decide) rfl (Nat.le_of_ble_eq_true rfl) ?_
    refine V.topi (fun y3 ey3 => ?_)
    have h := v_lt ey3 h
    refine V.istore_n (pc := 16) (i := 3) (lv' := [(0, _), (1, _), (2, _), (3, _)]) hK (by decide) rfl dX2_save_16 ?_
    refine V.aload_n (pc := 17) (i := 0) hK rfl ⟨_, rfl⟩ dX2_save_17 ?_
    refine V.getR (pc := 18) hK fl_RX2_27 rfl (hL.1 18 _ ls_18) (hL.2 18 5 24 rfl) dX2_save_18 ?_
    refine V.iconst (pc := 21) (v := 0) hK (by decide) dX2_save_21 ?_
    refine V.aload_n (pc := 22) (i := 1) hK rfl ⟨_, rfl⟩ dX2_save_22 ?_
    refine V.getR (pc := 23) hK fl_RX2_65 rfl (hq1.1 0 _ rfl) (hq1.2 3 3 rfl) dX2_save_23 ?_
    refine V.iload_n (pc := 26) (i := 3) hK rfl dX2_save_26 ?_
    refine V.bipush (pc := 27) (v := 24) hK (by decide) dX2_save_27 ?_
    obtain ⟨hb, h⟩ := v_ckS h
    obtain ⟨hb1, hb2, hb3, hb4, hb5⟩ := v_cpkS hb
    refine V.copy (pc := 29) hK tw_573 tw_cpn tw_cps tw_cpi (hL.1 24 _ ls_24) (hq1.1 3 _ rfl) hb1 hb2 hb3 hb4 hb5 dX2_save_29 (by decide) (Nat.le_of_ble_eq_true rfl) ?_
    refine V.nmM (fun M4 eM4 => ?_)
    have h := v_lt eM4 h
    refine V.aload_n (pc := 32) (i := 0) hK rfl ⟨_, rfl⟩ dX2_save_32 ?_
    refine V.getR (pc := 33) hK fl_RX2_30 rfl (hL.1 18 _ ls_18) (hL.2 18 6 25 rfl) dX2_save_33 ?_
    refine V.iconst (pc := 36) (v := 0) hK (by decide) dX2_save_36 ?_
    refine V.aload_n (pc := 37) (i := 1) hK rfl ⟨_, rfl⟩ dX2_save_37 ?_
    refine V.getR (pc := 38) hK fl_RX2_66 rfl (hq1.1 0 _ rfl) (hq1.2 4 4 rfl) dX2_save_38 ?_
    refine V.iload_n (pc := 41) (i := 3) hK rfl dX2_save_41 ?_
    refine V.bipush (pc := 42) (v := 24) hK (by decide) dX2_save_42 ?_
    obtain ⟨hb, h⟩ := v_ckS h
    obtain ⟨hb1, hb2, hb3, hb4, hb5⟩ := v_cpkS hb
    refine V.copy (pc := 44) hK tw_573 tw_cpn tw_cps tw_cpi (hL.1 25 _ ls_25) (hq1.1 4 _ rfl) hb1 hb2 hb3 hb4 hb5 dX2_save_44 (by decide) (Nat.le_of_ble_eq_true rfl) ?_
    refine V.nmM (fun M5 eM5 => ?_)
    have h := v_lt eM5 h
    exact V.vret (pc := 47) hO dX2_save_47 (v_finV h)
  · rw [if_pos c] at h
    exact V.vret (pc := 10) hO dX2_save_10 (v_finV h)
set_option maxHeartbeats 4000000 in
set_option maxRecDepth 100000 in
theorem w_X2_farthest_L119 {E : v_E} {X : v_X} {sh : v_S} {P : v_P} {out : Int32 × v_M} (hL : v_Lay sh P) (hO : v_O E X cX2_farthest RX2 8 2 (some .int) "farthest" (v_Q1 (some (.int out.1)) sh P out.2)) (N : Nat) (k16 : Int32 → Int32 → v_M → Option (Int32 × v_M)) (hk16 : ∀ (x2 : Int32) (x3 : Int32) (M : v_M), k16 x2 x3 M = some out → V E X (0, 0) 16 [(0, v_rf E 18), (1, v_rf E 1), (2, .int x2), (3, .int x3)] [] sh P M) (x2 : Int32) (x3 : Int32) (M : v_M) (h : f_X2_farthest_L119 N k16 x2 x3 M = some out) : V E X (0, 0) 119 [(0, v_rf E 18), (1, v_rf E 1), (2, .int x2), (3, .int x3)] [] sh P M := by
  have hK := hO.1
  unfold f_X2_farthest_L119 at h
  refine V.iinc (pc := 119) (i := 3) (v := -1) (lv' := [(0, _), (1, _), (2, _), (3, _)]) hK rfl (by decide) (by decide) rfl dX2_farthest_119 ?_
  refine V.goto (pc := 122) (tgt := 16) hK dX2_farthest_122 (by decide) ?_
  refine V.pick [0, 1, 2, 3] (l := [(0, _), (1, _), (2, _), (3, _)]) rfl ?_
  exact hk16 _ _ _ h
set_option maxHeartbeats 4000000 in
set_option maxRecDepth 100000 in
theorem w_X2_farthest_L16 {E : v_E} {X : v_X} {sh : v_S} {P : v_P} {out : Int32 × v_M} (hL : v_Lay sh P) (hO : v_O E X cX2_farthest RX2 8 2 (some .int) "farthest" (v_Q1 (some (.int out.1)) sh P out.2)) (N : Nat) (n : Nat) : ∀ (x2 : Int32) (x3 : Int32) (M : v_M), f_X2_farthest_L16 N n x2 x3 M = some out → V E X (0, 0) 16 [(0, v_rf E 18), (1, v_rf E 1), (2, .int x2), (3, .int x3)] [] sh P M := by
  have hK := hO.1
  induction n with
  | zero => intro x2 x3 M h; rw [f_X2_farthest_L16] at h; cases h
  | succ n ih =>
    intro x2 x3 M h
    rw [f_X2_farthest_L16] at h
    refine V.iload_n (pc := 16) (i := 3) hK rfl dX2_farthest_16 ?_
    refine V.if_le (pc := 17) (tgt := 125) hK dX2_farthest_17 (by decide) (fun c => ?_) (fun c => ?_)
    · rw [if_pos c] at h
      refine V.aload_n (pc := 125) (i := 1) hK rfl ⟨_, rfl⟩ dX2_farthest_125 ?_
      refine V.getR (pc := 126) hK fl_RX2_92 rfl (hL.1 1 _ ls_1) (hL.2 1 6 7 rfl) dX2_farthest_126 ?_
      refine V.iconst (pc := 129) (v := 0) hK (by decide) dX2_farthest_129 ?_
      obtain ⟨hb, h⟩ := v_ckS h
      refine V.iald (pc := 130) hK (hL.1 7 _ ls_7) (v_ibS hb) dX2_farthest_130 ?_
      refine V.aload_n (pc := 131) (i := 0) hK rfl ⟨_, rfl⟩ dX2_farthest_131 ?_
      refine V.getR (pc := 132) hK fl_RX2_36 rfl (hL.1 18 _ ls_18) (hL.2 18 8 27 rfl) dX2_farthest_132 ?_
      refine V.iconst (pc := 135) (v := 0) hK (by decide) dX2_farthest_135 ?_
      obtain ⟨hb, h⟩ := v_ckS h
      refine V.iald (pc := 136) hK (hL.1 27 _ ls_27) (v_ibS hb) dX2_farthest_136 ?_
      refine V.mmin (pc := 137) hK tw_590 tw_mmins tw_mi tw_mminc dX2_farthest_137 (by decide) (Nat.le_of_ble_eq_true rfl) ?_
      exact V.iret (pc := 140) hO dX2_farthest_140 (v_finI h)
    · rw [if_neg c] at h
      refine V.aload_n (pc := 20) (i := 1) hK rfl ⟨_, rfl⟩ dX2_farthest_20 ?_
      refine V.getR (pc := 21) hK fl_RX2_80 rfl (hL.1 1 _ ls_1) (hL.2 1 2 3 rfl) dX2_farthest_21 ?_
      refine V.iload_n (pc := 24) (i := 3) hK rfl dX2_farthest_24 ?_
      obtain ⟨hb, h⟩ := v_ckS h
      refine V.iald (pc := 25) hK (hL.1 3 _ ls_3) (v_ibS hb) dX2_farthest_25 ?_
      refine V.topi (fun y1 ey1 => ?_)
      have h := v_lt ey1 h
      refine V.istore (pc := 26) (i := 4) (lv' := [(0, _), (1, _), (2, _), (3, _), (4, _)]) hK (by decide) rfl dX2_farthest_26 ?_
      refine V.aload_n (pc := 28) (i := 1) hK rfl ⟨_, rfl⟩ dX2_farthest_28 ?_
      refine V.getR (pc := 29) hK fl_RX2_89 rfl (hL.1 1 _ ls_1) (hL.2 1 4 5 rfl) dX2_farthest_29 ?_
      refine V.iload_n (pc := 32) (i := 3) hK rfl dX2_farthest_32 ?_
      obtain ⟨hb, h⟩ := v_ckS h
      refine V.iald (pc := 33) hK (hL.1 5 _ ls_5) (v_ibS hb) dX2_farthest_33 ?_
      refine V.topi (fun y2 ey2 => ?_)
      have h := v_lt ey2 h
      refine V.istore (pc := 34) (i := 5) (lv' := [(0, _), (1, _), (2, _), (3, _), (4, _), (5, _)]) hK (by decide) rfl dX2_farthest_34 ?_
      refine V.aload_n (pc := 36) (i := 0) hK rfl ⟨_, rfl⟩ dX2_farthest_36 ?_
      refine V.aload_n (pc := 37) (i := 1) hK rfl ⟨_, rfl⟩ dX2_farthest_37 ?_
      refine V.iload_n (pc := 38) (i := 3) hK rfl dX2_farthest_38 ?_
      refine V.iload_n (pc := 39) (i := 2) hK rfl dX2_farthest_39 ?_
      obtain ⟨z3, hz3, h⟩ := v_bdS h
      refine V.cV (pc := 40) (ci := 2) hK (c_X2_mostAsked E hL N _ _ _ hz3) Y_X2_mostAsked cv_RX2_102 (by decide) rfl (hL.1 18 _ ls_18) dX2_farthest_40 (by decide) rfl (Nat.le_of_ble_eq_true rfl) ?_
      refine V.topi (fun y4 ey4 => ?_)
      have h := v_lt ey4 h
      refine V.istore (pc := 43) (i := 6) (lv' := [(0, _), (1, _), (2, _), (3, _), (4, _), (5, _), (6, _)]) hK (by decide) rfl dX2_farthest_43 ?_
      refine V.iload (pc := 45) (i := 6) hK rfl dX2_farthest_45 ?_
      refine V.ldc (pc := 47) hK tw_584 dX2_farthest_47 ?_
      refine V.icmp_ge (pc := 49) (tgt := 119) hK dX2_farthest_49 (by decide) (fun c => ?_) (fun c => ?_)
      · rw [if_pos c] at h
        refine V.pick [0, 1, 2, 3] (l := [(0, _), (1, _), (2, _), (3, _)]) rfl ?_
        exact w_X2_farthest_L119 hL hO N _ ih _ _ _ h
      · rw [if_neg c] at h
        refine V.iload (pc := 52) (i := 5) hK rfl dX2_farthest_52 ?_
        refine V.if_le (pc := 54) (tgt := 119) hK dX2_farthest_54 (by decide) (fun c => ?_) (fun c => ?_)
        · rw [if_pos c] at h
          refine V.pick [0, 1, 2, 3] (l := [(0, _), (1, _), (2, _), (3, _)]) rfl ?_
          exact w_X2_farthest_L119 hL hO N _ ih _ _ _ h
        · rw [if_neg c] at h
          refine V.iload (pc := 57) (i := 4) hK rfl dX2_farthest_57 ?_
          refine V.if_lt (pc := 59) (tgt := 119) hK dX2_farthest_59 (by decide) (fun c => ?_) (fun c => ?_)
          · rw [if_pos c] at h
            refine V.pick [0, 1, 2, 3] (l := [(0, _), (1, _), (2, _), (3, _)]) rfl ?_
            exact w_X2_farthest_L119 hL hO N _ ih _ _ _ h
          · rw [if_neg c] at h
            refine V.iload (pc := 62) (i := 4) hK rfl dX2_farthest_62 ?_
            refine V.iload_n (pc := 64) (i := 3) hK rfl dX2_farthest_64 ?_
            refine V.icmp_ge (pc := 65) (tgt := 119) hK dX2_farthest_65 (by decide) (fun c => ?_) (fun c => ?_)
            · rw [if_pos c] at h
              refine V.pick [0, 1, 2, 3] (l := [(0, _), (1, _), (2, _), (3, _)]) rfl ?_
              exact w_X2_farthest_L119 hL hO N _ ih _ _ _ h
            · rw [if_neg c] at h
              refine V.iload (pc := 68) (i := 6) hK rfl dX2_farthest_68 ?_
              refine V.iconst (pc := 70) (v := 1) hK (by decide) dX2_farthest_70 ?_
              refine V.iadd (pc := 71) hK dX2_farthest_71 ?_
              refine V.aload_n (pc := 72) (i := 1) hK rfl ⟨_, rfl⟩ dX2_farthest_72 ?_
              refine V.getR (pc := 73) hK fl_RX2_83 rfl (hL.1 1 _ ls_1) (hL.2 1 5 6 rfl) dX2_farthest_73 ?_
              refine V.iload_n (pc := 76) (i := 3) hK rfl dX2_farthest_76 ?_
              obtain ⟨hb, h⟩ := v_ckS h
              refine V.iald (pc := 77) hK (hL.1 6 _ ls_6) (v_ibS hb) dX2_farthest_77 ?_
              refine V.imul (pc := 78) hK dX2_farthest_78 ?_
              refine V.iconst (pc := 79) (v := 1) hK (by decide) dX2_farthest_79 ?_
              refine V.isub (pc := 80) hK dX2_farthest_80 ?_
              refine V.iload (pc := 81) (i := 5) hK rfl dX2_farthest_81 ?_
              obtain ⟨hb, h⟩ := v_ckS h
              refine V.idiv (pc := 83) hK (v_nzS hb) dX2_farthest_83 ?_
              refine V.topi (fun y5 ey5 => ?_)
              have h := v_lt ey5 h
              refine V.istore (pc := 84) (i := 7) (lv' := [(0, _), (1, _), (2, _), (3, _), (4, _), (5, _), (6, _), (7, _)]) hK (by decide) rfl dX2_farthest_84 ?_
              refine V.aload_n (pc := 86) (i := 0) hK rfl ⟨_, rfl⟩ dX2_farthest_86 ?_
              refine V.getR (pc := 87) hK fl_RX2_36 rfl (hL.1 18 _ ls_18) (hL.2 18 8 27 rfl) dX2_farthest_87 ?_
              refine V.iload (pc := 90) (i := 4) hK rfl dX2_farthest_90 ?_
              refine V.aload_n (pc := 92) (i := 0) hK rfl ⟨_, rfl⟩ dX2_farthest_92 ?_
              refine V.getR (pc := 93) hK fl_RX2_36 rfl (hL.1 18 _ ls_18) (hL.2 18 8 27 rfl) dX2_farthest_93 ?_
              refine V.iload (pc := 96) (i := 4) hK rfl dX2_farthest_96 ?_
              obtain ⟨hb, h⟩ := v_ckS h
              refine V.iald (pc := 98) hK (hL.1 27 _ ls_27) (v_ibS hb) dX2_farthest_98 ?_
              refine V.aload_n (pc := 99) (i := 0) hK rfl ⟨_, rfl⟩ dX2_farthest_99 ?_
              refine V.getR (pc := 100) hK fl_RX2_9 rfl (hL.1 18 _ ls_18) (hL.2 18 0 19 rfl) dX2_farthest_100 ?_
              refine V.iload_n (pc := 103) (i := 3) hK rfl dX2_farthest_103 ?_
              obtain ⟨hb, h⟩ := v_ckS h
              refine V.iald (pc := 104) hK (hL.1 19 _ ls_19) (v_ibS hb) dX2_farthest_104 ?_
              refine V.aload_n (pc := 105) (i := 0) hK rfl ⟨_, rfl⟩ dX2_farthest_105 ?_
              refine V.getR (pc := 106) hK fl_RX2_21 rfl (hL.1 18 _ ls_18) (hL.2 18 3 22 rfl) dX2_farthest_106 ?_
              refine V.iload_n (pc := 109) (i := 3) hK rfl dX2_farthest_109 ?_
              obtain ⟨hb, h⟩ := v_ckS h
              refine V.iald (pc := 110) hK (hL.1 22 _ ls_22) (v_ibS hb) dX2_farthest_110 ?_
              refine V.iadd (pc := 111) hK dX2_farthest_111 ?_
              refine V.iload (pc := 112) (i := 7) hK rfl dX2_farthest_112 ?_
              refine V.iadd (pc := 114) hK dX2_farthest_114 ?_
              refine V.mmin (pc := 115) hK tw_590 tw_mmins tw_mi tw_mminc dX2_farthest_115 (by decide) (Nat.le_of_ble_eq_true rfl) ?_
              obtain ⟨hb, h⟩ := v_ckS h
              refine V.iast (pc := 118) hK (hL.1 27 _ ls_27) (v_ibS hb) dX2_farthest_118 ?_
              refine V.nmM (fun M6 eM6 => ?_)
              have h := v_lt eM6 h
              refine V.pick [0, 1, 2, 3] (l := [(0, _), (1, _), (2, _), (3, _)]) rfl ?_
              exact w_X2_farthest_L119 hL hO N _ ih _ _ _ h
set_option maxHeartbeats 4000000 in
set_option maxRecDepth 100000 in
theorem c_X2_farthest (E : v_E) {sh : v_S} {P : v_P} (hL : v_Lay sh P) (N : Nat) (x2 : Int32) (M : v_M) {out : Int32 × v_M} (h : f_X2_farthest N x2 M = some out) : v_Ct E 2 yX2_farthest cX2_farthest 8 (some .int) 0 0 [v_rf E 18, v_rf E 1, .int x2] sh P M (v_Q1 (some (.int out.1)) sh P out.2) := by
  refine v_Ct.of (by decide +kernel) (Nat.le_of_ble_eq_true rfl) (fun X hO => ?_)
  have hK : v_K E X cX2_farthest RX2 8 2 := hO.1
  have hO : v_O E X cX2_farthest RX2 8 2 (some .int) "farthest" (v_Q1 (some (.int out.1)) sh P out.2) := hO
  show V E X (0, 0) 0 [(0, v_rf E 18), (1, v_rf E 1), (2, .int x2)] [] sh P M
  unfold f_X2_farthest at h
  refine V.aload_n (pc := 0) (i := 0) hK rfl ⟨_, rfl⟩ dX2_farthest_0 ?_
  refine V.getR (pc := 1) hK fl_RX2_36 rfl (hL.1 18 _ ls_18) (hL.2 18 8 27 rfl) dX2_farthest_1 ?_
  refine V.ldc (pc := 4) hK tw_584 dX2_farthest_4 ?_
  obtain ⟨z1, hz1, h⟩ := v_bdS h
  refine V.cSv (pc := 6) hK (c_J7_fill_53178 E hL N _ _ (hL.1 27 _ ls_27) _ _ hz1) Y_J7_fill_53178 cs_RX2_96 dX2_farthest_6 (by decide) rfl (Nat.le_of_ble_eq_true rfl) ?_
  refine V.aload_n (pc := 9) (i := 1) hK rfl ⟨_, rfl⟩ dX2_farthest_9 ?_
  refine V.getI (pc := 10) hK fl_RX2_76 rfl (hL.1 1 _ ls_1) dX2_farthest_10 ?_
  refine V.iconst (pc := 13) (v := 1) hK (by decide) dX2_farthest_13 ?_
  refine V.isub (pc := 14) hK dX2_farthest_14 ?_
  refine V.topi (fun y2 ey2 => ?_)
  have h := v_lt ey2 h
  refine V.istore_n (pc := 15) (i := 3) (lv' := [(0, _), (1, _), (2, _), (3, _)]) hK (by decide) rfl dX2_farthest_15 ?_
  refine V.pick [0, 1, 2, 3] (l := [(0, _), (1, _), (2, _), (3, _)]) rfl ?_
  exact w_X2_farthest_L16 hL hO N N _ _ _ h
set_option maxHeartbeats 4000000 in
set_option maxRecDepth 100000 in
theorem w_X2_isOver_L66 {E : v_E} {X : v_X} {sh : v_S} {P : v_P} {out : Int32 × v_M} (hL : v_Lay sh P) (hO : v_O E X cX2_isOver RX2 6 1 (some .boolean) "isOver" (v_Q1 (some (.int out.1)) sh P out.2)) (N : Nat) (x2 : Int32) (t0 : Int32) (M : v_M) (h : f_X2_isOver_L66 N x2 t0 M = some out) : V E X (0, 0) 66 [(0, v_rf E 18), (2, .int x2)] [.int t0] sh P M := by
  have hK := hO.1
  unfold f_X2_isOver_L66 at h
  refine V.istore (pc := 66) (i := 5) (lv' := [(0, _), (2, _), (5, _)]) hK (by decide) rfl dX2_isOver_66 ?_
  refine V.iload (pc := 68) (i := 5) hK rfl dX2_isOver_68 ?_
  refine V.aload_n (pc := 70) (i := 0) hK rfl ⟨_, rfl⟩ dX2_isOver_70 ?_
  refine V.getR (pc := 71) hK fl_RX2_18 rfl (hL.1 18 _ ls_18) (hL.2 18 2 21 rfl) dX2_isOver_71 ?_
  refine V.iload_n (pc := 74) (i := 2) hK rfl dX2_isOver_74 ?_
  obtain ⟨hb, h⟩ := v_ckS h
  refine V.iald (pc := 75) hK (hL.1 21 _ ls_21) (v_ibS hb) dX2_isOver_75 ?_
  refine V.aload_n (pc := 76) (i := 0) hK rfl ⟨_, rfl⟩ dX2_isOver_76 ?_
  refine V.getR (pc := 77) hK fl_RX2_24 rfl (hL.1 18 _ ls_18) (hL.2 18 4 23 rfl) dX2_isOver_77 ?_
  refine V.iload_n (pc := 80) (i := 2) hK rfl dX2_isOver_80 ?_
  obtain ⟨hb, h⟩ := v_ckS h
  refine V.iald (pc := 81) hK (hL.1 23 _ ls_23) (v_ibS hb) dX2_isOver_81 ?_
  refine V.iadd (pc := 82) hK dX2_isOver_82 ?_
  refine V.icmp_lt (pc := 83) (tgt := 90) hK dX2_isOver_83 (by decide) (fun c => ?_) (fun c => ?_)
  · rw [if_pos c] at h
    refine V.iconst (pc := 90) (v := 0) hK (by decide) dX2_isOver_90 ?_
    obtain ⟨hb, h⟩ := v_ckS h
    exact V.zret (pc := 91) hO (v_z01 hb) dX2_isOver_91 (v_finI h)
  · rw [if_neg c] at h
    refine V.iconst (pc := 86) (v := 1) hK (by decide) dX2_isOver_86 ?_
    refine V.goto (pc := 87) (tgt := 91) hK dX2_isOver_87 (by decide) ?_
    obtain ⟨hb, h⟩ := v_ckS h
    exact V.zret (pc := 91) hO (v_z01 hb) dX2_isOver_91 (v_finI h)
set_option maxHeartbeats 4000000 in
set_option maxRecDepth 100000 in
theorem w_X2_isOver_L44 {E : v_E} {X : v_X} {sh : v_S} {P : v_P} {out : Int32 × v_M} (hL : v_Lay sh P) (hO : v_O E X cX2_isOver RX2 6 1 (some .boolean) "isOver" (v_Q1 (some (.int out.1)) sh P out.2)) (N : Nat) (x2 : Int32) (x3 : Int32) (t0 : Int32) (M : v_M) (h : f_X2_isOver_L44 N x2 x3 t0 M = some out) : V E X (0, 0) 44 [(0, v_rf E 18), (2, .int x2), (3, .int x3)] [.int t0] sh P M := by
  have hK := hO.1
  unfold f_X2_isOver_L44 at h
  refine V.istore (pc := 44) (i := 4) (lv' := [(0, _), (2, _), (3, _), (4, _)]) hK (by decide) rfl dX2_isOver_44 ?_
  refine V.iload (pc := 46) (i := 4) hK rfl dX2_isOver_46 ?_
  refine V.if_eq (pc := 48) (tgt := 60) hK dX2_isOver_48 (by decide) (fun c => ?_) (fun c => ?_)
  · rw [if_pos c] at h
    refine V.aload_n (pc := 60) (i := 0) hK rfl ⟨_, rfl⟩ dX2_isOver_60 ?_
    refine V.getR (pc := 61) hK fl_RX2_30 rfl (hL.1 18 _ ls_18) (hL.2 18 6 25 rfl) dX2_isOver_61 ?_
    refine V.iload_n (pc := 64) (i := 2) hK rfl dX2_isOver_64 ?_
    obtain ⟨hb, h⟩ := v_ckS h
    refine V.iald (pc := 65) hK (hL.1 25 _ ls_25) (v_ibS hb) dX2_isOver_65 ?_
    refine V.pick [0, 2] (l := [(0, _), (2, _)]) rfl ?_
    exact w_X2_isOver_L66 hL hO N _ _ _ h
  · rw [if_neg c] at h
    refine V.aload_n (pc := 51) (i := 0) hK rfl ⟨_, rfl⟩ dX2_isOver_51 ?_
    refine V.getR (pc := 52) hK fl_RX2_30 rfl (hL.1 18 _ ls_18) (hL.2 18 6 25 rfl) dX2_isOver_52 ?_
    refine V.iload_n (pc := 55) (i := 3) hK rfl dX2_isOver_55 ?_
    obtain ⟨hb, h⟩ := v_ckS h
    refine V.iald (pc := 56) hK (hL.1 25 _ ls_25) (v_ibS hb) dX2_isOver_56 ?_
    refine V.goto (pc := 57) (tgt := 66) hK dX2_isOver_57 (by decide) ?_
    refine V.pick [0, 2] (l := [(0, _), (2, _)]) rfl ?_
    exact w_X2_isOver_L66 hL hO N _ _ _ h
set_option maxHeartbeats 4000000 in
set_option maxRecDepth 100000 in
theorem w_X2_isOver_L43 {E : v_E} {X : v_X} {sh : v_S} {P : v_P} {out : Int32 × v_M} (hL : v_Lay sh P) (hO : v_O E X cX2_isOver RX2 6 1 (some .boolean) "isOver" (v_Q1 (some (.int out.1)) sh P out.2)) (N : Nat) (x2 : Int32) (x3 : Int32) (M : v_M) (h : f_X2_isOver_L43 N x2 x3 M = some out) : V E X (0, 0) 43 [(0, v_rf E 18), (2, .int x2), (3, .int x3)] [] sh P M := by
  have hK := hO.1
  unfold f_X2_isOver_L43 at h
  refine V.iconst (pc := 43) (v := 0) hK (by decide) dX2_isOver_43 ?_
  refine V.pick [0, 2, 3] (l := [(0, _), (2, _), (3, _)]) rfl ?_
  exact w_X2_isOver_L44 hL hO N _ _ _ _ h
set_option maxHeartbeats 4000000 in
set_option maxRecDepth 100000 in
theorem c_X2_isOver (E : v_E) {sh : v_S} {P : v_P} (hL : v_Lay sh P) (N : Nat) (x2 : Int32) (M : v_M) {out : Int32 × v_M} (h : f_X2_isOver N x2 M = some out) : v_Ct E 1 yX2_isOver cX2_isOver 6 (some .boolean) 0 0 [v_rf E 18, v_rf E 1, .int x2] sh P M (v_Q1 (some (.int out.1)) sh P out.2) := by
  refine v_Ct.of (by decide +kernel) (Nat.le_of_ble_eq_true rfl) (fun X hO => ?_)
  have hK : v_K E X cX2_isOver RX2 6 1 := hO.1
  have hO : v_O E X cX2_isOver RX2 6 1 (some .boolean) "isOver" (v_Q1 (some (.int out.1)) sh P out.2) := hO
  show V E X (0, 0) 0 [(0, v_rf E 18), (1, v_rf E 1), (2, .int x2)] [] sh P M
  unfold f_X2_isOver at h
  refine V.iload_n (pc := 0) (i := 2) hK rfl dX2_isOver_0 ?_
  refine V.iconst (pc := 1) (v := 0) hK (by decide) dX2_isOver_1 ?_
  refine V.bipush (pc := 2) (v := 23) hK (by decide) dX2_isOver_2 ?_
  obtain ⟨z1, hz1, h⟩ := v_bdS h
  refine V.cSN (pc := 4) hK (c_X11_within E hL N _ _ _ _ hz1) Y_X11_within cn_RX2_42 dX2_isOver_4 (by decide) rfl (Nat.le_of_ble_eq_true rfl) ?_
  refine V.if_ne (pc := 7) (tgt := 12) hK dX2_isOver_7 (by decide) (fun c => ?_) (fun c => ?_)
  · rw [if_neg c] at h
    refine V.aload_n (pc := 12) (i := 1) hK rfl ⟨_, rfl⟩ dX2_isOver_12 ?_
    refine V.getR (pc := 13) hK fl_RX2_80 rfl (hL.1 1 _ ls_1) (hL.2 1 2 3 rfl) dX2_isOver_13 ?_
    refine V.iload_n (pc := 16) (i := 2) hK rfl dX2_isOver_16 ?_
    obtain ⟨hb, h⟩ := v_ckS h
    refine V.iald (pc := 17) hK (hL.1 3 _ ls_3) (v_ibS hb) dX2_isOver_17 ?_
    refine V.topi (fun y2 ey2 => ?_)
    have h := v_lt ey2 h
    refine V.istore_n (pc := 18) (i := 3) (lv' := [(0, _), (1, _), (2, _), (3, _)]) hK (by decide) rfl dX2_isOver_18 ?_
    refine V.aload_n (pc := 19) (i := 1) hK rfl ⟨_, rfl⟩ dX2_isOver_19 ?_
    refine V.getR (pc := 20) hK fl_RX2_106 rfl (hL.1 1 _ ls_1) (hL.2 1 1 2 rfl) dX2_isOver_20 ?_
    refine V.iload_n (pc := 23) (i := 2) hK rfl dX2_isOver_23 ?_
    obtain ⟨hb, h⟩ := v_ckS h
    refine V.iald (pc := 24) hK (hL.1 2 _ ls_2) (v_ibS hb) dX2_isOver_24 ?_
    refine V.iconst (pc := 25) (v := 5) hK (by decide) dX2_isOver_25 ?_
    refine V.icmp_ne (pc := 26) (tgt := 43) hK dX2_isOver_26 (by decide) (fun c => ?_) (fun c => ?_)
    · rw [if_neg c] at h
      refine V.pick [0, 2, 3] (l := [(0, _), (2, _), (3, _)]) rfl ?_
      exact w_X2_isOver_L43 hL hO N _ _ _ h
    · rw [if_pos c] at h
      refine V.iload_n (pc := 29) (i := 3) hK rfl dX2_isOver_29 ?_
      refine V.iconst (pc := 30) (v := 0) hK (by decide) dX2_isOver_30 ?_
      refine V.bipush (pc := 31) (v := 23) hK (by decide) dX2_isOver_31 ?_
      obtain ⟨z3, hz3, h⟩ := v_bdS h
      refine V.cSN (pc := 33) hK (c_X11_within E hL N _ _ _ _ hz3) Y_X11_within cn_RX2_42 dX2_isOver_33 (by decide) rfl (Nat.le_of_ble_eq_true rfl) ?_
      refine V.if_eq (pc := 36) (tgt := 43) hK dX2_isOver_36 (by decide) (fun c => ?_) (fun c => ?_)
      · rw [if_pos c] at h
        refine V.pick [0, 2, 3] (l := [(0, _), (2, _), (3, _)]) rfl ?_
        exact w_X2_isOver_L43 hL hO N _ _ _ h
      · rw [if_neg c] at h
        refine V.iconst (pc := 39) (v := 1) hK (by decide) dX2_isOver_39 ?_
        refine V.goto (pc := 40) (tgt := 44) hK dX2_isOver_40 (by decide) ?_
        refine V.pick [0, 2, 3] (l := [(0, _), (2, _), (3, _)]) rfl ?_
        exact w_X2_isOver_L44 hL hO N _ _ _ _ h
  · rw [if_pos c] at h
    refine V.iconst (pc := 10) (v := 0) hK (by decide) dX2_isOver_10 ?_
    obtain ⟨hb, h⟩ := v_ckS h
    exact V.zret (pc := 11) hO (v_z01 hb) dX2_isOver_11 (v_finI h)
set_option maxHeartbeats 4000000 in
set_option maxRecDepth 100000 in
theorem w_X2_isShut_L35 {E : v_E} {X : v_X} {sh : v_S} {P : v_P} {out : Int32 × v_M} (hL : v_Lay sh P) (hO : v_O E X cX2_isShut RX2 4 2 (some .boolean) "isShut" (v_Q1 (some (.int out.1)) sh P out.2)) (N : Nat) (k4 : Int32 → Int32 → v_M → Option (Int32 × v_M)) (hk4 : ∀ (x2 : Int32) (x3 : Int32) (M : v_M), k4 x2 x3 M = some out → V E X (0, 0) 4 [(0, v_rf E 18), (1, v_rf E 1), (2, .int x2), (3, .int x3)] [] sh P M) (x2 : Int32) (x3 : Int32) (M : v_M) (h : f_X2_isShut_L35 N k4 x2 x3 M = some out) : V E X (0, 0) 35 [(0, v_rf E 18), (1, v_rf E 1), (2, .int x2), (3, .int x3)] [] sh P M := by
  have hK := hO.1
  unfold f_X2_isShut_L35 at h
  refine V.iinc (pc := 35) (i := 3) (v := 1) (lv' := [(0, _), (1, _), (2, _), (3, _)]) hK rfl (by decide) (by decide) rfl dX2_isShut_35 ?_
  refine V.goto (pc := 38) (tgt := 4) hK dX2_isShut_38 (by decide) ?_
  refine V.pick [0, 1, 2, 3] (l := [(0, _), (1, _), (2, _), (3, _)]) rfl ?_
  exact hk4 _ _ _ h
set_option maxHeartbeats 4000000 in
set_option maxRecDepth 100000 in
theorem w_X2_isShut_L4 {E : v_E} {X : v_X} {sh : v_S} {P : v_P} {out : Int32 × v_M} (hL : v_Lay sh P) (hO : v_O E X cX2_isShut RX2 4 2 (some .boolean) "isShut" (v_Q1 (some (.int out.1)) sh P out.2)) (N : Nat) (n : Nat) : ∀ (x2 : Int32) (x3 : Int32) (M : v_M), f_X2_isShut_L4 N n x2 x3 M = some out → V E X (0, 0) 4 [(0, v_rf E 18), (1, v_rf E 1), (2, .int x2), (3, .int x3)] [] sh P M := by
  have hK := hO.1
  induction n with
  | zero => intro x2 x3 M h; rw [f_X2_isShut_L4] at h; cases h
  | succ n ih =>
    intro x2 x3 M h
    rw [f_X2_isShut_L4] at h
    refine V.iload_n (pc := 4) (i := 3) hK rfl dX2_isShut_4 ?_
    refine V.aload_n (pc := 5) (i := 1) hK rfl ⟨_, rfl⟩ dX2_isShut_5 ?_
    refine V.getI (pc := 6) hK fl_RX2_76 rfl (hL.1 1 _ ls_1) dX2_isShut_6 ?_
    refine V.icmp_ge (pc := 9) (tgt := 41) hK dX2_isShut_9 (by decide) (fun c => ?_) (fun c => ?_)
    · rw [if_pos c] at h
      refine V.iload_n (pc := 41) (i := 2) hK rfl dX2_isShut_41 ?_
      obtain ⟨hb, h⟩ := v_ckS h
      exact V.zret (pc := 42) hO (v_z01 hb) dX2_isShut_42 (v_finI h)
    · rw [if_neg c] at h
      refine V.aload_n (pc := 12) (i := 1) hK rfl ⟨_, rfl⟩ dX2_isShut_12 ?_
      refine V.getR (pc := 13) hK fl_RX2_106 rfl (hL.1 1 _ ls_1) (hL.2 1 1 2 rfl) dX2_isShut_13 ?_
      refine V.iload_n (pc := 16) (i := 3) hK rfl dX2_isShut_16 ?_
      obtain ⟨hb, h⟩ := v_ckS h
      refine V.iald (pc := 17) hK (hL.1 2 _ ls_2) (v_ibS hb) dX2_isShut_17 ?_
      refine V.iconst (pc := 18) (v := 2) hK (by decide) dX2_isShut_18 ?_
      refine V.icmp_ne (pc := 19) (tgt := 35) hK dX2_isShut_19 (by decide) (fun c => ?_) (fun c => ?_)
      · rw [if_neg c] at h
        refine V.pick [0, 1, 2, 3] (l := [(0, _), (1, _), (2, _), (3, _)]) rfl ?_
        exact w_X2_isShut_L35 hL hO N _ ih _ _ _ h
      · rw [if_pos c] at h
        refine V.iconst (pc := 22) (v := 1) hK (by decide) dX2_isShut_22 ?_
        refine V.istore_n (pc := 23) (i := 2) (lv' := [(0, _), (1, _), (2, _), (3, _)]) hK (by decide) rfl dX2_isShut_23 ?_
        refine V.aload_n (pc := 24) (i := 0) hK rfl ⟨_, rfl⟩ dX2_isShut_24 ?_
        refine V.aload_n (pc := 25) (i := 1) hK rfl ⟨_, rfl⟩ dX2_isShut_25 ?_
        refine V.iload_n (pc := 26) (i := 3) hK rfl dX2_isShut_26 ?_
        obtain ⟨z1, hz1, h⟩ := v_bdS h
        refine V.cV (pc := 27) (ci := 2) hK (c_X2_isOver E hL N _ _ hz1) Y_X2_isOver cv_RX2_109 (by decide) rfl (hL.1 18 _ ls_18) dX2_isShut_27 (by decide) rfl (Nat.le_of_ble_eq_true rfl) ?_
        refine V.if_ne (pc := 30) (tgt := 35) hK dX2_isShut_30 (by decide) (fun c => ?_) (fun c => ?_)
        · rw [if_neg c] at h
          refine V.pick [0, 1, 2, 3] (l := [(0, _), (1, _), (2, _), (3, _)]) rfl ?_
          exact w_X2_isShut_L35 hL hO N _ ih _ _ _ h
        · rw [if_pos c] at h
          refine V.iconst (pc := 33) (v := 0) hK (by decide) dX2_isShut_33 ?_
          obtain ⟨hb, h⟩ := v_ckS h
          exact V.zret (pc := 34) hO (v_z01 hb) dX2_isShut_34 (v_finI h)
set_option maxHeartbeats 4000000 in
set_option maxRecDepth 100000 in
theorem c_X2_isShut (E : v_E) {sh : v_S} {P : v_P} (hL : v_Lay sh P) (N : Nat) (M : v_M) {out : Int32 × v_M} (h : f_X2_isShut N M = some out) : v_Ct E 2 yX2_isShut cX2_isShut 4 (some .boolean) 0 0 [v_rf E 18, v_rf E 1] sh P M (v_Q1 (some (.int out.1)) sh P out.2) := by
  refine v_Ct.of (by decide +kernel) (Nat.le_of_ble_eq_true rfl) (fun X hO => ?_)
  have hK : v_K E X cX2_isShut RX2 4 2 := hO.1
  have hO : v_O E X cX2_isShut RX2 4 2 (some .boolean) "isShut" (v_Q1 (some (.int out.1)) sh P out.2) := hO
  show V E X (0, 0) 0 [(0, v_rf E 18), (1, v_rf E 1)] [] sh P M
  unfold f_X2_isShut at h
  refine V.iconst (pc := 0) (v := 0) hK (by decide) dX2_isShut_0 ?_
  refine V.istore_n (pc := 1) (i := 2) (lv' := [(0, _), (1, _), (2, _)]) hK (by decide) rfl dX2_isShut_1 ?_
  refine V.iconst (pc := 2) (v := 0) hK (by decide) dX2_isShut_2 ?_
  refine V.istore_n (pc := 3) (i := 3) (lv' := [(0, _), (1, _), (2, _), (3, _)]) hK (by decide) rfl dX2_isShut_3 ?_
  refine V.pick [0, 1, 2, 3] (l := [(0, _), (1, _), (2, _), (3, _)]) rfl ?_
  exact w_X2_isShut_L4 hL hO N N _ _ _ h
set_option maxHeartbeats 4000000 in
set_option maxRecDepth 100000 in
theorem w_X2_looksShut_L35 {E : v_E} {X : v_X} {sh : v_S} {P : v_P} {out : Int32 × v_M} (hL : v_Lay sh P) (hO : v_O E X cX2_looksShut RX2 4 2 (some .boolean) "looksShut" (v_Q1 (some (.int out.1)) sh P out.2)) (N : Nat) (k2 : Int32 → Int32 → v_M → Option (Int32 × v_M)) (hk2 : ∀ (x2 : Int32) (x3 : Int32) (M : v_M), k2 x2 x3 M = some out → V E X (0, 0) 2 [(0, v_rf E 18), (1, v_rf E 1), (2, .int x2), (3, .int x3)] [] sh P M) (x2 : Int32) (x3 : Int32) (M : v_M) (h : f_X2_looksShut_L35 N k2 x2 x3 M = some out) : V E X (0, 0) 35 [(0, v_rf E 18), (1, v_rf E 1), (2, .int x2), (3, .int x3)] [] sh P M := by
  have hK := hO.1
  unfold f_X2_looksShut_L35 at h
  refine V.iinc (pc := 35) (i := 3) (v := 1) (lv' := [(0, _), (1, _), (2, _), (3, _)]) hK rfl (by decide) (by decide) rfl dX2_looksShut_35 ?_
  refine V.goto (pc := 38) (tgt := 2) hK dX2_looksShut_38 (by decide) ?_
  refine V.pick [0, 1, 2, 3] (l := [(0, _), (1, _), (2, _), (3, _)]) rfl ?_
  exact hk2 _ _ _ h
set_option maxHeartbeats 4000000 in
set_option maxRecDepth 100000 in
theorem w_X2_looksShut_L2 {E : v_E} {X : v_X} {sh : v_S} {P : v_P} {out : Int32 × v_M} (hL : v_Lay sh P) (hO : v_O E X cX2_looksShut RX2 4 2 (some .boolean) "looksShut" (v_Q1 (some (.int out.1)) sh P out.2)) (N : Nat) (n : Nat) : ∀ (x2 : Int32) (x3 : Int32) (M : v_M), f_X2_looksShut_L2 N n x2 x3 M = some out → V E X (0, 0) 2 [(0, v_rf E 18), (1, v_rf E 1), (2, .int x2), (3, .int x3)] [] sh P M := by
  have hK := hO.1
  induction n with
  | zero => intro x2 x3 M h; rw [f_X2_looksShut_L2] at h; cases h
  | succ n ih =>
    intro x2 x3 M h
    rw [f_X2_looksShut_L2] at h
    refine V.iload_n (pc := 2) (i := 3) hK rfl dX2_looksShut_2 ?_
    refine V.aload_n (pc := 3) (i := 1) hK rfl ⟨_, rfl⟩ dX2_looksShut_3 ?_
    refine V.getI (pc := 4) hK fl_RX2_76 rfl (hL.1 1 _ ls_1) dX2_looksShut_4 ?_
    refine V.icmp_ge (pc := 7) (tgt := 41) hK dX2_looksShut_7 (by decide) (fun c => ?_) (fun c => ?_)
    · rw [if_pos c] at h
      refine V.iconst (pc := 41) (v := 1) hK (by decide) dX2_looksShut_41 ?_
      obtain ⟨hb, h⟩ := v_ckS h
      exact V.zret (pc := 42) hO (v_z01 hb) dX2_looksShut_42 (v_finI h)
    · rw [if_neg c] at h
      refine V.iload_n (pc := 10) (i := 2) hK rfl dX2_looksShut_10 ?_
      refine V.aload_n (pc := 11) (i := 1) hK rfl ⟨_, rfl⟩ dX2_looksShut_11 ?_
      refine V.getR (pc := 12) hK fl_RX2_106 rfl (hL.1 1 _ ls_1) (hL.2 1 1 2 rfl) dX2_looksShut_12 ?_
      refine V.iload_n (pc := 15) (i := 3) hK rfl dX2_looksShut_15 ?_
      obtain ⟨hb, h⟩ := v_ckS h
      refine V.iald (pc := 16) hK (hL.1 2 _ ls_2) (v_ibS hb) dX2_looksShut_16 ?_
      obtain ⟨z1, hz1, h⟩ := v_bdS h
      refine V.cS (pc := 17) hK (c_X2_lookBit E hL N _ _ hz1) Y_X2_lookBit cs_RX2_113 dX2_looksShut_17 (by decide) rfl (Nat.le_of_ble_eq_true rfl) ?_
      refine V.iand (pc := 20) hK dX2_looksShut_20 ?_
      refine V.if_eq (pc := 21) (tgt := 35) hK dX2_looksShut_21 (by decide) (fun c => ?_) (fun c => ?_)
      · rw [if_pos c] at h
        refine V.pick [0, 1, 2, 3] (l := [(0, _), (1, _), (2, _), (3, _)]) rfl ?_
        exact w_X2_looksShut_L35 hL hO N _ ih _ _ _ h
      · rw [if_neg c] at h
        refine V.aload_n (pc := 24) (i := 0) hK rfl ⟨_, rfl⟩ dX2_looksShut_24 ?_
        refine V.aload_n (pc := 25) (i := 1) hK rfl ⟨_, rfl⟩ dX2_looksShut_25 ?_
        refine V.iload_n (pc := 26) (i := 3) hK rfl dX2_looksShut_26 ?_
        obtain ⟨z2, hz2, h⟩ := v_bdS h
        refine V.cV (pc := 27) (ci := 2) hK (c_X2_isOver E hL N _ _ hz2) Y_X2_isOver cv_RX2_109 (by decide) rfl (hL.1 18 _ ls_18) dX2_looksShut_27 (by decide) rfl (Nat.le_of_ble_eq_true rfl) ?_
        refine V.if_ne (pc := 30) (tgt := 35) hK dX2_looksShut_30 (by decide) (fun c => ?_) (fun c => ?_)
        · rw [if_neg c] at h
          refine V.pick [0, 1, 2, 3] (l := [(0, _), (1, _), (2, _), (3, _)]) rfl ?_
          exact w_X2_looksShut_L35 hL hO N _ ih _ _ _ h
        · rw [if_pos c] at h
          refine V.iconst (pc := 33) (v := 0) hK (by decide) dX2_looksShut_33 ?_
          obtain ⟨hb, h⟩ := v_ckS h
          exact V.zret (pc := 34) hO (v_z01 hb) dX2_looksShut_34 (v_finI h)
set_option maxHeartbeats 4000000 in
set_option maxRecDepth 100000 in
theorem c_X2_looksShut (E : v_E) {sh : v_S} {P : v_P} (hL : v_Lay sh P) (N : Nat) (x2 : Int32) (M : v_M) {out : Int32 × v_M} (h : f_X2_looksShut N x2 M = some out) : v_Ct E 2 yX2_looksShut cX2_looksShut 4 (some .boolean) 0 0 [v_rf E 18, v_rf E 1, .int x2] sh P M (v_Q1 (some (.int out.1)) sh P out.2) := by
  refine v_Ct.of (by decide +kernel) (Nat.le_of_ble_eq_true rfl) (fun X hO => ?_)
  have hK : v_K E X cX2_looksShut RX2 4 2 := hO.1
  have hO : v_O E X cX2_looksShut RX2 4 2 (some .boolean) "looksShut" (v_Q1 (some (.int out.1)) sh P out.2) := hO
  show V E X (0, 0) 0 [(0, v_rf E 18), (1, v_rf E 1), (2, .int x2)] [] sh P M
  unfold f_X2_looksShut at h
  refine V.iconst (pc := 0) (v := 0) hK (by decide) dX2_looksShut_0 ?_
  refine V.istore_n (pc := 1) (i := 3) (lv' := [(0, _), (1, _), (2, _), (3, _)]) hK (by decide) rfl dX2_looksShut_1 ?_
  refine V.pick [0, 1, 2, 3] (l := [(0, _), (1, _), (2, _), (3, _)]) rfl ?_
  exact w_X2_looksShut_L2 hL hO N N _ _ _ h
set_option maxHeartbeats 4000000 in
set_option maxRecDepth 100000 in
theorem c_X2_isUnlike (E : v_E) {sh : v_S} {P : v_P} (hL : v_Lay sh P) (N : Nat) (x2 : Int32) (M : v_M) {out : Int32 × v_M} (h : f_X2_isUnlike N x2 M = some out) : v_Ct E 3 yX2_isUnlike cX2_isUnlike 3 (some .boolean) 0 0 [v_rf E 18, v_rf E 1, .int x2] sh P M (v_Q1 (some (.int out.1)) sh P out.2) := by
  refine v_Ct.of (by decide +kernel) (Nat.le_of_ble_eq_true rfl) (fun X hO => ?_)
  have hK : v_K E X cX2_isUnlike RX2 3 3 := hO.1
  have hO : v_O E X cX2_isUnlike RX2 3 3 (some .boolean) "isUnlike" (v_Q1 (some (.int out.1)) sh P out.2) := hO
  show V E X (0, 0) 0 [(0, v_rf E 18), (1, v_rf E 1), (2, .int x2)] [] sh P M
  unfold f_X2_isUnlike at h
  refine V.aload_n (pc := 0) (i := 0) hK rfl ⟨_, rfl⟩ dX2_isUnlike_0 ?_
  refine V.aload_n (pc := 1) (i := 1) hK rfl ⟨_, rfl⟩ dX2_isUnlike_1 ?_
  refine V.iload_n (pc := 2) (i := 2) hK rfl dX2_isUnlike_2 ?_
  obtain ⟨z1, hz1, h⟩ := v_bdS h
  refine V.cV (pc := 3) (ci := 2) hK (c_X2_looksShut E hL N _ _ hz1) Y_X2_looksShut cv_RX2_117 (by decide) rfl (hL.1 18 _ ls_18) dX2_isUnlike_3 (by decide) rfl (Nat.le_of_ble_eq_true rfl) ?_
  refine V.if_eq (pc := 6) (tgt := 21) hK dX2_isUnlike_6 (by decide) (fun c => ?_) (fun c => ?_)
  · rw [if_pos c] at h
    refine V.iconst (pc := 21) (v := 0) hK (by decide) dX2_isUnlike_21 ?_
    obtain ⟨hb, h⟩ := v_ckS h
    exact V.zret (pc := 22) hO (v_z01 hb) dX2_isUnlike_22 (v_finI h)
  · rw [if_neg c] at h
    refine V.aload_n (pc := 9) (i := 0) hK rfl ⟨_, rfl⟩ dX2_isUnlike_9 ?_
    refine V.aload_n (pc := 10) (i := 1) hK rfl ⟨_, rfl⟩ dX2_isUnlike_10 ?_
    obtain ⟨z2, hz2, h⟩ := v_bdS h
    refine V.cV (pc := 11) (ci := 2) hK (c_X2_isShut E hL N _ hz2) Y_X2_isShut cv_RX2_120 (by decide) rfl (hL.1 18 _ ls_18) dX2_isUnlike_11 (by decide) rfl (Nat.le_of_ble_eq_true rfl) ?_
    refine V.if_ne (pc := 14) (tgt := 21) hK dX2_isUnlike_14 (by decide) (fun c => ?_) (fun c => ?_)
    · rw [if_neg c] at h
      refine V.iconst (pc := 21) (v := 0) hK (by decide) dX2_isUnlike_21 ?_
      obtain ⟨hb, h⟩ := v_ckS h
      exact V.zret (pc := 22) hO (v_z01 hb) dX2_isUnlike_22 (v_finI h)
    · rw [if_pos c] at h
      refine V.iconst (pc := 17) (v := 1) hK (by decide) dX2_isUnlike_17 ?_
      refine V.goto (pc := 18) (tgt := 22) hK dX2_isUnlike_18 (by decide) ?_
      obtain ⟨hb, h⟩ := v_ckS h
      exact V.zret (pc := 22) hO (v_z01 hb) dX2_isUnlike_22 (v_finI h)
set_option maxHeartbeats 4000000 in
set_option maxRecDepth 100000 in
theorem w_X2_gatherHooks_L69 {E : v_E} {X : v_X} {sh : v_S} {P : v_P} {out : Int32 × v_M} (hL : v_Lay sh P) (hO : v_O E X cX2_gatherHooks RX2 4 2 (some .int) "gatherHooks" (v_Q1 (some (.int out.1)) sh P out.2)) (N : Nat) (k4 : Int32 → Int32 → v_M → Option (Int32 × v_M)) (hk4 : ∀ (x2 : Int32) (x3 : Int32) (M : v_M), k4 x2 x3 M = some out → V E X (0, 0) 4 [(0, v_rf E 18), (1, v_rf E 1), (2, .int x2), (3, .int x3)] [] sh P M) (x2 : Int32) (x3 : Int32) (M : v_M) (h : f_X2_gatherHooks_L69 N k4 x2 x3 M = some out) : V E X (0, 0) 69 [(0, v_rf E 18), (1, v_rf E 1), (2, .int x2), (3, .int x3)] [] sh P M := by
  have hK := hO.1
  unfold f_X2_gatherHooks_L69 at h
  refine V.iinc (pc := 69) (i := 3) (v := 1) (lv' := [(0, _), (1, _), (2, _), (3, _)]) hK rfl (by decide) (by decide) rfl dX2_gatherHooks_69 ?_
  refine V.goto (pc := 72) (tgt := 4) hK dX2_gatherHooks_72 (by decide) ?_
  refine V.pick [0, 1, 2, 3] (l := [(0, _), (1, _), (2, _), (3, _)]) rfl ?_
  exact hk4 _ _ _ h
set_option maxHeartbeats 4000000 in
set_option maxRecDepth 100000 in
theorem w_X2_gatherHooks_L4 {E : v_E} {X : v_X} {sh : v_S} {P : v_P} {out : Int32 × v_M} (hL : v_Lay sh P) (hO : v_O E X cX2_gatherHooks RX2 4 2 (some .int) "gatherHooks" (v_Q1 (some (.int out.1)) sh P out.2)) (N : Nat) (n : Nat) : ∀ (x2 : Int32) (x3 : Int32) (M : v_M), f_X2_gatherHooks_L4 N n x2 x3 M = some out → V E X (0, 0) 4 [(0, v_rf E 18), (1, v_rf E 1), (2, .int x2), (3, .int x3)] [] sh P M := by
  have hK := hO.1
  induction n with
  | zero => intro x2 x3 M h; rw [f_X2_gatherHooks_L4] at h; cases h
  | succ n ih =>
    intro x2 x3 M h
    rw [f_X2_gatherHooks_L4] at h
    refine V.iload_n (pc := 4) (i := 3) hK rfl dX2_gatherHooks_4 ?_
    refine V.aload_n (pc := 5) (i := 1) hK rfl ⟨_, rfl⟩ dX2_gatherHooks_5 ?_
    refine V.getI (pc := 6) hK fl_RX2_76 rfl (hL.1 1 _ ls_1) dX2_gatherHooks_6 ?_
    refine V.icmp_ge (pc := 9) (tgt := 75) hK dX2_gatherHooks_9 (by decide) (fun c => ?_) (fun c => ?_)
    · rw [if_pos c] at h
      refine V.iload_n (pc := 75) (i := 2) hK rfl dX2_gatherHooks_75 ?_
      exact V.iret (pc := 76) hO dX2_gatherHooks_76 (v_finI h)
    · rw [if_neg c] at h
      refine V.aload_n (pc := 12) (i := 1) hK rfl ⟨_, rfl⟩ dX2_gatherHooks_12 ?_
      refine V.getR (pc := 13) hK fl_RX2_106 rfl (hL.1 1 _ ls_1) (hL.2 1 1 2 rfl) dX2_gatherHooks_13 ?_
      refine V.iload_n (pc := 16) (i := 3) hK rfl dX2_gatherHooks_16 ?_
      obtain ⟨hb, h⟩ := v_ckS h
      refine V.iald (pc := 17) hK (hL.1 2 _ ls_2) (v_ibS hb) dX2_gatherHooks_17 ?_
      refine V.iconst (pc := 18) (v := 2) hK (by decide) dX2_gatherHooks_18 ?_
      refine V.icmp_ne (pc := 19) (tgt := 69) hK dX2_gatherHooks_19 (by decide) (fun c => ?_) (fun c => ?_)
      · rw [if_neg c] at h
        refine V.pick [0, 1, 2, 3] (l := [(0, _), (1, _), (2, _), (3, _)]) rfl ?_
        exact w_X2_gatherHooks_L69 hL hO N _ ih _ _ _ h
      · rw [if_pos c] at h
        refine V.aload_n (pc := 22) (i := 0) hK rfl ⟨_, rfl⟩ dX2_gatherHooks_22 ?_
        refine V.aload_n (pc := 23) (i := 1) hK rfl ⟨_, rfl⟩ dX2_gatherHooks_23 ?_
        refine V.iload_n (pc := 24) (i := 3) hK rfl dX2_gatherHooks_24 ?_
        obtain ⟨z1, hz1, h⟩ := v_bdS h
        refine V.cV (pc := 25) (ci := 2) hK (c_X2_isOver E hL N _ _ hz1) Y_X2_isOver cv_RX2_109 (by decide) rfl (hL.1 18 _ ls_18) dX2_gatherHooks_25 (by decide) rfl (Nat.le_of_ble_eq_true rfl) ?_
        refine V.if_eq (pc := 28) (tgt := 69) hK dX2_gatherHooks_28 (by decide) (fun c => ?_) (fun c => ?_)
        · rw [if_pos c] at h
          refine V.pick [0, 1, 2, 3] (l := [(0, _), (1, _), (2, _), (3, _)]) rfl ?_
          exact w_X2_gatherHooks_L69 hL hO N _ ih _ _ _ h
        · rw [if_neg c] at h
          refine V.aload_n (pc := 31) (i := 0) hK rfl ⟨_, rfl⟩ dX2_gatherHooks_31 ?_
          refine V.getR (pc := 32) hK fl_RX2_39 rfl (hL.1 18 _ ls_18) (hL.2 18 9 28 rfl) dX2_gatherHooks_32 ?_
          refine V.iload_n (pc := 35) (i := 2) hK rfl dX2_gatherHooks_35 ?_
          refine V.aload_n (pc := 36) (i := 0) hK rfl ⟨_, rfl⟩ dX2_gatherHooks_36 ?_
          refine V.getR (pc := 37) hK fl_RX2_15 rfl (hL.1 18 _ ls_18) (hL.2 18 1 20 rfl) dX2_gatherHooks_37 ?_
          refine V.iload_n (pc := 40) (i := 3) hK rfl dX2_gatherHooks_40 ?_
          obtain ⟨hb, h⟩ := v_ckS h
          refine V.iald (pc := 41) hK (hL.1 20 _ ls_20) (v_ibS hb) dX2_gatherHooks_41 ?_
          refine V.iconst (pc := 42) (v := 5) hK (by decide) dX2_gatherHooks_42 ?_
          refine V.aload_n (pc := 43) (i := 0) hK rfl ⟨_, rfl⟩ dX2_gatherHooks_43 ?_
          refine V.getR (pc := 44) hK fl_RX2_30 rfl (hL.1 18 _ ls_18) (hL.2 18 6 25 rfl) dX2_gatherHooks_44 ?_
          refine V.iload_n (pc := 47) (i := 3) hK rfl dX2_gatherHooks_47 ?_
          obtain ⟨hb, h⟩ := v_ckS h
          refine V.iald (pc := 48) hK (hL.1 25 _ ls_25) (v_ibS hb) dX2_gatherHooks_48 ?_
          refine V.aload_n (pc := 49) (i := 0) hK rfl ⟨_, rfl⟩ dX2_gatherHooks_49 ?_
          refine V.getR (pc := 50) hK fl_RX2_18 rfl (hL.1 18 _ ls_18) (hL.2 18 2 21 rfl) dX2_gatherHooks_50 ?_
          refine V.iload_n (pc := 53) (i := 3) hK rfl dX2_gatherHooks_53 ?_
          obtain ⟨hb, h⟩ := v_ckS h
          refine V.iald (pc := 54) hK (hL.1 21 _ ls_21) (v_ibS hb) dX2_gatherHooks_54 ?_
          refine V.isub (pc := 55) hK dX2_gatherHooks_55 ?_
          refine V.aload_n (pc := 56) (i := 0) hK rfl ⟨_, rfl⟩ dX2_gatherHooks_56 ?_
          refine V.getR (pc := 57) hK fl_RX2_24 rfl (hL.1 18 _ ls_18) (hL.2 18 4 23 rfl) dX2_gatherHooks_57 ?_
          refine V.iload_n (pc := 60) (i := 3) hK rfl dX2_gatherHooks_60 ?_
          obtain ⟨hb, h⟩ := v_ckS h
          refine V.iald (pc := 61) hK (hL.1 23 _ ls_23) (v_ibS hb) dX2_gatherHooks_61 ?_
          refine V.isub (pc := 62) hK dX2_gatherHooks_62 ?_
          refine V.imul (pc := 63) hK dX2_gatherHooks_63 ?_
          refine V.iadd (pc := 64) hK dX2_gatherHooks_64 ?_
          obtain ⟨hb, h⟩ := v_ckS h
          refine V.iast (pc := 65) hK (hL.1 28 _ ls_28) (v_ibS hb) dX2_gatherHooks_65 ?_
          refine V.nmM (fun M2 eM2 => ?_)
          have h := v_lt eM2 h
          refine V.iinc (pc := 66) (i := 2) (v := 1) (lv' := [(0, _), (1, _), (2, _), (3, _)]) hK rfl (by decide) (by decide) rfl dX2_gatherHooks_66 ?_
          refine V.pick [0, 1, 2, 3] (l := [(0, _), (1, _), (2, _), (3, _)]) rfl ?_
          exact w_X2_gatherHooks_L69 hL hO N _ ih _ _ _ h
set_option maxHeartbeats 4000000 in
set_option maxRecDepth 100000 in
theorem c_X2_gatherHooks (E : v_E) {sh : v_S} {P : v_P} (hL : v_Lay sh P) (N : Nat) (M : v_M) {out : Int32 × v_M} (h : f_X2_gatherHooks N M = some out) : v_Ct E 2 yX2_gatherHooks cX2_gatherHooks 4 (some .int) 0 0 [v_rf E 18, v_rf E 1] sh P M (v_Q1 (some (.int out.1)) sh P out.2) := by
  refine v_Ct.of (by decide +kernel) (Nat.le_of_ble_eq_true rfl) (fun X hO => ?_)
  have hK : v_K E X cX2_gatherHooks RX2 4 2 := hO.1
  have hO : v_O E X cX2_gatherHooks RX2 4 2 (some .int) "gatherHooks" (v_Q1 (some (.int out.1)) sh P out.2) := hO
  show V E X (0, 0) 0 [(0, v_rf E 18), (1, v_rf E 1)] [] sh P M
  unfold f_X2_gatherHooks at h
  refine V.iconst (pc := 0) (v := 0) hK (by decide) dX2_gatherHooks_0 ?_
  refine V.istore_n (pc := 1) (i := 2) (lv' := [(0, _), (1, _), (2, _)]) hK (by decide) rfl dX2_gatherHooks_1 ?_
  refine V.iconst (pc := 2) (v := 0) hK (by decide) dX2_gatherHooks_2 ?_
  refine V.istore_n (pc := 3) (i := 3) (lv' := [(0, _), (1, _), (2, _), (3, _)]) hK (by decide) rfl dX2_gatherHooks_3 ?_
  refine V.pick [0, 1, 2, 3] (l := [(0, _), (1, _), (2, _), (3, _)]) rfl ?_
  exact w_X2_gatherHooks_L4 hL hO N N _ _ _ h
set_option maxHeartbeats 4000000 in
set_option maxRecDepth 100000 in
theorem c_X3_takesKind (E : v_E) {sh : v_S} {P : v_P} (hL : v_Lay sh P) (N : Nat) (x1 : Int32) (x2 : Int32) (M : v_M) {out : Int32 × v_M} (h : f_X3_takesKind N x1 x2 M = some out) : v_Ct E 1 yX3_takesKind cX3_takesKind 3 (some .boolean) 0 0 [v_rf E 1, .int x1, .int x2] sh P M (v_Q1 (some (.int out.1)) sh P out.2) := by
  refine v_Ct.of (by decide +kernel) (Nat.le_of_ble_eq_true rfl) (fun X hO => ?_)
  have hK : v_K E X cX3_takesKind RX3 3 1 := hO.1
  have hO : v_O E X cX3_takesKind RX3 3 1 (some .boolean) "takesKind" (v_Q1 (some (.int out.1)) sh P out.2) := hO
  show V E X (0, 0) 0 [(0, v_rf E 1), (1, .int x1), (2, .int x2)] [] sh P M
  unfold f_X3_takesKind at h
  refine V.aload_n (pc := 0) (i := 0) hK rfl ⟨_, rfl⟩ dX3_takesKind_0 ?_
  refine V.getI (pc := 1) hK fl_RX3_9 rfl (hL.1 1 _ ls_1) dX3_takesKind_1 ?_
  refine V.bipush (pc := 4) (v := 24) hK (by decide) dX3_takesKind_4 ?_
  refine V.icmp_lt (pc := 6) (tgt := 11) hK dX3_takesKind_6 (by decide) (fun c => ?_) (fun c => ?_)
  · rw [if_pos c] at h
    refine V.aload_n (pc := 11) (i := 0) hK rfl ⟨_, rfl⟩ dX3_takesKind_11 ?_
    refine V.getI (pc := 12) hK fl_RX3_9 rfl (hL.1 1 _ ls_1) dX3_takesKind_12 ?_
    refine V.if_ne (pc := 15) (tgt := 33) hK dX3_takesKind_15 (by decide) (fun c => ?_) (fun c => ?_)
    · rw [if_neg c] at h
      refine V.iload_n (pc := 33) (i := 1) hK rfl dX3_takesKind_33 ?_
      refine V.iconst (pc := 34) (v := 1) hK (by decide) dX3_takesKind_34 ?_
      refine V.iconst (pc := 35) (v := 5) hK (by decide) dX3_takesKind_35 ?_
      obtain ⟨z1, hz1, h⟩ := v_bdS h
      refine V.cSN (pc := 36) hK (c_X11_within E hL N _ _ _ _ hz1) Y_X11_within cn_RX3_43 dX3_takesKind_36 (by decide) rfl (Nat.le_of_ble_eq_true rfl) ?_
      refine V.if_eq (pc := 39) (tgt := 56) hK dX3_takesKind_39 (by decide) (fun c => ?_) (fun c => ?_)
      · rw [if_pos c] at h
        refine V.iconst (pc := 56) (v := 0) hK (by decide) dX3_takesKind_56 ?_
        obtain ⟨hb, h⟩ := v_ckS h
        exact V.zret (pc := 57) hO (v_z01 hb) dX3_takesKind_57 (v_finI h)
      · rw [if_neg c] at h
        refine V.iload_n (pc := 42) (i := 2) hK rfl dX3_takesKind_42 ?_
        refine V.iconst (pc := 43) (v := 0) hK (by decide) dX3_takesKind_43 ?_
        refine V.aload_n (pc := 44) (i := 0) hK rfl ⟨_, rfl⟩ dX3_takesKind_44 ?_
        refine V.getI (pc := 45) hK fl_RX3_9 rfl (hL.1 1 _ ls_1) dX3_takesKind_45 ?_
        refine V.iconst (pc := 48) (v := 1) hK (by decide) dX3_takesKind_48 ?_
        refine V.isub (pc := 49) hK dX3_takesKind_49 ?_
        obtain ⟨z2, hz2, h⟩ := v_bdS h
        refine V.cSN (pc := 50) hK (c_X11_within E hL N _ _ _ _ hz2) Y_X11_within cn_RX3_43 dX3_takesKind_50 (by decide) rfl (Nat.le_of_ble_eq_true rfl) ?_
        refine V.if_ne (pc := 53) (tgt := 58) hK dX3_takesKind_53 (by decide) (fun c => ?_) (fun c => ?_)
        · rw [if_neg c] at h
          refine V.iload_n (pc := 58) (i := 1) hK rfl dX3_takesKind_58 ?_
          refine V.iconst (pc := 59) (v := 5) hK (by decide) dX3_takesKind_59 ?_
          refine V.icmp_ne (pc := 60) (tgt := 81) hK dX3_takesKind_60 (by decide) (fun c => ?_) (fun c => ?_)
          · rw [if_neg c] at h
            refine V.aload_n (pc := 81) (i := 0) hK rfl ⟨_, rfl⟩ dX3_takesKind_81 ?_
            refine V.getR (pc := 82) hK fl_RX3_15 rfl (hL.1 1 _ ls_1) (hL.2 1 1 2 rfl) dX3_takesKind_82 ?_
            refine V.iload_n (pc := 85) (i := 2) hK rfl dX3_takesKind_85 ?_
            obtain ⟨hb, h⟩ := v_ckS h
            refine V.iald (pc := 86) hK (hL.1 2 _ ls_2) (v_ibS hb) dX3_takesKind_86 ?_
            refine V.iconst (pc := 87) (v := 2) hK (by decide) dX3_takesKind_87 ?_
            refine V.icmp_gt (pc := 88) (tgt := 95) hK dX3_takesKind_88 (by decide) (fun c => ?_) (fun c => ?_)
            · rw [if_pos c] at h
              refine V.iconst (pc := 95) (v := 0) hK (by decide) dX3_takesKind_95 ?_
              obtain ⟨hb, h⟩ := v_ckS h
              exact V.zret (pc := 96) hO (v_z01 hb) dX3_takesKind_96 (v_finI h)
            · rw [if_neg c] at h
              refine V.iconst (pc := 91) (v := 1) hK (by decide) dX3_takesKind_91 ?_
              refine V.goto (pc := 92) (tgt := 96) hK dX3_takesKind_92 (by decide) ?_
              obtain ⟨hb, h⟩ := v_ckS h
              exact V.zret (pc := 96) hO (v_z01 hb) dX3_takesKind_96 (v_finI h)
          · rw [if_pos c] at h
            refine V.aload_n (pc := 63) (i := 0) hK rfl ⟨_, rfl⟩ dX3_takesKind_63 ?_
            refine V.getR (pc := 64) hK fl_RX3_15 rfl (hL.1 1 _ ls_1) (hL.2 1 1 2 rfl) dX3_takesKind_64 ?_
            refine V.iload_n (pc := 67) (i := 2) hK rfl dX3_takesKind_67 ?_
            obtain ⟨hb, h⟩ := v_ckS h
            refine V.iald (pc := 68) hK (hL.1 2 _ ls_2) (v_ibS hb) dX3_takesKind_68 ?_
            refine V.iconst (pc := 69) (v := 2) hK (by decide) dX3_takesKind_69 ?_
            refine V.icmp_ne (pc := 70) (tgt := 77) hK dX3_takesKind_70 (by decide) (fun c => ?_) (fun c => ?_)
            · rw [if_neg c] at h
              refine V.iconst (pc := 77) (v := 0) hK (by decide) dX3_takesKind_77 ?_
              refine V.goto (pc := 78) (tgt := 96) hK dX3_takesKind_78 (by decide) ?_
              obtain ⟨hb, h⟩ := v_ckS h
              exact V.zret (pc := 96) hO (v_z01 hb) dX3_takesKind_96 (v_finI h)
            · rw [if_pos c] at h
              refine V.iconst (pc := 73) (v := 1) hK (by decide) dX3_takesKind_73 ?_
              refine V.goto (pc := 74) (tgt := 96) hK dX3_takesKind_74 (by decide) ?_
              obtain ⟨hb, h⟩ := v_ckS h
              exact V.zret (pc := 96) hO (v_z01 hb) dX3_takesKind_96 (v_finI h)
        · rw [if_pos c] at h
          refine V.iconst (pc := 56) (v := 0) hK (by decide) dX3_takesKind_56 ?_
          obtain ⟨hb, h⟩ := v_ckS h
          exact V.zret (pc := 57) hO (v_z01 hb) dX3_takesKind_57 (v_finI h)
    · rw [if_pos c] at h
      refine V.iload_n (pc := 18) (i := 1) hK rfl dX3_takesKind_18 ?_
      refine V.if_ne (pc := 19) (tgt := 31) hK dX3_takesKind_19 (by decide) (fun c => ?_) (fun c => ?_)
      · rw [if_neg c] at h
        refine V.iconst (pc := 31) (v := 0) hK (by decide) dX3_takesKind_31 ?_
        obtain ⟨hb, h⟩ := v_ckS h
        exact V.zret (pc := 32) hO (v_z01 hb) dX3_takesKind_32 (v_finI h)
      · rw [if_pos c] at h
        refine V.iload_n (pc := 22) (i := 2) hK rfl dX3_takesKind_22 ?_
        refine V.iconst (pc := 23) (v := -1) hK (by decide) dX3_takesKind_23 ?_
        refine V.icmp_ne (pc := 24) (tgt := 31) hK dX3_takesKind_24 (by decide) (fun c => ?_) (fun c => ?_)
        · rw [if_neg c] at h
          refine V.iconst (pc := 31) (v := 0) hK (by decide) dX3_takesKind_31 ?_
          obtain ⟨hb, h⟩ := v_ckS h
          exact V.zret (pc := 32) hO (v_z01 hb) dX3_takesKind_32 (v_finI h)
        · rw [if_pos c] at h
          refine V.iconst (pc := 27) (v := 1) hK (by decide) dX3_takesKind_27 ?_
          refine V.goto (pc := 28) (tgt := 32) hK dX3_takesKind_28 (by decide) ?_
          obtain ⟨hb, h⟩ := v_ckS h
          exact V.zret (pc := 32) hO (v_z01 hb) dX3_takesKind_32 (v_finI h)
  · rw [if_neg c] at h
    refine V.iconst (pc := 9) (v := 0) hK (by decide) dX3_takesKind_9 ?_
    obtain ⟨hb, h⟩ := v_ckS h
    exact V.zret (pc := 10) hO (v_z01 hb) dX3_takesKind_10 (v_finI h)
set_option maxHeartbeats 4000000 in
set_option maxRecDepth 100000 in
theorem c_X4_letGo (E : v_E) {sh : v_S} {P : v_P} (hL : v_Lay sh P) (N : Nat) (q0 : Nat) (hq0 : v_Fl sh P q0) (x1 : Int32) (M : v_M) {out : Int32 × v_M} (h : f_X4_letGo N q0 x1 M = some out) : v_Ct E 2 yX4_letGo cX4_letGo 2 none 0 0 [v_rf E q0, .int x1] sh P M (v_Q1 (none) sh P out.2) := by
  refine v_Ct.of (by decide +kernel) (Nat.le_of_ble_eq_true rfl) (fun X hO => ?_)
  have hK : v_K E X cX4_letGo RX4 2 2 := hO.1
  have hO : v_O E X cX4_letGo RX4 2 2 none "letGo" (v_Q1 (none) sh P out.2) := hO
  show V E X (0, 0) 0 [(0, v_rf E q0), (1, .int x1)] [] sh P M
  unfold f_X4_letGo at h
  refine V.iload_n (pc := 0) (i := 1) hK rfl dX4_letGo_0 ?_
  refine V.iconst (pc := 1) (v := 0) hK (by decide) dX4_letGo_1 ?_
  refine V.aload_n (pc := 2) (i := 0) hK rfl ⟨_, rfl⟩ dX4_letGo_2 ?_
  refine V.getI (pc := 3) hK fl_RX4_9 rfl (hq0.1 0 _ rfl) dX4_letGo_3 ?_
  refine V.iconst (pc := 6) (v := 1) hK (by decide) dX4_letGo_6 ?_
  refine V.isub (pc := 7) hK dX4_letGo_7 ?_
  obtain ⟨z1, hz1, h⟩ := v_bdS h
  refine V.cSN (pc := 8) hK (c_X11_within E hL N _ _ _ _ hz1) Y_X11_within cn_RX4_34 dX4_letGo_8 (by decide) rfl (Nat.le_of_ble_eq_true rfl) ?_
  refine V.if_eq (pc := 11) (tgt := 34) hK dX4_letGo_11 (by decide) (fun c => ?_) (fun c => ?_)
  · rw [if_pos c] at h
    exact V.vret (pc := 34) hO dX4_letGo_34 (v_finV h)
  · rw [if_neg c] at h
    refine V.aload_n (pc := 14) (i := 0) hK rfl ⟨_, rfl⟩ dX4_letGo_14 ?_
    refine V.getR (pc := 15) hK fl_RX4_25 rfl (hq0.1 0 _ rfl) (hq0.2 4 4 rfl) dX4_letGo_15 ?_
    refine V.iload_n (pc := 18) (i := 1) hK rfl dX4_letGo_18 ?_
    refine V.iconst (pc := 19) (v := 0) hK (by decide) dX4_letGo_19 ?_
    obtain ⟨z2, hz2, h⟩ := v_bdS h
    refine V.cS (pc := 20) hK (c_X4_spot E hL N _ _ _ hz2) Y_X4_spot cs_RX4_38 dX4_letGo_20 (by decide) rfl (Nat.le_of_ble_eq_true rfl) ?_
    refine V.iload_n (pc := 23) (i := 1) hK rfl dX4_letGo_23 ?_
    refine V.iconst (pc := 24) (v := 1) hK (by decide) dX4_letGo_24 ?_
    refine V.iadd (pc := 25) hK dX4_letGo_25 ?_
    refine V.iconst (pc := 26) (v := 0) hK (by decide) dX4_letGo_26 ?_
    obtain ⟨z3, hz3, h⟩ := v_bdS h
    refine V.cS (pc := 27) hK (c_X4_spot E hL N _ _ _ hz3) Y_X4_spot cs_RX4_38 dX4_letGo_27 (by decide) rfl (Nat.le_of_ble_eq_true rfl) ?_
    refine V.iconst (pc := 30) (v := 0) hK (by decide) dX4_letGo_30 ?_
    obtain ⟨z4, hz4, h⟩ := v_bdS h
    refine V.cSv (pc := 31) hK (c_J7_fill_fda19 E hL N _ _ (hq0.1 4 _ rfl) _ _ _ _ hz4) Y_J7_fill_fda19 cs_RX4_42 dX4_letGo_31 (by decide) rfl (Nat.le_of_ble_eq_true rfl) ?_
    exact V.vret (pc := 34) hO dX4_letGo_34 (v_finV h)
set_option maxHeartbeats 4000000 in
set_option maxRecDepth 100000 in
theorem c_X4_hasTaken (E : v_E) {sh : v_S} {P : v_P} (hL : v_Lay sh P) (N : Nat) (q0 : Nat) (hq0 : v_Fl sh P q0) (x1 : Int32) (x2 : Int32) (M : v_M) {out : Int32 × v_M} (h : f_X4_hasTaken N q0 x1 x2 M = some out) : v_Ct E 1 yX4_hasTaken cX4_hasTaken 3 (some .boolean) 0 0 [v_rf E q0, .int x1, .int x2] sh P M (v_Q1 (some (.int out.1)) sh P out.2) := by
  refine v_Ct.of (by decide +kernel) (Nat.le_of_ble_eq_true rfl) (fun X hO => ?_)
  have hK : v_K E X cX4_hasTaken RX4 3 1 := hO.1
  have hO : v_O E X cX4_hasTaken RX4 3 1 (some .boolean) "hasTaken" (v_Q1 (some (.int out.1)) sh P out.2) := hO
  show V E X (0, 0) 0 [(0, v_rf E q0), (1, .int x1), (2, .int x2)] [] sh P M
  unfold f_X4_hasTaken at h
  refine V.iload_n (pc := 0) (i := 1) hK rfl dX4_hasTaken_0 ?_
  refine V.iconst (pc := 1) (v := 0) hK (by decide) dX4_hasTaken_1 ?_
  refine V.aload_n (pc := 2) (i := 0) hK rfl ⟨_, rfl⟩ dX4_hasTaken_2 ?_
  refine V.getI (pc := 3) hK fl_RX4_9 rfl (hq0.1 0 _ rfl) dX4_hasTaken_3 ?_
  refine V.iconst (pc := 6) (v := 1) hK (by decide) dX4_hasTaken_6 ?_
  refine V.isub (pc := 7) hK dX4_hasTaken_7 ?_
  obtain ⟨z1, hz1, h⟩ := v_bdS h
  refine V.cSN (pc := 8) hK (c_X11_within E hL N _ _ _ _ hz1) Y_X11_within cn_RX4_34 dX4_hasTaken_8 (by decide) rfl (Nat.le_of_ble_eq_true rfl) ?_
  refine V.if_eq (pc := 11) (tgt := 32) hK dX4_hasTaken_11 (by decide) (fun c => ?_) (fun c => ?_)
  · rw [if_pos c] at h
    refine V.iconst (pc := 32) (v := 0) hK (by decide) dX4_hasTaken_32 ?_
    obtain ⟨hb, h⟩ := v_ckS h
    exact V.zret (pc := 33) hO (v_z01 hb) dX4_hasTaken_33 (v_finI h)
  · rw [if_neg c] at h
    refine V.aload_n (pc := 14) (i := 0) hK rfl ⟨_, rfl⟩ dX4_hasTaken_14 ?_
    refine V.getR (pc := 15) hK fl_RX4_31 rfl (hq0.1 0 _ rfl) (hq0.2 6 6 rfl) dX4_hasTaken_15 ?_
    refine V.iload_n (pc := 18) (i := 1) hK rfl dX4_hasTaken_18 ?_
    obtain ⟨hb, h⟩ := v_ckS h
    refine V.iald (pc := 19) hK (hq0.1 6 _ rfl) (v_ibS hb) dX4_hasTaken_19 ?_
    refine V.iload_n (pc := 20) (i := 2) hK rfl dX4_hasTaken_20 ?_
    refine V.ishr (pc := 21) hK dX4_hasTaken_21 ?_
    refine V.iconst (pc := 22) (v := 1) hK (by decide) dX4_hasTaken_22 ?_
    refine V.iand (pc := 23) hK dX4_hasTaken_23 ?_
    refine V.iconst (pc := 24) (v := 1) hK (by decide) dX4_hasTaken_24 ?_
    refine V.icmp_ne (pc := 25) (tgt := 32) hK dX4_hasTaken_25 (by decide) (fun c => ?_) (fun c => ?_)
    · rw [if_neg c] at h
      refine V.iconst (pc := 32) (v := 0) hK (by decide) dX4_hasTaken_32 ?_
      obtain ⟨hb, h⟩ := v_ckS h
      exact V.zret (pc := 33) hO (v_z01 hb) dX4_hasTaken_33 (v_finI h)
    · rw [if_pos c] at h
      refine V.iconst (pc := 28) (v := 1) hK (by decide) dX4_hasTaken_28 ?_
      refine V.goto (pc := 29) (tgt := 33) hK dX4_hasTaken_29 (by decide) ?_
      obtain ⟨hb, h⟩ := v_ckS h
      exact V.zret (pc := 33) hO (v_z01 hb) dX4_hasTaken_33 (v_finI h)
set_option maxHeartbeats 4000000 in
set_option maxRecDepth 100000 in
theorem w_X4_addFlights_L99 {E : v_E} {X : v_X} {sh : v_S} {P : v_P} {out : Int32 × v_M} (hL : v_Lay sh P) (q0 : Nat) (hq0 : v_Fl sh P q0) (hO : v_O E X cX4_addFlights RX4 9 1 none "addFlights" (v_Q1 (none) sh P out.2)) (N : Nat) (k37 : Int32 → Int32 → Int32 → Int32 → v_M → Option (Int32 × v_M)) (hk37 : ∀ (x2 : Int32) (x4 : Int32) (x5 : Int32) (x6 : Int32) (M : v_M), k37 x2 x4 x5 x6 M = some out → V E X (0, 0) 37 [(0, v_rf E q0), (1, v_rf E 1), (2, .int x2), (4, .int x4), (5, .int x5), (6, .int x6)] [] sh P M) (x2 : Int32) (x4 : Int32) (x5 : Int32) (x6 : Int32) (M : v_M) (h : f_X4_addFlights_L99 N q0 k37 x2 x4 x5 x6 M = some out) : V E X (0, 0) 99 [(0, v_rf E q0), (1, v_rf E 1), (2, .int x2), (4, .int x4), (5, .int x5), (6, .int x6)] [] sh P M := by
  have hK := hO.1
  unfold f_X4_addFlights_L99 at h
  refine V.iinc (pc := 99) (i := 6) (v := 1) (lv' := [(0, _), (1, _), (2, _), (4, _), (5, _), (6, _)]) hK rfl (by decide) (by decide) rfl dX4_addFlights_99 ?_
  refine V.goto (pc := 102) (tgt := 37) hK dX4_addFlights_102 (by decide) ?_
  refine V.pick [0, 1, 2, 4, 5, 6] (l := [(0, _), (1, _), (2, _), (4, _), (5, _), (6, _)]) rfl ?_
  exact hk37 _ _ _ _ _ h
set_option maxHeartbeats 4000000 in
set_option maxRecDepth 100000 in
theorem w_X4_addFlights_L37 {E : v_E} {X : v_X} {sh : v_S} {P : v_P} {out : Int32 × v_M} (hL : v_Lay sh P) (q0 : Nat) (hq0 : v_Fl sh P q0) (hO : v_O E X cX4_addFlights RX4 9 1 none "addFlights" (v_Q1 (none) sh P out.2)) (N : Nat) (n : Nat) : ∀ (x2 : Int32) (x4 : Int32) (x5 : Int32) (x6 : Int32) (M : v_M), f_X4_addFlights_L37 N q0 n x2 x4 x5 x6 M = some out → V E X (0, 0) 37 [(0, v_rf E q0), (1, v_rf E 1), (2, .int x2), (4, .int x4), (5, .int x5), (6, .int x6)] [] sh P M := by
  have hK := hO.1
  induction n with
  | zero => intro x2 x4 x5 x6 M h; rw [f_X4_addFlights_L37] at h; cases h
  | succ n ih =>
    intro x2 x4 x5 x6 M h
    rw [f_X4_addFlights_L37] at h
    refine V.iload (pc := 37) (i := 6) hK rfl dX4_addFlights_37 ?_
    refine V.aload_n (pc := 39) (i := 1) hK rfl ⟨_, rfl⟩ dX4_addFlights_39 ?_
    refine V.getI (pc := 40) hK fl_RX4_54 rfl (hL.1 1 _ ls_1) dX4_addFlights_40 ?_
    refine V.icmp_ge (pc := 43) (tgt := 105) hK dX4_addFlights_43 (by decide) (fun c => ?_) (fun c => ?_)
    · rw [if_pos c] at h
      refine V.aload_n (pc := 105) (i := 0) hK rfl ⟨_, rfl⟩ dX4_addFlights_105 ?_
      refine V.getR (pc := 106) hK fl_RX4_28 rfl (hq0.1 0 _ rfl) (hq0.2 5 5 rfl) dX4_addFlights_106 ?_
      refine V.iload_n (pc := 109) (i := 2) hK rfl dX4_addFlights_109 ?_
      refine V.iload (pc := 110) (i := 5) hK rfl dX4_addFlights_110 ?_
      obtain ⟨hb, h⟩ := v_ckS h
      refine V.iast (pc := 112) hK (hq0.1 5 _ rfl) (v_ibS hb) dX4_addFlights_112 ?_
      refine V.nmM (fun M1 eM1 => ?_)
      have h := v_lt eM1 h
      exact V.vret (pc := 113) hO dX4_addFlights_113 (v_finV h)
    · rw [if_neg c] at h
      refine V.aload_n (pc := 46) (i := 1) hK rfl ⟨_, rfl⟩ dX4_addFlights_46 ?_
      refine V.getR (pc := 47) hK fl_RX4_57 rfl (hL.1 1 _ ls_1) (hL.2 1 9 10 rfl) dX4_addFlights_47 ?_
      refine V.iload (pc := 50) (i := 6) hK rfl dX4_addFlights_50 ?_
      obtain ⟨hb, h⟩ := v_ckS h
      refine V.iald (pc := 52) hK (hL.1 10 _ ls_10) (v_ibS hb) dX4_addFlights_52 ?_
      refine V.topi (fun y2 ey2 => ?_)
      have h := v_lt ey2 h
      refine V.istore (pc := 53) (i := 7) (lv' := [(0, _), (1, _), (2, _), (4, _), (5, _), (6, _), (7, _)]) hK (by decide) rfl dX4_addFlights_53 ?_
      refine V.iload (pc := 55) (i := 7) hK rfl dX4_addFlights_55 ?_
      refine V.if_le (pc := 57) (tgt := 99) hK dX4_addFlights_57 (by decide) (fun c => ?_) (fun c => ?_)
      · rw [if_pos c] at h
        refine V.pick [0, 1, 2, 4, 5, 6] (l := [(0, _), (1, _), (2, _), (4, _), (5, _), (6, _)]) rfl ?_
        exact w_X4_addFlights_L99 hL q0 hq0 hO N _ ih _ _ _ _ _ h
      · rw [if_neg c] at h
        refine V.iload_n (pc := 60) (i := 2) hK rfl dX4_addFlights_60 ?_
        refine V.iload (pc := 61) (i := 6) hK rfl dX4_addFlights_61 ?_
        obtain ⟨z3, hz3, h⟩ := v_bdS h
        refine V.cS (pc := 63) hK (c_X4_spot E hL N _ _ _ hz3) Y_X4_spot cs_RX4_38 dX4_addFlights_63 (by decide) rfl (Nat.le_of_ble_eq_true rfl) ?_
        refine V.topi (fun y4 ey4 => ?_)
        have h := v_lt ey4 h
        refine V.istore (pc := 66) (i := 8) (lv' := [(0, _), (1, _), (2, _), (4, _), (5, _), (6, _), (7, _), (8, _)]) hK (by decide) rfl dX4_addFlights_66 ?_
        refine V.aload_n (pc := 68) (i := 0) hK rfl ⟨_, rfl⟩ dX4_addFlights_68 ?_
        refine V.getR (pc := 69) hK fl_RX4_15 rfl (hq0.1 0 _ rfl) (hq0.2 1 1 rfl) dX4_addFlights_69 ?_
        refine V.iload (pc := 72) (i := 8) hK rfl dX4_addFlights_72 ?_
        refine V.bipush (pc := 74) (v := 99) hK (by decide) dX4_addFlights_74 ?_
        refine V.aload_n (pc := 76) (i := 0) hK rfl ⟨_, rfl⟩ dX4_addFlights_76 ?_
        refine V.getR (pc := 77) hK fl_RX4_15 rfl (hq0.1 0 _ rfl) (hq0.2 1 1 rfl) dX4_addFlights_77 ?_
        refine V.iload (pc := 80) (i := 8) hK rfl dX4_addFlights_80 ?_
        obtain ⟨hb, h⟩ := v_ckS h
        refine V.iald (pc := 82) hK (hq0.1 1 _ rfl) (v_ibS hb) dX4_addFlights_82 ?_
        refine V.iload (pc := 83) (i := 5) hK rfl dX4_addFlights_83 ?_
        refine V.iload (pc := 85) (i := 7) hK rfl dX4_addFlights_85 ?_
        obtain ⟨hb, h⟩ := v_ckS h
        refine V.idiv (pc := 87) hK (v_nzS hb) dX4_addFlights_87 ?_
        refine V.iadd (pc := 88) hK dX4_addFlights_88 ?_
        refine V.iload (pc := 89) (i := 4) hK rfl dX4_addFlights_89 ?_
        refine V.iload (pc := 91) (i := 7) hK rfl dX4_addFlights_91 ?_
        obtain ⟨hb, h⟩ := v_ckS h
        refine V.idiv (pc := 93) hK (v_nzS hb) dX4_addFlights_93 ?_
        refine V.isub (pc := 94) hK dX4_addFlights_94 ?_
        refine V.mmin (pc := 95) hK tw_1067 tw_mmins tw_mi tw_mminc dX4_addFlights_95 (by decide) (Nat.le_of_ble_eq_true rfl) ?_
        obtain ⟨hb, h⟩ := v_ckS h
        refine V.iast (pc := 98) hK (hq0.1 1 _ rfl) (v_ibS hb) dX4_addFlights_98 ?_
        refine V.nmM (fun M5 eM5 => ?_)
        have h := v_lt eM5 h
        refine V.pick [0, 1, 2, 4, 5, 6] (l := [(0, _), (1, _), (2, _), (4, _), (5, _), (6, _)]) rfl ?_
        exact w_X4_addFlights_L99 hL q0 hq0 hO N _ ih _ _ _ _ _ h
set_option maxHeartbeats 4000000 in
set_option maxRecDepth 100000 in
theorem c_X4_addFlights (E : v_E) {sh : v_S} {P : v_P} (hL : v_Lay sh P) (N : Nat) (q0 : Nat) (hq0 : v_Fl sh P q0) (x2 : Int32) (x3 : Int32) (M : v_M) {out : Int32 × v_M} (h : f_X4_addFlights N q0 x2 x3 M = some out) : v_Ct E 1 yX4_addFlights cX4_addFlights 9 none 0 0 [v_rf E q0, v_rf E 1, .int x2, .int x3] sh P M (v_Q1 (none) sh P out.2) := by
  refine v_Ct.of (by decide +kernel) (Nat.le_of_ble_eq_true rfl) (fun X hO => ?_)
  have hK : v_K E X cX4_addFlights RX4 9 1 := hO.1
  have hO : v_O E X cX4_addFlights RX4 9 1 none "addFlights" (v_Q1 (none) sh P out.2) := hO
  show V E X (0, 0) 0 [(0, v_rf E q0), (1, v_rf E 1), (2, .int x2), (3, .int x3)] [] sh P M
  unfold f_X4_addFlights at h
  refine V.iload_n (pc := 0) (i := 2) hK rfl dX4_addFlights_0 ?_
  refine V.iconst (pc := 1) (v := 0) hK (by decide) dX4_addFlights_1 ?_
  refine V.aload_n (pc := 2) (i := 0) hK rfl ⟨_, rfl⟩ dX4_addFlights_2 ?_
  refine V.getI (pc := 3) hK fl_RX4_9 rfl (hq0.1 0 _ rfl) dX4_addFlights_3 ?_
  refine V.iconst (pc := 6) (v := 1) hK (by decide) dX4_addFlights_6 ?_
  refine V.isub (pc := 7) hK dX4_addFlights_7 ?_
  obtain ⟨z1, hz1, h⟩ := v_bdS h
  refine V.cSN (pc := 8) hK (c_X11_within E hL N _ _ _ _ hz1) Y_X11_within cn_RX4_34 dX4_addFlights_8 (by decide) rfl (Nat.le_of_ble_eq_true rfl) ?_
  refine V.if_ne (pc := 11) (tgt := 15) hK dX4_addFlights_11 (by decide) (fun c => ?_) (fun c => ?_)
  · rw [if_neg c] at h
    refine V.aload_n (pc := 15) (i := 0) hK rfl ⟨_, rfl⟩ dX4_addFlights_15 ?_
    refine V.getR (pc := 16) hK fl_RX4_28 rfl (hq0.1 0 _ rfl) (hq0.2 5 5 rfl) dX4_addFlights_16 ?_
    refine V.iload_n (pc := 19) (i := 2) hK rfl dX4_addFlights_19 ?_
    obtain ⟨hb, h⟩ := v_ckS h
    refine V.iald (pc := 20) hK (hq0.1 5 _ rfl) (v_ibS hb) dX4_addFlights_20 ?_
    refine V.topi (fun y2 ey2 => ?_)
    have h := v_lt ey2 h
    refine V.istore (pc := 21) (i := 4) (lv' := [(0, _), (1, _), (2, _), (3, _), (4, _)]) hK (by decide) rfl dX4_addFlights_21 ?_
    refine V.iload (pc := 23) (i := 4) hK rfl dX4_addFlights_23 ?_
    refine V.iload_n (pc := 25) (i := 3) hK rfl dX4_addFlights_25 ?_
    refine V.iadd (pc := 26) hK dX4_addFlights_26 ?_
    refine V.ldc (pc := 27) hK tw_1066 dX4_addFlights_27 ?_
    refine V.mmin (pc := 29) hK tw_1067 tw_mmins tw_mi tw_mminc dX4_addFlights_29 (by decide) (Nat.le_of_ble_eq_true rfl) ?_
    refine V.topi (fun y3 ey3 => ?_)
    have h := v_lt ey3 h
    refine V.istore (pc := 32) (i := 5) (lv' := [(0, _), (1, _), (2, _), (3, _), (4, _), (5, _)]) hK (by decide) rfl dX4_addFlights_32 ?_
    refine V.iconst (pc := 34) (v := 0) hK (by decide) dX4_addFlights_34 ?_
    refine V.istore (pc := 35) (i := 6) (lv' := [(0, _), (1, _), (2, _), (3, _), (4, _), (5, _), (6, _)]) hK (by decide) rfl dX4_addFlights_35 ?_
    refine V.pick [0, 1, 2, 4, 5, 6] (l := [(0, _), (1, _), (2, _), (4, _), (5, _), (6, _)]) rfl ?_
    exact w_X4_addFlights_L37 hL q0 hq0 hO N N _ _ _ _ _ h
  · rw [if_pos c] at h
    exact V.vret (pc := 14) hO dX4_addFlights_14 (v_finV h)
set_option maxHeartbeats 4000000 in
set_option maxRecDepth 100000 in
theorem w_X4_sumOf_L43 {E : v_E} {X : v_X} {sh : v_S} {P : v_P} {out : Int32 × v_M} (hL : v_Lay sh P) (q0 : Nat) (hq0 : v_Fl sh P q0) (r1 n1 : Nat) (hr1 : sh[r1]? = some (1, n1)) (hO : v_O E X cX4_sumOf RX4 5 1 (some .int) "sumOf" (v_Q1 (some (.int out.1)) sh P out.2)) (N : Nat) (k9 : Int32 → Int32 → Int32 → v_M → Option (Int32 × v_M)) (hk9 : ∀ (x2 : Int32) (x3 : Int32) (x4 : Int32) (M : v_M), k9 x2 x3 x4 M = some out → V E X (0, 0) 9 [(1, v_rf E r1), (2, .int x2), (3, .int x3), (4, .int x4)] [] sh P M) (x2 : Int32) (x4 : Int32) (t0 : Int32) (t1 : Int32) (M : v_M) (h : f_X4_sumOf_L43 N q0 r1 n1 k9 x2 x4 t0 t1 M = some out) : V E X (0, 0) 43 [(1, v_rf E r1), (2, .int x2), (4, .int x4)] [.int t0, .int t1] sh P M := by
  have hK := hO.1
  unfold f_X4_sumOf_L43 at h
  refine V.iadd (pc := 43) hK dX4_sumOf_43 ?_
  refine V.topi (fun y1 ey1 => ?_)
  have h := v_lt ey1 h
  refine V.istore_n (pc := 44) (i := 3) (lv' := [(1, _), (2, _), (3, _), (4, _)]) hK (by decide) rfl dX4_sumOf_44 ?_
  refine V.iinc (pc := 45) (i := 4) (v := 1) (lv' := [(1, _), (2, _), (3, _), (4, _)]) hK rfl (by decide) (by decide) rfl dX4_sumOf_45 ?_
  refine V.goto (pc := 48) (tgt := 9) hK dX4_sumOf_48 (by decide) ?_
  refine V.pick [1, 2, 3, 4] (l := [(1, _), (2, _), (3, _), (4, _)]) rfl ?_
  exact hk9 _ _ _ _ h
set_option maxHeartbeats 4000000 in
set_option maxRecDepth 100000 in
theorem w_X4_sumOf_L9 {E : v_E} {X : v_X} {sh : v_S} {P : v_P} {out : Int32 × v_M} (hL : v_Lay sh P) (q0 : Nat) (hq0 : v_Fl sh P q0) (r1 n1 : Nat) (hr1 : sh[r1]? = some (1, n1)) (hO : v_O E X cX4_sumOf RX4 5 1 (some .int) "sumOf" (v_Q1 (some (.int out.1)) sh P out.2)) (N : Nat) (n : Nat) : ∀ (x2 : Int32) (x3 : Int32) (x4 : Int32) (M : v_M), f_X4_sumOf_L9 N q0 r1 n1 n x2 x3 x4 M = some out → V E X (0, 0) 9 [(1, v_rf E r1), (2, .int x2), (3, .int x3), (4, .int x4)] [] sh P M := by
  have hK := hO.1
  induction n with
  | zero => intro x2 x3 x4 M h; rw [f_X4_sumOf_L9] at h; cases h
  | succ n ih =>
    intro x2 x3 x4 M h
    rw [f_X4_sumOf_L9] at h
    refine V.iload (pc := 9) (i := 4) hK rfl dX4_sumOf_9 ?_
    refine V.iload_n (pc := 11) (i := 2) hK rfl dX4_sumOf_11 ?_
    refine V.iconst (pc := 12) (v := 1) hK (by decide) dX4_sumOf_12 ?_
    refine V.iadd (pc := 13) hK dX4_sumOf_13 ?_
    refine V.iconst (pc := 14) (v := 0) hK (by decide) dX4_sumOf_14 ?_
    obtain ⟨z1, hz1, h⟩ := v_bdS h
    refine V.cS (pc := 15) hK (c_X4_spot E hL N _ _ _ hz1) Y_X4_spot cs_RX4_38 dX4_sumOf_15 (by decide) rfl (Nat.le_of_ble_eq_true rfl) ?_
    refine V.icmp_ge (pc := 18) (tgt := 51) hK dX4_sumOf_18 (by decide) (fun c => ?_) (fun c => ?_)
    · rw [if_pos c] at h
      refine V.iload_n (pc := 51) (i := 3) hK rfl dX4_sumOf_51 ?_
      exact V.iret (pc := 52) hO dX4_sumOf_52 (v_finI h)
    · rw [if_neg c] at h
      refine V.iload_n (pc := 21) (i := 3) hK rfl dX4_sumOf_21 ?_
      refine V.iload (pc := 22) (i := 4) hK rfl dX4_sumOf_22 ?_
      refine V.iconst (pc := 24) (v := 0) hK (by decide) dX4_sumOf_24 ?_
      refine V.aload_n (pc := 25) (i := 1) hK rfl ⟨_, rfl⟩ dX4_sumOf_25 ?_
      refine V.alen (pc := 26) hK hr1 (by decide) rfl dX4_sumOf_26 ?_
      refine V.iconst (pc := 27) (v := 1) hK (by decide) dX4_sumOf_27 ?_
      refine V.isub (pc := 28) hK dX4_sumOf_28 ?_
      obtain ⟨z2, hz2, h⟩ := v_bdS h
      refine V.cSN (pc := 29) hK (c_X11_within E hL N _ _ _ _ hz2) Y_X11_within cn_RX4_34 dX4_sumOf_29 (by decide) rfl (Nat.le_of_ble_eq_true rfl) ?_
      refine V.if_eq (pc := 32) (tgt := 42) hK dX4_sumOf_32 (by decide) (fun c => ?_) (fun c => ?_)
      · rw [if_pos c] at h
        refine V.iconst (pc := 42) (v := 0) hK (by decide) dX4_sumOf_42 ?_
        refine V.pick [1, 2, 4] (l := [(1, _), (2, _), (4, _)]) rfl ?_
        exact w_X4_sumOf_L43 hL q0 hq0 r1 n1 hr1 hO N _ ih _ _ _ _ _ h
      · rw [if_neg c] at h
        refine V.aload_n (pc := 35) (i := 1) hK rfl ⟨_, rfl⟩ dX4_sumOf_35 ?_
        refine V.iload (pc := 36) (i := 4) hK rfl dX4_sumOf_36 ?_
        obtain ⟨hb, h⟩ := v_ckS h
        refine V.iald (pc := 38) hK hr1 (v_ibS hb) dX4_sumOf_38 ?_
        refine V.goto (pc := 39) (tgt := 43) hK dX4_sumOf_39 (by decide) ?_
        refine V.pick [1, 2, 4] (l := [(1, _), (2, _), (4, _)]) rfl ?_
        exact w_X4_sumOf_L43 hL q0 hq0 r1 n1 hr1 hO N _ ih _ _ _ _ _ h
set_option maxHeartbeats 4000000 in
set_option maxRecDepth 100000 in
theorem c_X4_sumOf (E : v_E) {sh : v_S} {P : v_P} (hL : v_Lay sh P) (N : Nat) (q0 : Nat) (hq0 : v_Fl sh P q0) (r1 n1 : Nat) (hr1 : sh[r1]? = some (1, n1)) (x2 : Int32) (M : v_M) {out : Int32 × v_M} (h : f_X4_sumOf N q0 r1 n1 x2 M = some out) : v_Ct E 1 yX4_sumOf cX4_sumOf 5 (some .int) 0 0 [v_rf E q0, v_rf E r1, .int x2] sh P M (v_Q1 (some (.int out.1)) sh P out.2) := by
  refine v_Ct.of (by decide +kernel) (Nat.le_of_ble_eq_true rfl) (fun X hO => ?_)
  have hK : v_K E X cX4_sumOf RX4 5 1 := hO.1
  have hO : v_O E X cX4_sumOf RX4 5 1 (some .int) "sumOf" (v_Q1 (some (.int out.1)) sh P out.2) := hO
  show V E X (0, 0) 0 [(0, v_rf E q0), (1, v_rf E r1), (2, .int x2)] [] sh P M
  unfold f_X4_sumOf at h
  refine V.iconst (pc := 0) (v := 0) hK (by decide) dX4_sumOf_0 ?_
  refine V.istore_n (pc := 1) (i := 3) (lv' := [(0, _), (1, _), (2, _), (3, _)]) hK (by decide) rfl dX4_sumOf_1 ?_
  refine V.iload_n (pc := 2) (i := 2) hK rfl dX4_sumOf_2 ?_
  refine V.iconst (pc := 3) (v := 0) hK (by decide) dX4_sumOf_3 ?_
  obtain ⟨z1, hz1, h⟩ := v_bdS h
  refine V.cS (pc := 4) hK (c_X4_spot E hL N _ _ _ hz1) Y_X4_spot cs_RX4_38 dX4_sumOf_4 (by decide) rfl (Nat.le_of_ble_eq_true rfl) ?_
  refine V.topi (fun y2 ey2 => ?_)
  have h := v_lt ey2 h
  refine V.istore (pc := 7) (i := 4) (lv' := [(0, _), (1, _), (2, _), (3, _), (4, _)]) hK (by decide) rfl dX4_sumOf_7 ?_
  refine V.pick [1, 2, 3, 4] (l := [(1, _), (2, _), (3, _), (4, _)]) rfl ?_
  exact w_X4_sumOf_L9 hL q0 hq0 r1 n1 hr1 hO N N _ _ _ _ h
