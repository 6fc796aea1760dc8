set_option maxHeartbeats 4000000 in
set_option maxRecDepth 100000 in
theorem w_X12_doneOf_L35 {E : v_E} {X : v_X} {sh : v_S} {P : v_P} {out : Int32 × v_M} (hL : v_Lay sh P) (hO : v_O E X cX12_doneOf RX12 4 0 (some .int) "doneOf" (v_Q1 (some (.int out.1)) sh P out.2)) (N : Nat) (k4 : Int32 → Int32 → Int32 → v_M → Option (Int32 × v_M)) (hk4 : ∀ (x1 : Int32) (x2 : Int32) (x3 : Int32) (M : v_M), k4 x1 x2 x3 M = some out → V E X (0, 0) 4 [(0, v_rf E 79), (1, .int x1), (2, .int x2), (3, .int x3)] [] sh P M) (x1 : Int32) (x3 : Int32) (t0 : Int32) (t1 : Int32) (M : v_M) (h : f_X12_doneOf_L35 N k4 x1 x3 t0 t1 M = some out) : V E X (0, 0) 35 [(0, v_rf E 79), (1, .int x1), (3, .int x3)] [.int t0, .int t1] sh P M := by
  have hK := hO.1
  unfold f_X12_doneOf_L35 at h
  refine V.ior (pc := 35) hK dX12_doneOf_35 ?_
  refine V.topi (fun y1 ey1 => ?_)
  have h := v_lt ey1 h
  refine V.istore_n (pc := 36) (i := 2) (lv' := [(0, _), (1, _), (2, _), (3, _)]) hK (by decide) rfl dX12_doneOf_36 ?_
  refine V.iinc (pc := 37) (i := 3) (v := 1) (lv' := [(0, _), (1, _), (2, _), (3, _)]) hK rfl (by decide) (by decide) rfl dX12_doneOf_37 ?_
  refine V.goto (pc := 40) (tgt := 4) hK dX12_doneOf_40 (by decide) ?_
  refine V.pick [0, 1, 2, 3] (l := [(0, _), (1, _), (2, _), (3, _)]) rfl ?_
  exact hk4 _ _ _ _ h
set_option maxHeartbeats 4000000 in
set_option maxRecDepth 100000 in
theorem w_X12_doneOf_L4 {E : v_E} {X : v_X} {sh : v_S} {P : v_P} {out : Int32 × v_M} (hL : v_Lay sh P) (hO : v_O E X cX12_doneOf RX12 4 0 (some .int) "doneOf" (v_Q1 (some (.int out.1)) sh P out.2)) (N : Nat) (n : Nat) : ∀ (x1 : Int32) (x2 : Int32) (x3 : Int32) (M : v_M), f_X12_doneOf_L4 N n x1 x2 x3 M = some out → V E X (0, 0) 4 [(0, v_rf E 79), (1, .int x1), (2, .int x2), (3, .int x3)] [] sh P M := by
  have hK := hO.1
  induction n with
  | zero => intro x1 x2 x3 M h; rw [f_X12_doneOf_L4] at h; cases h
  | succ n ih =>
    intro x1 x2 x3 M h
    rw [f_X12_doneOf_L4] at h
    refine V.iload_n (pc := 4) (i := 3) hK rfl dX12_doneOf_4 ?_
    refine V.aload_n (pc := 5) (i := 0) hK rfl ⟨_, rfl⟩ dX12_doneOf_5 ?_
    refine V.getI (pc := 6) hK fl_RX12_473 rfl (hL.1 79 _ ls_79) dX12_doneOf_6 ?_
    refine V.icmp_ge (pc := 9) (tgt := 43) hK dX12_doneOf_9 (by decide) (fun c => ?_) (fun c => ?_)
    · rw [if_pos c] at h
      refine V.iload_n (pc := 43) (i := 2) hK rfl dX12_doneOf_43 ?_
      exact V.iret (pc := 44) hO dX12_doneOf_44 (v_finI h)
    · rw [if_neg c] at h
      refine V.iload_n (pc := 12) (i := 2) hK rfl dX12_doneOf_12 ?_
      refine V.aload_n (pc := 13) (i := 0) hK rfl ⟨_, rfl⟩ dX12_doneOf_13 ?_
      refine V.getR (pc := 14) hK fl_RX12_138 rfl (hL.1 79 _ ls_79) (hL.2 79 62 122 rfl) dX12_doneOf_14 ?_
      refine V.iload_n (pc := 17) (i := 3) hK rfl dX12_doneOf_17 ?_
      obtain ⟨hb, h⟩ := v_ckS h
      refine V.iald (pc := 18) hK (hL.1 122 _ ls_122) (v_ibS hb) dX12_doneOf_18 ?_
      refine V.iload_n (pc := 19) (i := 1) hK rfl dX12_doneOf_19 ?_
      refine V.icmp_ne (pc := 20) (tgt := 34) hK dX12_doneOf_20 (by decide) (fun c => ?_) (fun c => ?_)
      · rw [if_neg c] at h
        refine V.iconst (pc := 34) (v := 0) hK (by decide) dX12_doneOf_34 ?_
        refine V.pick [0, 1, 3] (l := [(0, _), (1, _), (3, _)]) rfl ?_
        exact w_X12_doneOf_L35 hL hO N _ ih _ _ _ _ _ h
      · rw [if_pos c] at h
        refine V.iconst (pc := 23) (v := 1) hK (by decide) dX12_doneOf_23 ?_
        refine V.aload_n (pc := 24) (i := 0) hK rfl ⟨_, rfl⟩ dX12_doneOf_24 ?_
        refine V.getR (pc := 25) hK fl_RX12_141 rfl (hL.1 79 _ ls_79) (hL.2 79 63 123 rfl) dX12_doneOf_25 ?_
        refine V.iload_n (pc := 28) (i := 3) hK rfl dX12_doneOf_28 ?_
        obtain ⟨hb, h⟩ := v_ckS h
        refine V.iald (pc := 29) hK (hL.1 123 _ ls_123) (v_ibS hb) dX12_doneOf_29 ?_
        refine V.ishl (pc := 30) hK dX12_doneOf_30 ?_
        refine V.goto (pc := 31) (tgt := 35) hK dX12_doneOf_31 (by decide) ?_
        refine V.pick [0, 1, 3] (l := [(0, _), (1, _), (3, _)]) rfl ?_
        exact w_X12_doneOf_L35 hL hO N _ ih _ _ _ _ _ h
set_option maxHeartbeats 4000000 in
set_option maxRecDepth 100000 in
theorem c_X12_doneOf (E : v_E) {sh : v_S} {P : v_P} (hL : v_Lay sh P) (N : Nat) (x1 : Int32) (M : v_M) {out : Int32 × v_M} (h : f_X12_doneOf N x1 M = some out) : v_Ct E 0 yX12_doneOf cX12_doneOf 4 (some .int) 0 0 [v_rf E 79, .int x1] sh P M (v_Q1 (some (.int out.1)) sh P out.2) := by
  refine v_Ct.of (by decide +kernel) (Nat.le_of_ble_eq_true rfl) (fun X hO => ?_)
  have hK : v_K E X cX12_doneOf RX12 4 0 := hO.1
  have hO : v_O E X cX12_doneOf RX12 4 0 (some .int) "doneOf" (v_Q1 (some (.int out.1)) sh P out.2) := hO
  show V E X (0, 0) 0 [(0, v_rf E 79), (1, .int x1)] [] sh P M
  unfold f_X12_doneOf at h
  refine V.iconst (pc := 0) (v := 0) hK (by decide) dX12_doneOf_0 ?_
  refine V.istore_n (pc := 1) (i := 2) (lv' := [(0, _), (1, _), (2, _)]) hK (by decide) rfl dX12_doneOf_1 ?_
  refine V.iconst (pc := 2) (v := 0) hK (by decide) dX12_doneOf_2 ?_
  refine V.istore_n (pc := 3) (i := 3) (lv' := [(0, _), (1, _), (2, _), (3, _)]) hK (by decide) rfl dX12_doneOf_3 ?_
  refine V.pick [0, 1, 2, 3] (l := [(0, _), (1, _), (2, _), (3, _)]) rfl ?_
  exact w_X12_doneOf_L4 hL hO N N _ _ _ _ h
set_option maxHeartbeats 4000000 in
set_option maxRecDepth 100000 in
theorem w_X12_binds__L143 {E : v_E} {X : v_X} {sh : v_S} {P : v_P} {out : Int32 × v_M} (hL : v_Lay sh P) (hO : v_O E X cX12_binds_ RX12 7 3 none "binds" (v_Q1 (none) sh P out.2)) (N : Nat) (l0 : Int64) (M : v_M) (h : f_X12_binds__L143 N l0 M = some out) : V E X (0, 0) 143 [(0, v_rf E 79)] [.long l0] sh P M := by
  have hK := hO.1
  unfold f_X12_binds__L143 at h
  refine V.l2i (pc := 143) hK dX12_binds__143 ?_
  refine V.topi (fun y1 ey1 => ?_)
  have h := v_lt ey1 h
  refine V.istore (pc := 144) (i := 6) (lv' := [(0, _), (6, _)]) hK (by decide) rfl dX12_binds__144 ?_
  refine V.aload_n (pc := 146) (i := 0) hK rfl ⟨_, rfl⟩ dX12_binds__146 ?_
  refine V.iload (pc := 147) (i := 6) hK rfl dX12_binds__147 ?_
  refine V.aload_n (pc := 149) (i := 0) hK rfl ⟨_, rfl⟩ dX12_binds__149 ?_
  refine V.getI (pc := 150) hK fl_RX12_485 rfl (hL.1 79 _ ls_79) dX12_binds__150 ?_
  refine V.icmp_ge (pc := 153) (tgt := 161) hK dX12_binds__153 (by decide) (fun c => ?_) (fun c => ?_)
  · rw [if_pos c] at h
    refine V.aload_n (pc := 161) (i := 0) hK rfl ⟨_, rfl⟩ dX12_binds__161 ?_
    refine V.getI (pc := 162) hK fl_RX12_485 rfl (hL.1 79 _ ls_79) dX12_binds__162 ?_
    refine V.putI (pc := 165) hK fl_RX12_485 rfl rfl ⟨rfl, rfl⟩ (hL.1 79 _ ls_79) dX12_binds__165 ?_
    refine V.nmM (fun M2 eM2 => ?_)
    have h := v_lt eM2 h
    refine V.goto (pc := 168) (tgt := 204) hK dX12_binds__168 (by decide) ?_
    exact V.vret (pc := 204) hO dX12_binds__204 (v_finV h)
  · rw [if_neg c] at h
    refine V.iload (pc := 156) (i := 6) hK rfl dX12_binds__156 ?_
    refine V.goto (pc := 158) (tgt := 165) hK dX12_binds__158 (by decide) ?_
    refine V.putI (pc := 165) hK fl_RX12_485 rfl rfl ⟨rfl, rfl⟩ (hL.1 79 _ ls_79) dX12_binds__165 ?_
    refine V.nmM (fun M3 eM3 => ?_)
    have h := v_lt eM3 h
    refine V.goto (pc := 168) (tgt := 204) hK dX12_binds__168 (by decide) ?_
    exact V.vret (pc := 204) hO dX12_binds__204 (v_finV h)
set_option maxHeartbeats 4000000 in
set_option maxRecDepth 100000 in
theorem w_X12_binds__L79 {E : v_E} {X : v_X} {sh : v_S} {P : v_P} {out : Int32 × v_M} (hL : v_Lay sh P) (hO : v_O E X cX12_binds_ RX12 7 3 none "binds" (v_Q1 (none) sh P out.2)) (N : Nat) (t0 : Int32) (t1 : Int32) (M : v_M) (h : f_X12_binds__L79 N t0 t1 M = some out) : V E X (0, 0) 79 [] [.int t0, .int t1, v_rf E 79] sh P M := by
  have hK := hO.1
  unfold f_X12_binds__L79 at h
  refine V.ior (pc := 79) hK dX12_binds__79 ?_
  refine V.putI (pc := 80) hK fl_RX12_482 rfl rfl ⟨rfl, rfl⟩ (hL.1 79 _ ls_79) dX12_binds__80 ?_
  refine V.nmM (fun M1 eM1 => ?_)
  have h := v_lt eM1 h
  refine V.goto (pc := 83) (tgt := 204) hK dX12_binds__83 (by decide) ?_
  exact V.vret (pc := 204) hO dX12_binds__204 (v_finV h)
set_option maxHeartbeats 4000000 in
set_option maxRecDepth 100000 in
theorem w_X12_binds__L35 {E : v_E} {X : v_X} {sh : v_S} {P : v_P} {out : Int32 × v_M} (hL : v_Lay sh P) (hO : v_O E X cX12_binds_ RX12 7 3 none "binds" (v_Q1 (none) sh P out.2)) (N : Nat) (x1 : Int32) (x2 : Int32) (t0 : Int32) (M : v_M) (h : f_X12_binds__L35 N x1 x2 t0 M = some out) : V E X (0, 0) 35 [(0, v_rf E 79), (1, .int x1), (2, .int x2)] [.int t0] sh P M := by
  have hK := hO.1
  unfold f_X12_binds__L35 at h
  refine V.istore (pc := 35) (i := 4) (lv' := [(0, _), (1, _), (2, _), (4, _)]) hK (by decide) rfl dX12_binds__35 ?_
  refine V.aload_n (pc := 37) (i := 0) hK rfl ⟨_, rfl⟩ dX12_binds__37 ?_
  refine V.dup (pc := 38) hK rfl dX12_binds__38 ?_
  refine V.getI (pc := 39) hK fl_RX12_479 rfl (hL.1 79 _ ls_79) dX12_binds__39 ?_
  refine V.iload (pc := 42) (i := 4) hK rfl dX12_binds__42 ?_
  refine V.ior (pc := 44) hK dX12_binds__44 ?_
  refine V.putI (pc := 45) hK fl_RX12_479 rfl rfl ⟨rfl, rfl⟩ (hL.1 79 _ ls_79) dX12_binds__45 ?_
  refine V.nmM (fun M1 eM1 => ?_)
  have h := v_lt eM1 h
  refine V.aload_n (pc := 48) (i := 0) hK rfl ⟨_, rfl⟩ dX12_binds__48 ?_
  refine V.dup (pc := 49) hK rfl dX12_binds__49 ?_
  refine V.getI (pc := 50) hK fl_RX12_482 rfl (hL.1 79 _ ls_79) dX12_binds__50 ?_
  refine V.aload_n (pc := 53) (i := 0) hK rfl ⟨_, rfl⟩ dX12_binds__53 ?_
  refine V.getI (pc := 54) hK fl_RX12_233 rfl (hL.1 79 _ ls_79) dX12_binds__54 ?_
  refine V.aload_n (pc := 57) (i := 0) hK rfl ⟨_, rfl⟩ dX12_binds__57 ?_
  refine V.getR (pc := 58) hK fl_RX12_104 rfl (hL.1 79 _ ls_79) (hL.2 79 44 111 rfl) dX12_binds__58 ?_
  refine V.iload_n (pc := 61) (i := 1) hK rfl dX12_binds__61 ?_
  obtain ⟨hb, h⟩ := v_ckS h
  refine V.iald (pc := 62) hK (hL.1 111 _ ls_111) (v_ibS hb) dX12_binds__62 ?_
  refine V.isub (pc := 63) hK dX12_binds__63 ?_
  refine V.aload_n (pc := 64) (i := 0) hK rfl ⟨_, rfl⟩ dX12_binds__64 ?_
  refine V.getR (pc := 65) hK fl_RX12_116 rfl (hL.1 79 _ ls_79) (hL.2 79 48 115 rfl) dX12_binds__65 ?_
  refine V.iload_n (pc := 68) (i := 2) hK rfl dX12_binds__68 ?_
  obtain ⟨hb, h⟩ := v_ckS h
  refine V.iald (pc := 69) hK (hL.1 115 _ ls_115) (v_ibS hb) dX12_binds__69 ?_
  refine V.icmp_le (pc := 70) (tgt := 78) hK dX12_binds__70 (by decide) (fun c => ?_) (fun c => ?_)
  · rw [if_pos c] at h
    refine V.iconst (pc := 78) (v := 0) hK (by decide) dX12_binds__78 ?_
    refine V.pick [] (l := []) rfl ?_
    exact w_X12_binds__L79 hL hO N _ _ _ h
  · rw [if_neg c] at h
    refine V.iload (pc := 73) (i := 4) hK rfl dX12_binds__73 ?_
    refine V.goto (pc := 75) (tgt := 79) hK dX12_binds__75 (by decide) ?_
    refine V.pick [] (l := []) rfl ?_
    exact w_X12_binds__L79 hL hO N _ _ _ h
set_option maxHeartbeats 4000000 in
set_option maxRecDepth 100000 in
theorem c_X12_binds_ (E : v_E) {sh : v_S} {P : v_P} (hL : v_Lay sh P) (N : Nat) (x1 : Int32) (x2 : Int32) (x3 : Int32) (M : v_M) {out : Int32 × v_M} (h : f_X12_binds_ N x1 x2 x3 M = some out) : v_Ct E 3 yX12_binds_ cX12_binds_ 7 none 0 0 [v_rf E 79, .int x1, .int x2, .int x3] sh P M (v_Q1 (none) sh P out.2) := by
  refine v_Ct.of (by decide +kernel) (Nat.le_of_ble_eq_true rfl) (fun X hO => ?_)
  have hK : v_K E X cX12_binds_ RX12 7 3 := hO.1
  have hO : v_O E X cX12_binds_ RX12 7 3 none "binds" (v_Q1 (none) sh P out.2) := hO
  show V E X (0, 0) 0 [(0, v_rf E 79), (1, .int x1), (2, .int x2), (3, .int x3)] [] sh P M
  unfold f_X12_binds_ at h
  refine V.aload_n (pc := 0) (i := 0) hK rfl ⟨_, rfl⟩ dX12_binds__0 ?_
  refine V.getR (pc := 1) hK fl_RX12_110 rfl (hL.1 79 _ ls_79) (hL.2 79 46 113 rfl) dX12_binds__1 ?_
  refine V.iload_n (pc := 4) (i := 2) hK rfl dX12_binds__4 ?_
  obtain ⟨hb, h⟩ := v_ckS h
  refine V.iald (pc := 5) hK (hL.1 113 _ ls_113) (v_ibS hb) dX12_binds__5 ?_
  refine V.if_ne (pc := 6) (tgt := 86) hK dX12_binds__6 (by decide) (fun c => ?_) (fun c => ?_)
  · rw [if_neg c] at h
    refine V.aload_n (pc := 86) (i := 0) hK rfl ⟨_, rfl⟩ dX12_binds__86 ?_
    refine V.getR (pc := 87) hK fl_RX12_110 rfl (hL.1 79 _ ls_79) (hL.2 79 46 113 rfl) dX12_binds__87 ?_
    refine V.iload_n (pc := 90) (i := 2) hK rfl dX12_binds__90 ?_
    obtain ⟨hb, h⟩ := v_ckS h
    refine V.iald (pc := 91) hK (hL.1 113 _ ls_113) (v_ibS hb) dX12_binds__91 ?_
    refine V.iconst (pc := 92) (v := 1) hK (by decide) dX12_binds__92 ?_
    refine V.icmp_ne (pc := 93) (tgt := 171) hK dX12_binds__93 (by decide) (fun c => ?_) (fun c => ?_)
    · rw [if_neg c] at h
      refine V.aload_n (pc := 171) (i := 0) hK rfl ⟨_, rfl⟩ dX12_binds__171 ?_
      refine V.getR (pc := 172) hK fl_RX12_110 rfl (hL.1 79 _ ls_79) (hL.2 79 46 113 rfl) dX12_binds__172 ?_
      refine V.iload_n (pc := 175) (i := 2) hK rfl dX12_binds__175 ?_
      obtain ⟨hb, h⟩ := v_ckS h
      refine V.iald (pc := 176) hK (hL.1 113 _ ls_113) (v_ibS hb) dX12_binds__176 ?_
      refine V.iconst (pc := 177) (v := 2) hK (by decide) dX12_binds__177 ?_
      refine V.icmp_ne (pc := 178) (tgt := 199) hK dX12_binds__178 (by decide) (fun c => ?_) (fun c => ?_)
      · rw [if_neg c] at h
        refine V.aload_n (pc := 199) (i := 0) hK rfl ⟨_, rfl⟩ dX12_binds__199 ?_
        refine V.iconst (pc := 200) (v := 1) hK (by decide) dX12_binds__200 ?_
        obtain ⟨hb, h⟩ := v_ckS h
        refine V.putI (pc := 201) hK fl_RX12_489 rfl rfl (v_okZ hb) (hL.1 79 _ ls_79) dX12_binds__201 ?_
        refine V.nmM (fun M1 eM1 => ?_)
        have h := v_lt eM1 h
        exact V.vret (pc := 204) hO dX12_binds__204 (v_finV h)
      · rw [if_pos c] at h
        refine V.aload_n (pc := 181) (i := 0) hK rfl ⟨_, rfl⟩ dX12_binds__181 ?_
        refine V.dup (pc := 182) hK rfl dX12_binds__182 ?_
        refine V.getI (pc := 183) hK fl_RX12_487 rfl (hL.1 79 _ ls_79) dX12_binds__183 ?_
        refine V.aload_n (pc := 186) (i := 0) hK rfl ⟨_, rfl⟩ dX12_binds__186 ?_
        refine V.getR (pc := 187) hK fl_RX12_113 rfl (hL.1 79 _ ls_79) (hL.2 79 47 114 rfl) dX12_binds__187 ?_
        refine V.iload_n (pc := 190) (i := 2) hK rfl dX12_binds__190 ?_
        obtain ⟨hb, h⟩ := v_ckS h
        refine V.iald (pc := 191) hK (hL.1 114 _ ls_114) (v_ibS hb) dX12_binds__191 ?_
        refine V.ior (pc := 192) hK dX12_binds__192 ?_
        refine V.putI (pc := 193) hK fl_RX12_487 rfl rfl ⟨rfl, rfl⟩ (hL.1 79 _ ls_79) dX12_binds__193 ?_
        refine V.nmM (fun M2 eM2 => ?_)
        have h := v_lt eM2 h
        refine V.goto (pc := 196) (tgt := 204) hK dX12_binds__196 (by decide) ?_
        exact V.vret (pc := 204) hO dX12_binds__204 (v_finV h)
    · rw [if_pos c] at h
      refine V.aload_n (pc := 96) (i := 0) hK rfl ⟨_, rfl⟩ dX12_binds__96 ?_
      refine V.iload_n (pc := 97) (i := 1) hK rfl dX12_binds__97 ?_
      refine V.aload_n (pc := 98) (i := 0) hK rfl ⟨_, rfl⟩ dX12_binds__98 ?_
      refine V.getR (pc := 99) hK fl_RX12_119 rfl (hL.1 79 _ ls_79) (hL.2 79 49 116 rfl) dX12_binds__99 ?_
      refine V.iload_n (pc := 102) (i := 2) hK rfl dX12_binds__102 ?_
      obtain ⟨hb, h⟩ := v_ckS h
      refine V.iald (pc := 103) hK (hL.1 116 _ ls_116) (v_ibS hb) dX12_binds__103 ?_
      refine V.aload_n (pc := 104) (i := 0) hK rfl ⟨_, rfl⟩ dX12_binds__104 ?_
      refine V.getR (pc := 105) hK fl_RX12_122 rfl (hL.1 79 _ ls_79) (hL.2 79 50 117 rfl) dX12_binds__105 ?_
      refine V.iload_n (pc := 108) (i := 2) hK rfl dX12_binds__108 ?_
      obtain ⟨hb, h⟩ := v_ckS h
      refine V.iald (pc := 109) hK (hL.1 117 _ ls_117) (v_ibS hb) dX12_binds__109 ?_
      obtain ⟨z3, hz3, h⟩ := v_bdS h
      refine V.cV (pc := 110) (ci := 12) hK (c_X12_answer E hL N _ _ _ _ hz3) Y_X12_answer cv_RX12_493 (by decide) rfl (hL.1 79 _ ls_79) dX12_binds__110 (by decide) rfl (Nat.le_of_ble_eq_true rfl) ?_
      refine V.topl (fun y4 ey4 => ?_)
      have h := v_lt ey4 h
      refine V.lstore (pc := 113) (i := 4) (lv' := [(0, _), (1, _), (2, _), (3, _), (4, _)]) hK (by decide) rfl dX12_binds__113 ?_
      refine V.lload (pc := 115) (i := 4) hK rfl dX12_binds__115 ?_
      refine V.lconst (pc := 117) (v := 0) hK (by decide) dX12_binds__117 ?_
      refine V.lcmp (pc := 118) hK dX12_binds__118 ?_
      refine V.if_ge (pc := 119) (tgt := 126) hK dX12_binds__119 (by decide) (fun c => ?_) (fun c => ?_)
      · rw [if_pos c] at h
        refine V.lload (pc := 126) (i := 4) hK rfl dX12_binds__126 ?_
        refine V.ldc2 (pc := 128) hK tw_1423 dX12_binds__128 ?_
        refine V.lcmp (pc := 131) hK dX12_binds__131 ?_
        refine V.if_le (pc := 132) (tgt := 141) hK dX12_binds__132 (by decide) (fun c => ?_) (fun c => ?_)
        · rw [if_pos c] at h
          refine V.lload (pc := 141) (i := 4) hK rfl dX12_binds__141 ?_
          refine V.pick [0] (l := [(0, _)]) rfl ?_
          exact w_X12_binds__L143 hL hO N _ _ h
        · rw [if_neg c] at h
          refine V.ldc2 (pc := 135) hK tw_1423 dX12_binds__135 ?_
          refine V.goto (pc := 138) (tgt := 143) hK dX12_binds__138 (by decide) ?_
          refine V.pick [0] (l := [(0, _)]) rfl ?_
          exact w_X12_binds__L143 hL hO N _ _ h
      · rw [if_neg c] at h
        refine V.lconst (pc := 122) (v := 0) hK (by decide) dX12_binds__122 ?_
        refine V.goto (pc := 123) (tgt := 143) hK dX12_binds__123 (by decide) ?_
        refine V.pick [0] (l := [(0, _)]) rfl ?_
        exact w_X12_binds__L143 hL hO N _ _ h
  · rw [if_pos c] at h
    refine V.iload_n (pc := 9) (i := 3) hK rfl dX12_binds__9 ?_
    refine V.aload_n (pc := 10) (i := 0) hK rfl ⟨_, rfl⟩ dX12_binds__10 ?_
    refine V.getR (pc := 11) hK fl_RX12_113 rfl (hL.1 79 _ ls_79) (hL.2 79 47 114 rfl) dX12_binds__11 ?_
    refine V.iload_n (pc := 14) (i := 2) hK rfl dX12_binds__14 ?_
    obtain ⟨hb, h⟩ := v_ckS h
    refine V.iald (pc := 15) hK (hL.1 114 _ ls_114) (v_ibS hb) dX12_binds__15 ?_
    refine V.ishr (pc := 16) hK dX12_binds__16 ?_
    refine V.iconst (pc := 17) (v := 1) hK (by decide) dX12_binds__17 ?_
    refine V.iand (pc := 18) hK dX12_binds__18 ?_
    refine V.iconst (pc := 19) (v := 1) hK (by decide) dX12_binds__19 ?_
    refine V.icmp_ne (pc := 20) (tgt := 27) hK dX12_binds__20 (by decide) (fun c => ?_) (fun c => ?_)
    · rw [if_neg c] at h
      refine V.iconst (pc := 27) (v := 1) hK (by decide) dX12_binds__27 ?_
      refine V.aload_n (pc := 28) (i := 0) hK rfl ⟨_, rfl⟩ dX12_binds__28 ?_
      refine V.getR (pc := 29) hK fl_RX12_113 rfl (hL.1 79 _ ls_79) (hL.2 79 47 114 rfl) dX12_binds__29 ?_
      refine V.iload_n (pc := 32) (i := 2) hK rfl dX12_binds__32 ?_
      obtain ⟨hb, h⟩ := v_ckS h
      refine V.iald (pc := 33) hK (hL.1 114 _ ls_114) (v_ibS hb) dX12_binds__33 ?_
      refine V.ishl (pc := 34) hK dX12_binds__34 ?_
      refine V.pick [0, 1, 2] (l := [(0, _), (1, _), (2, _)]) rfl ?_
      exact w_X12_binds__L35 hL hO N _ _ _ _ h
    · rw [if_pos c] at h
      refine V.iconst (pc := 23) (v := 0) hK (by decide) dX12_binds__23 ?_
      refine V.goto (pc := 24) (tgt := 35) hK dX12_binds__24 (by decide) ?_
      refine V.pick [0, 1, 2] (l := [(0, _), (1, _), (2, _)]) rfl ?_
      exact w_X12_binds__L35 hL hO N _ _ _ _ h
set_option maxHeartbeats 4000000 in
set_option maxRecDepth 100000 in
theorem c_X12_stamp (E : v_E) {sh : v_S} {P : v_P} (hL : v_Lay sh P) (N : Nat) (x1 : Int32) (x2 : Int32) (x3 : Int32) (x4 : Int32) (M : v_M) {out : Int32 × v_M} (h : f_X12_stamp N x1 x2 x3 x4 M = some out) : v_Ct E 2 yX12_stamp cX12_stamp 5 (some .int) 0 0 [v_rf E 79, .int x1, .int x2, .int x3, .int x4] sh P M (v_Q1 (some (.int out.1)) sh P out.2) := by
  refine v_Ct.of (by decide +kernel) (Nat.le_of_ble_eq_true rfl) (fun X hO => ?_)
  have hK : v_K E X cX12_stamp RX12 5 2 := hO.1
  have hO : v_O E X cX12_stamp RX12 5 2 (some .int) "stamp" (v_Q1 (some (.int out.1)) sh P out.2) := hO
  show V E X (0, 0) 0 [(0, v_rf E 79), (1, .int x1), (2, .int x2), (3, .int x3), (4, .int x4)] [] sh P M
  unfold f_X12_stamp at h
  refine V.aload_n (pc := 0) (i := 0) hK rfl ⟨_, rfl⟩ dX12_stamp_0 ?_
  refine V.getI (pc := 1) hK fl_RX12_473 rfl (hL.1 79 _ ls_79) dX12_stamp_1 ?_
  refine V.sipush (pc := 4) (v := 200) hK (by decide) dX12_stamp_4 ?_
  refine V.icmp_eq (pc := 7) (tgt := 57) hK dX12_stamp_7 (by decide) (fun c => ?_) (fun c => ?_)
  · rw [if_pos c] at h
    refine V.iconst (pc := 57) (v := -1) hK (by decide) dX12_stamp_57 ?_
    exact V.iret (pc := 58) hO dX12_stamp_58 (v_finI h)
  · rw [if_neg c] at h
    refine V.aload_n (pc := 10) (i := 0) hK rfl ⟨_, rfl⟩ dX12_stamp_10 ?_
    refine V.iload_n (pc := 11) (i := 1) hK rfl dX12_stamp_11 ?_
    obtain ⟨z1, hz1, h⟩ := v_bdS h
    refine V.cV (pc := 12) (ci := 12) hK (c_X12_isMachine E hL N _ _ hz1) Y_X12_isMachine cv_RX12_262 (by decide) rfl (hL.1 79 _ ls_79) dX12_stamp_12 (by decide) rfl (Nat.le_of_ble_eq_true rfl) ?_
    refine V.if_eq (pc := 15) (tgt := 57) hK dX12_stamp_15 (by decide) (fun c => ?_) (fun c => ?_)
    · rw [if_pos c] at h
      refine V.iconst (pc := 57) (v := -1) hK (by decide) dX12_stamp_57 ?_
      exact V.iret (pc := 58) hO dX12_stamp_58 (v_finI h)
    · rw [if_neg c] at h
      refine V.iload_n (pc := 18) (i := 2) hK rfl dX12_stamp_18 ?_
      refine V.i2l (pc := 19) hK dX12_stamp_19 ?_
      refine V.lconst (pc := 20) (v := 0) hK (by decide) dX12_stamp_20 ?_
      refine V.ldc2 (pc := 21) hK tw_1689 dX12_stamp_21 ?_
      obtain ⟨z2, hz2, h⟩ := v_bdS h
      refine V.cS (pc := 24) hK (c_X12_in E hL N _ _ _ _ hz2) Y_X12_in cs_RX12_229 dX12_stamp_24 (by decide) rfl (Nat.le_of_ble_eq_true rfl) ?_
      refine V.if_eq (pc := 27) (tgt := 57) hK dX12_stamp_27 (by decide) (fun c => ?_) (fun c => ?_)
      · rw [if_pos c] at h
        refine V.iconst (pc := 57) (v := -1) hK (by decide) dX12_stamp_57 ?_
        exact V.iret (pc := 58) hO dX12_stamp_58 (v_finI h)
      · rw [if_neg c] at h
        refine V.iload_n (pc := 30) (i := 3) hK rfl dX12_stamp_30 ?_
        refine V.i2l (pc := 31) hK dX12_stamp_31 ?_
        refine V.lconst (pc := 32) (v := 0) hK (by decide) dX12_stamp_32 ?_
        refine V.ldc2 (pc := 33) hK tw_1478 dX12_stamp_33 ?_
        obtain ⟨z3, hz3, h⟩ := v_bdS h
        refine V.cS (pc := 36) hK (c_X12_in E hL N _ _ _ _ hz3) Y_X12_in cs_RX12_229 dX12_stamp_36 (by decide) rfl (Nat.le_of_ble_eq_true rfl) ?_
        refine V.if_eq (pc := 39) (tgt := 57) hK dX12_stamp_39 (by decide) (fun c => ?_) (fun c => ?_)
        · rw [if_pos c] at h
          refine V.iconst (pc := 57) (v := -1) hK (by decide) dX12_stamp_57 ?_
          exact V.iret (pc := 58) hO dX12_stamp_58 (v_finI h)
        · rw [if_neg c] at h
          refine V.iload (pc := 42) (i := 4) hK rfl dX12_stamp_42 ?_
          refine V.i2l (pc := 44) hK dX12_stamp_44 ?_
          refine V.lconst (pc := 45) (v := 0) hK (by decide) dX12_stamp_45 ?_
          refine V.aload_n (pc := 46) (i := 0) hK rfl ⟨_, rfl⟩ dX12_stamp_46 ?_
          refine V.getI (pc := 47) hK fl_RX12_233 rfl (hL.1 79 _ ls_79) dX12_stamp_47 ?_
          refine V.i2l (pc := 50) hK dX12_stamp_50 ?_
          obtain ⟨z4, hz4, h⟩ := v_bdS h
          refine V.cS (pc := 51) hK (c_X12_in E hL N _ _ _ _ hz4) Y_X12_in cs_RX12_229 dX12_stamp_51 (by decide) rfl (Nat.le_of_ble_eq_true rfl) ?_
          refine V.if_ne (pc := 54) (tgt := 59) hK dX12_stamp_54 (by decide) (fun c => ?_) (fun c => ?_)
          · rw [if_neg c] at h
            refine V.aload_n (pc := 59) (i := 0) hK rfl ⟨_, rfl⟩ dX12_stamp_59 ?_
            refine V.getR (pc := 60) hK fl_RX12_138 rfl (hL.1 79 _ ls_79) (hL.2 79 62 122 rfl) dX12_stamp_60 ?_
            refine V.aload_n (pc := 63) (i := 0) hK rfl ⟨_, rfl⟩ dX12_stamp_63 ?_
            refine V.getI (pc := 64) hK fl_RX12_473 rfl (hL.1 79 _ ls_79) dX12_stamp_64 ?_
            refine V.iload_n (pc := 67) (i := 1) hK rfl dX12_stamp_67 ?_
            obtain ⟨hb, h⟩ := v_ckS h
            refine V.iast (pc := 68) hK (hL.1 122 _ ls_122) (v_ibS hb) dX12_stamp_68 ?_
            refine V.nmM (fun M5 eM5 => ?_)
            have h := v_lt eM5 h
            refine V.aload_n (pc := 69) (i := 0) hK rfl ⟨_, rfl⟩ dX12_stamp_69 ?_
            refine V.getR (pc := 70) hK fl_RX12_141 rfl (hL.1 79 _ ls_79) (hL.2 79 63 123 rfl) dX12_stamp_70 ?_
            refine V.aload_n (pc := 73) (i := 0) hK rfl ⟨_, rfl⟩ dX12_stamp_73 ?_
            refine V.getI (pc := 74) hK fl_RX12_473 rfl (hL.1 79 _ ls_79) dX12_stamp_74 ?_
            refine V.iload_n (pc := 77) (i := 2) hK rfl dX12_stamp_77 ?_
            obtain ⟨hb, h⟩ := v_ckS h
            refine V.iast (pc := 78) hK (hL.1 123 _ ls_123) (v_ibS hb) dX12_stamp_78 ?_
            refine V.nmM (fun M6 eM6 => ?_)
            have h := v_lt eM6 h
            refine V.aload_n (pc := 79) (i := 0) hK rfl ⟨_, rfl⟩ dX12_stamp_79 ?_
            refine V.getR (pc := 80) hK fl_RX12_144 rfl (hL.1 79 _ ls_79) (hL.2 79 64 124 rfl) dX12_stamp_80 ?_
            refine V.aload_n (pc := 83) (i := 0) hK rfl ⟨_, rfl⟩ dX12_stamp_83 ?_
            refine V.getI (pc := 84) hK fl_RX12_473 rfl (hL.1 79 _ ls_79) dX12_stamp_84 ?_
            refine V.iload_n (pc := 87) (i := 3) hK rfl dX12_stamp_87 ?_
            obtain ⟨hb, h⟩ := v_ckS h
            refine V.iast (pc := 88) hK (hL.1 124 _ ls_124) (v_ibS hb) dX12_stamp_88 ?_
            refine V.nmM (fun M7 eM7 => ?_)
            have h := v_lt eM7 h
            refine V.aload_n (pc := 89) (i := 0) hK rfl ⟨_, rfl⟩ dX12_stamp_89 ?_
            refine V.getR (pc := 90) hK fl_RX12_147 rfl (hL.1 79 _ ls_79) (hL.2 79 65 125 rfl) dX12_stamp_90 ?_
            refine V.aload_n (pc := 93) (i := 0) hK rfl ⟨_, rfl⟩ dX12_stamp_93 ?_
            refine V.getI (pc := 94) hK fl_RX12_473 rfl (hL.1 79 _ ls_79) dX12_stamp_94 ?_
            refine V.iload (pc := 97) (i := 4) hK rfl dX12_stamp_97 ?_
            obtain ⟨hb, h⟩ := v_ckS h
            refine V.iast (pc := 99) hK (hL.1 125 _ ls_125) (v_ibS hb) dX12_stamp_99 ?_
            refine V.nmM (fun M8 eM8 => ?_)
            have h := v_lt eM8 h
            refine V.aload_n (pc := 100) (i := 0) hK rfl ⟨_, rfl⟩ dX12_stamp_100 ?_
            refine V.dup (pc := 101) hK rfl dX12_stamp_101 ?_
            refine V.getI (pc := 102) hK fl_RX12_473 rfl (hL.1 79 _ ls_79) dX12_stamp_102 ?_
            refine V.iconst (pc := 105) (v := 1) hK (by decide) dX12_stamp_105 ?_
            refine V.iadd (pc := 106) hK dX12_stamp_106 ?_
            refine V.putI (pc := 107) hK fl_RX12_473 rfl rfl ⟨rfl, rfl⟩ (hL.1 79 _ ls_79) dX12_stamp_107 ?_
            refine V.nmM (fun M9 eM9 => ?_)
            have h := v_lt eM9 h
            refine V.aload_n (pc := 110) (i := 0) hK rfl ⟨_, rfl⟩ dX12_stamp_110 ?_
            refine V.getI (pc := 111) hK fl_RX12_473 rfl (hL.1 79 _ ls_79) dX12_stamp_111 ?_
            refine V.iconst (pc := 114) (v := 1) hK (by decide) dX12_stamp_114 ?_
            refine V.isub (pc := 115) hK dX12_stamp_115 ?_
            exact V.iret (pc := 116) hO dX12_stamp_116 (v_finI h)
          · rw [if_pos c] at h
            refine V.iconst (pc := 57) (v := -1) hK (by decide) dX12_stamp_57 ?_
            exact V.iret (pc := 58) hO dX12_stamp_58 (v_finI h)
set_option maxHeartbeats 4000000 in
set_option maxRecDepth 100000 in
theorem c_X12_see (E : v_E) {sh : v_S} {P : v_P} (hL : v_Lay sh P) (N : Nat) (x1 : Int32) (x2 : Int32) (x3 : Int32) (x4 : Int32) (M : v_M) {out : Int32 × v_M} (h : f_X12_see N x1 x2 x3 x4 M = some out) : v_Ct E 2 yX12_see cX12_see 5 (some .int) 0 0 [v_rf E 79, .int x1, .int x2, .int x3, .int x4] sh P M (v_Q1 (some (.int out.1)) sh P out.2) := by
  refine v_Ct.of (by decide +kernel) (Nat.le_of_ble_eq_true rfl) (fun X hO => ?_)
  have hK : v_K E X cX12_see RX12 5 2 := hO.1
  have hO : v_O E X cX12_see RX12 5 2 (some .int) "see" (v_Q1 (some (.int out.1)) sh P out.2) := hO
  show V E X (0, 0) 0 [(0, v_rf E 79), (1, .int x1), (2, .int x2), (3, .int x3), (4, .int x4)] [] sh P M
  unfold f_X12_see at h
  refine V.aload_n (pc := 0) (i := 0) hK rfl ⟨_, rfl⟩ dX12_see_0 ?_
  refine V.getI (pc := 1) hK fl_RX12_506 rfl (hL.1 79 _ ls_79) dX12_see_1 ?_
  refine V.bipush (pc := 4) (v := 100) hK (by decide) dX12_see_4 ?_
  refine V.icmp_eq (pc := 6) (tgt := 43) hK dX12_see_6 (by decide) (fun c => ?_) (fun c => ?_)
  · rw [if_pos c] at h
    refine V.iconst (pc := 43) (v := -1) hK (by decide) dX12_see_43 ?_
    exact V.iret (pc := 44) hO dX12_see_44 (v_finI h)
  · rw [if_neg c] at h
    refine V.aload_n (pc := 9) (i := 0) hK rfl ⟨_, rfl⟩ dX12_see_9 ?_
    refine V.iload_n (pc := 10) (i := 1) hK rfl dX12_see_10 ?_
    obtain ⟨z1, hz1, h⟩ := v_bdS h
    refine V.cV (pc := 11) (ci := 12) hK (c_X12_isMachine E hL N _ _ hz1) Y_X12_isMachine cv_RX12_262 (by decide) rfl (hL.1 79 _ ls_79) dX12_see_11 (by decide) rfl (Nat.le_of_ble_eq_true rfl) ?_
    refine V.if_eq (pc := 14) (tgt := 43) hK dX12_see_14 (by decide) (fun c => ?_) (fun c => ?_)
    · rw [if_pos c] at h
      refine V.iconst (pc := 43) (v := -1) hK (by decide) dX12_see_43 ?_
      exact V.iret (pc := 44) hO dX12_see_44 (v_finI h)
    · rw [if_neg c] at h
      refine V.iload_n (pc := 17) (i := 2) hK rfl dX12_see_17 ?_
      refine V.i2l (pc := 18) hK dX12_see_18 ?_
      refine V.lconst (pc := 19) (v := 0) hK (by decide) dX12_see_19 ?_
      refine V.ldc2 (pc := 20) hK tw_1689 dX12_see_20 ?_
      obtain ⟨z2, hz2, h⟩ := v_bdS h
      refine V.cS (pc := 23) hK (c_X12_in E hL N _ _ _ _ hz2) Y_X12_in cs_RX12_229 dX12_see_23 (by decide) rfl (Nat.le_of_ble_eq_true rfl) ?_
      refine V.if_eq (pc := 26) (tgt := 43) hK dX12_see_26 (by decide) (fun c => ?_) (fun c => ?_)
      · rw [if_pos c] at h
        refine V.iconst (pc := 43) (v := -1) hK (by decide) dX12_see_43 ?_
        exact V.iret (pc := 44) hO dX12_see_44 (v_finI h)
      · rw [if_neg c] at h
        refine V.iload_n (pc := 29) (i := 3) hK rfl dX12_see_29 ?_
        refine V.i2l (pc := 30) hK dX12_see_30 ?_
        refine V.lconst (pc := 31) (v := 0) hK (by decide) dX12_see_31 ?_
        refine V.aload_n (pc := 32) (i := 0) hK rfl ⟨_, rfl⟩ dX12_see_32 ?_
        refine V.getI (pc := 33) hK fl_RX12_233 rfl (hL.1 79 _ ls_79) dX12_see_33 ?_
        refine V.i2l (pc := 36) hK dX12_see_36 ?_
        obtain ⟨z3, hz3, h⟩ := v_bdS h
        refine V.cS (pc := 37) hK (c_X12_in E hL N _ _ _ _ hz3) Y_X12_in cs_RX12_229 dX12_see_37 (by decide) rfl (Nat.le_of_ble_eq_true rfl) ?_
        refine V.if_ne (pc := 40) (tgt := 45) hK dX12_see_40 (by decide) (fun c => ?_) (fun c => ?_)
        · rw [if_neg c] at h
          refine V.aload_n (pc := 45) (i := 0) hK rfl ⟨_, rfl⟩ dX12_see_45 ?_
          refine V.getR (pc := 46) hK fl_RX12_156 rfl (hL.1 79 _ ls_79) (hL.2 79 68 128 rfl) dX12_see_46 ?_
          refine V.aload_n (pc := 49) (i := 0) hK rfl ⟨_, rfl⟩ dX12_see_49 ?_
          refine V.getI (pc := 50) hK fl_RX12_506 rfl (hL.1 79 _ ls_79) dX12_see_50 ?_
          refine V.iload_n (pc := 53) (i := 1) hK rfl dX12_see_53 ?_
          obtain ⟨hb, h⟩ := v_ckS h
          refine V.iast (pc := 54) hK (hL.1 128 _ ls_128) (v_ibS hb) dX12_see_54 ?_
          refine V.nmM (fun M4 eM4 => ?_)
          have h := v_lt eM4 h
          refine V.aload_n (pc := 55) (i := 0) hK rfl ⟨_, rfl⟩ dX12_see_55 ?_
          refine V.getR (pc := 56) hK fl_RX12_159 rfl (hL.1 79 _ ls_79) (hL.2 79 69 129 rfl) dX12_see_56 ?_
          refine V.aload_n (pc := 59) (i := 0) hK rfl ⟨_, rfl⟩ dX12_see_59 ?_
          refine V.getI (pc := 60) hK fl_RX12_506 rfl (hL.1 79 _ ls_79) dX12_see_60 ?_
          refine V.iload_n (pc := 63) (i := 2) hK rfl dX12_see_63 ?_
          obtain ⟨hb, h⟩ := v_ckS h
          refine V.iast (pc := 64) hK (hL.1 129 _ ls_129) (v_ibS hb) dX12_see_64 ?_
          refine V.nmM (fun M5 eM5 => ?_)
          have h := v_lt eM5 h
          refine V.aload_n (pc := 65) (i := 0) hK rfl ⟨_, rfl⟩ dX12_see_65 ?_
          refine V.getR (pc := 66) hK fl_RX12_162 rfl (hL.1 79 _ ls_79) (hL.2 79 70 130 rfl) dX12_see_66 ?_
          refine V.aload_n (pc := 69) (i := 0) hK rfl ⟨_, rfl⟩ dX12_see_69 ?_
          refine V.getI (pc := 70) hK fl_RX12_506 rfl (hL.1 79 _ ls_79) dX12_see_70 ?_
          refine V.iload_n (pc := 73) (i := 3) hK rfl dX12_see_73 ?_
          obtain ⟨hb, h⟩ := v_ckS h
          refine V.iast (pc := 74) hK (hL.1 130 _ ls_130) (v_ibS hb) dX12_see_74 ?_
          refine V.nmM (fun M6 eM6 => ?_)
          have h := v_lt eM6 h
          refine V.aload_n (pc := 75) (i := 0) hK rfl ⟨_, rfl⟩ dX12_see_75 ?_
          refine V.getR (pc := 76) hK fl_RX12_165 rfl (hL.1 79 _ ls_79) (hL.2 79 71 131 rfl) dX12_see_76 ?_
          refine V.aload_n (pc := 79) (i := 0) hK rfl ⟨_, rfl⟩ dX12_see_79 ?_
          refine V.getI (pc := 80) hK fl_RX12_506 rfl (hL.1 79 _ ls_79) dX12_see_80 ?_
          refine V.iload (pc := 83) (i := 4) hK rfl dX12_see_83 ?_
          obtain ⟨hb, h⟩ := v_ckS h
          refine V.zast (pc := 85) hK (hL.1 131 _ ls_131) (v_ibS hb) dX12_see_85 ?_
          refine V.nmM (fun M7 eM7 => ?_)
          have h := v_lt eM7 h
          refine V.aload_n (pc := 86) (i := 0) hK rfl ⟨_, rfl⟩ dX12_see_86 ?_
          refine V.dup (pc := 87) hK rfl dX12_see_87 ?_
          refine V.getI (pc := 88) hK fl_RX12_506 rfl (hL.1 79 _ ls_79) dX12_see_88 ?_
          refine V.iconst (pc := 91) (v := 1) hK (by decide) dX12_see_91 ?_
          refine V.iadd (pc := 92) hK dX12_see_92 ?_
          refine V.putI (pc := 93) hK fl_RX12_506 rfl rfl ⟨rfl, rfl⟩ (hL.1 79 _ ls_79) dX12_see_93 ?_
          refine V.nmM (fun M8 eM8 => ?_)
          have h := v_lt eM8 h
          refine V.aload_n (pc := 96) (i := 0) hK rfl ⟨_, rfl⟩ dX12_see_96 ?_
          refine V.getI (pc := 97) hK fl_RX12_506 rfl (hL.1 79 _ ls_79) dX12_see_97 ?_
          exact V.iret (pc := 100) hO dX12_see_100 (v_finI h)
        · rw [if_pos c] at h
          refine V.iconst (pc := 43) (v := -1) hK (by decide) dX12_see_43 ?_
          exact V.iret (pc := 44) hO dX12_see_44 (v_finI h)
set_option maxHeartbeats 4000000 in
set_option maxRecDepth 100000 in
theorem c_X12_needOf (E : v_E) {sh : v_S} {P : v_P} (hL : v_Lay sh P) (N : Nat) (x1 : Int32) (M : v_M) {out : Int32 × v_M} (h : f_X12_needOf N x1 M = some out) : v_Ct E 0 yX12_needOf cX12_needOf 2 (some .int) 0 0 [v_rf E 79, .int x1] sh P M (v_Q1 (some (.int out.1)) sh P out.2) := by
  refine v_Ct.of (by decide +kernel) (Nat.le_of_ble_eq_true rfl) (fun X hO => ?_)
  have hK : v_K E X cX12_needOf RX12 2 0 := hO.1
  have hO : v_O E X cX12_needOf RX12 2 0 (some .int) "needOf" (v_Q1 (some (.int out.1)) sh P out.2) := hO
  show V E X (0, 0) 0 [(0, v_rf E 79), (1, .int x1)] [] sh P M
  unfold f_X12_needOf at h
  refine V.bipush (pc := 0) (v := 10) hK (by decide) dX12_needOf_0 ?_
  refine V.aload_n (pc := 2) (i := 0) hK rfl ⟨_, rfl⟩ dX12_needOf_2 ?_
  refine V.getR (pc := 3) hK fl_RX12_138 rfl (hL.1 79 _ ls_79) (hL.2 79 62 122 rfl) dX12_needOf_3 ?_
  refine V.iload_n (pc := 6) (i := 1) hK rfl dX12_needOf_6 ?_
  obtain ⟨hb, h⟩ := v_ckS h
  refine V.iald (pc := 7) hK (hL.1 122 _ ls_122) (v_ibS hb) dX12_needOf_7 ?_
  refine V.imul (pc := 8) hK dX12_needOf_8 ?_
  refine V.aload_n (pc := 9) (i := 0) hK rfl ⟨_, rfl⟩ dX12_needOf_9 ?_
  refine V.getR (pc := 10) hK fl_RX12_141 rfl (hL.1 79 _ ls_79) (hL.2 79 63 123 rfl) dX12_needOf_10 ?_
  refine V.iload_n (pc := 13) (i := 1) hK rfl dX12_needOf_13 ?_
  obtain ⟨hb, h⟩ := v_ckS h
  refine V.iald (pc := 14) hK (hL.1 123 _ ls_123) (v_ibS hb) dX12_needOf_14 ?_
  refine V.iadd (pc := 15) hK dX12_needOf_15 ?_
  exact V.iret (pc := 16) hO dX12_needOf_16 (v_finI h)
set_option maxHeartbeats 4000000 in
set_option maxRecDepth 100000 in
theorem w_X12_looks_L215 {E : v_E} {X : v_X} {sh : v_S} {P : v_P} {out : Int32 × v_M} (hL : v_Lay sh P) (hO : v_O E X cX12_looks RX12 4 1 none "looks" (v_Q1 (none) sh P out.2)) (N : Nat) (k145 : Int32 → v_M → Option (Int32 × v_M)) (hk145 : ∀ (x1 : Int32) (M : v_M), k145 x1 M = some out → V E X (0, 0) 145 [(0, v_rf E 79), (1, .int x1)] [] sh P M) (k185 : Int32 → Int32 → v_M → Option (Int32 × v_M)) (hk185 : ∀ (x1 : Int32) (x2 : Int32) (M : v_M), k185 x1 x2 M = some out → V E X (0, 0) 185 [(0, v_rf E 79), (1, .int x1), (2, .int x2)] [] sh P M) (x1 : Int32) (x2 : Int32) (M : v_M) (h : f_X12_looks_L215 N k145 k185 x1 x2 M = some out) : V E X (0, 0) 215 [(0, v_rf E 79), (1, .int x1), (2, .int x2)] [] sh P M := by
  have hK := hO.1
  unfold f_X12_looks_L215 at h
  refine V.iinc (pc := 215) (i := 2) (v := 1) (lv' := [(0, _), (1, _), (2, _)]) hK rfl (by decide) (by decide) rfl dX12_looks_215 ?_
  refine V.goto (pc := 218) (tgt := 185) hK dX12_looks_218 (by decide) ?_
  refine V.pick [0, 1, 2] (l := [(0, _), (1, _), (2, _)]) rfl ?_
  exact hk185 _ _ _ h
set_option maxHeartbeats 4000000 in
set_option maxRecDepth 100000 in
theorem w_X12_looks_L185 {E : v_E} {X : v_X} {sh : v_S} {P : v_P} {out : Int32 × v_M} (hL : v_Lay sh P) (hO : v_O E X cX12_looks RX12 4 1 none "looks" (v_Q1 (none) sh P out.2)) (N : Nat) (k145 : Int32 → v_M → Option (Int32 × v_M)) (hk145 : ∀ (x1 : Int32) (M : v_M), k145 x1 M = some out → V E X (0, 0) 145 [(0, v_rf E 79), (1, .int x1)] [] sh P M) (n : Nat) : ∀ (x1 : Int32) (x2 : Int32) (M : v_M), f_X12_looks_L185 N k145 n x1 x2 M = some out → V E X (0, 0) 185 [(0, v_rf E 79), (1, .int x1), (2, .int x2)] [] sh P M := by
  have hK := hO.1
  induction n with
  | zero => intro x1 x2 M h; rw [f_X12_looks_L185] at h; cases h
  | succ n ih =>
    intro x1 x2 M h
    rw [f_X12_looks_L185] at h
    refine V.aload_n (pc := 185) (i := 0) hK rfl ⟨_, rfl⟩ dX12_looks_185 ?_
    refine V.getR (pc := 186) hK fl_RX12_144 rfl (hL.1 79 _ ls_79) (hL.2 79 64 124 rfl) dX12_looks_186 ?_
    refine V.iload_n (pc := 189) (i := 2) hK rfl dX12_looks_189 ?_
    obtain ⟨hb, h⟩ := v_ckS h
    refine V.iald (pc := 190) hK (hL.1 124 _ ls_124) (v_ibS hb) dX12_looks_190 ?_
    refine V.aload_n (pc := 191) (i := 0) hK rfl ⟨_, rfl⟩ dX12_looks_191 ?_
    refine V.getR (pc := 192) hK fl_RX12_144 rfl (hL.1 79 _ ls_79) (hL.2 79 64 124 rfl) dX12_looks_192 ?_
    refine V.iload_n (pc := 195) (i := 1) hK rfl dX12_looks_195 ?_
    obtain ⟨hb, h⟩ := v_ckS h
    refine V.iald (pc := 196) hK (hL.1 124 _ ls_124) (v_ibS hb) dX12_looks_196 ?_
    refine V.icmp_ne (pc := 197) (tgt := 215) hK dX12_looks_197 (by decide) (fun c => ?_) (fun c => ?_)
    · rw [if_neg c] at h
      refine V.pick [0, 1, 2] (l := [(0, _), (1, _), (2, _)]) rfl ?_
      exact w_X12_looks_L215 hL hO N _ hk145 _ ih _ _ _ h
    · rw [if_pos c] at h
      refine V.aload_n (pc := 200) (i := 0) hK rfl ⟨_, rfl⟩ dX12_looks_200 ?_
      refine V.getR (pc := 201) hK fl_RX12_147 rfl (hL.1 79 _ ls_79) (hL.2 79 65 125 rfl) dX12_looks_201 ?_
      refine V.iload_n (pc := 204) (i := 2) hK rfl dX12_looks_204 ?_
      obtain ⟨hb, h⟩ := v_ckS h
      refine V.iald (pc := 205) hK (hL.1 125 _ ls_125) (v_ibS hb) dX12_looks_205 ?_
      refine V.aload_n (pc := 206) (i := 0) hK rfl ⟨_, rfl⟩ dX12_looks_206 ?_
      refine V.getR (pc := 207) hK fl_RX12_147 rfl (hL.1 79 _ ls_79) (hL.2 79 65 125 rfl) dX12_looks_207 ?_
      refine V.iload_n (pc := 210) (i := 1) hK rfl dX12_looks_210 ?_
      obtain ⟨hb, h⟩ := v_ckS h
      refine V.iald (pc := 211) hK (hL.1 125 _ ls_125) (v_ibS hb) dX12_looks_211 ?_
      refine V.icmp_eq (pc := 212) (tgt := 221) hK dX12_looks_212 (by decide) (fun c => ?_) (fun c => ?_)
      · rw [if_pos c] at h
        refine V.aload_n (pc := 221) (i := 0) hK rfl ⟨_, rfl⟩ dX12_looks_221 ?_
        refine V.getR (pc := 222) hK fl_RX12_150 rfl (hL.1 79 _ ls_79) (hL.2 79 66 126 rfl) dX12_looks_222 ?_
        refine V.iload_n (pc := 225) (i := 1) hK rfl dX12_looks_225 ?_
        refine V.iload_n (pc := 226) (i := 2) hK rfl dX12_looks_226 ?_
        obtain ⟨hb, h⟩ := v_ckS h
        refine V.iast (pc := 227) hK (hL.1 126 _ ls_126) (v_ibS hb) dX12_looks_227 ?_
        refine V.nmM (fun M1 eM1 => ?_)
        have h := v_lt eM1 h
        refine V.iinc (pc := 228) (i := 1) (v := 1) (lv' := [(0, _), (1, _), (2, _)]) hK rfl (by decide) (by decide) rfl dX12_looks_228 ?_
        refine V.goto (pc := 231) (tgt := 145) hK dX12_looks_231 (by decide) ?_
        refine V.pick [0, 1] (l := [(0, _), (1, _)]) rfl ?_
        exact hk145 _ _ h
      · rw [if_neg c] at h
        refine V.pick [0, 1, 2] (l := [(0, _), (1, _), (2, _)]) rfl ?_
        exact w_X12_looks_L215 hL hO N _ hk145 _ ih _ _ _ h
set_option maxHeartbeats 4000000 in
set_option maxRecDepth 100000 in
theorem w_X12_looks_L182 {E : v_E} {X : v_X} {sh : v_S} {P : v_P} {out : Int32 × v_M} (hL : v_Lay sh P) (hO : v_O E X cX12_looks RX12 4 1 none "looks" (v_Q1 (none) sh P out.2)) (N : Nat) (k145 : Int32 → v_M → Option (Int32 × v_M)) (hk145 : ∀ (x1 : Int32) (M : v_M), k145 x1 M = some out → V E X (0, 0) 145 [(0, v_rf E 79), (1, .int x1)] [] sh P M) (x1 : Int32) (t0 : Int32) (t1 : Int32) (M : v_M) (h : f_X12_looks_L182 N k145 x1 t0 t1 M = some out) : V E X (0, 0) 182 [(0, v_rf E 79), (1, .int x1)] [.int t0, .int t1, v_rf E 132] sh P M := by
  have hK := hO.1
  unfold f_X12_looks_L182 at h
  obtain ⟨hb, h⟩ := v_ckS h
  refine V.zast (pc := 182) hK (hL.1 132 _ ls_132) (v_ibS hb) dX12_looks_182 ?_
  refine V.nmM (fun M1 eM1 => ?_)
  have h := v_lt eM1 h
  refine V.iconst (pc := 183) (v := 0) hK (by decide) dX12_looks_183 ?_
  refine V.istore_n (pc := 184) (i := 2) (lv' := [(0, _), (1, _), (2, _)]) hK (by decide) rfl dX12_looks_184 ?_
  refine V.pick [0, 1, 2] (l := [(0, _), (1, _), (2, _)]) rfl ?_
  exact w_X12_looks_L185 hL hO N _ hk145 N _ _ _ h
set_option maxHeartbeats 4000000 in
set_option maxRecDepth 100000 in
theorem w_X12_looks_L145 {E : v_E} {X : v_X} {sh : v_S} {P : v_P} {out : Int32 × v_M} (hL : v_Lay sh P) (hO : v_O E X cX12_looks RX12 4 1 none "looks" (v_Q1 (none) sh P out.2)) (N : Nat) (n : Nat) : ∀ (x1 : Int32) (M : v_M), f_X12_looks_L145 N n x1 M = some out → V E X (0, 0) 145 [(0, v_rf E 79), (1, .int x1)] [] sh P M := by
  have hK := hO.1
  induction n with
  | zero => intro x1 M h; rw [f_X12_looks_L145] at h; cases h
  | succ n ih =>
    intro x1 M h
    rw [f_X12_looks_L145] at h
    refine V.iload_n (pc := 145) (i := 1) hK rfl dX12_looks_145 ?_
    refine V.aload_n (pc := 146) (i := 0) hK rfl ⟨_, rfl⟩ dX12_looks_146 ?_
    refine V.getI (pc := 147) hK fl_RX12_473 rfl (hL.1 79 _ ls_79) dX12_looks_147 ?_
    refine V.icmp_ge (pc := 150) (tgt := 234) hK dX12_looks_150 (by decide) (fun c => ?_) (fun c => ?_)
    · rw [if_pos c] at h
      exact V.vret (pc := 234) hO dX12_looks_234 (v_finV h)
    · rw [if_neg c] at h
      refine V.aload_n (pc := 153) (i := 0) hK rfl ⟨_, rfl⟩ dX12_looks_153 ?_
      refine V.getR (pc := 154) hK fl_RX12_169 rfl (hL.1 79 _ ls_79) (hL.2 79 72 132 rfl) dX12_looks_154 ?_
      refine V.iload_n (pc := 157) (i := 1) hK rfl dX12_looks_157 ?_
      refine V.aload_n (pc := 158) (i := 0) hK rfl ⟨_, rfl⟩ dX12_looks_158 ?_
      refine V.getR (pc := 159) hK fl_RX12_147 rfl (hL.1 79 _ ls_79) (hL.2 79 65 125 rfl) dX12_looks_159 ?_
      refine V.iload_n (pc := 162) (i := 1) hK rfl dX12_looks_162 ?_
      obtain ⟨hb, h⟩ := v_ckS h
      refine V.iald (pc := 163) hK (hL.1 125 _ ls_125) (v_ibS hb) dX12_looks_163 ?_
      refine V.aload_n (pc := 164) (i := 0) hK rfl ⟨_, rfl⟩ dX12_looks_164 ?_
      refine V.getR (pc := 165) hK fl_RX12_178 rfl (hL.1 79 _ ls_79) (hL.2 79 75 135 rfl) dX12_looks_165 ?_
      refine V.aload_n (pc := 168) (i := 0) hK rfl ⟨_, rfl⟩ dX12_looks_168 ?_
      refine V.iload_n (pc := 169) (i := 1) hK rfl dX12_looks_169 ?_
      obtain ⟨z1, hz1, h⟩ := v_bdS h
      refine V.cV (pc := 170) (ci := 12) hK (c_X12_needOf E hL N _ _ hz1) Y_X12_needOf cv_RX12_509 (by decide) rfl (hL.1 79 _ ls_79) dX12_looks_170 (by decide) rfl (Nat.le_of_ble_eq_true rfl) ?_
      obtain ⟨hb, h⟩ := v_ckS h
      refine V.iald (pc := 173) hK (hL.1 135 _ ls_135) (v_ibS hb) dX12_looks_173 ?_
      refine V.icmp_le (pc := 174) (tgt := 181) hK dX12_looks_174 (by decide) (fun c => ?_) (fun c => ?_)
      · rw [if_pos c] at h
        refine V.iconst (pc := 181) (v := 0) hK (by decide) dX12_looks_181 ?_
        refine V.pick [0, 1] (l := [(0, _), (1, _)]) rfl ?_
        exact w_X12_looks_L182 hL hO N _ ih _ _ _ _ h
      · rw [if_neg c] at h
        refine V.iconst (pc := 177) (v := 1) hK (by decide) dX12_looks_177 ?_
        refine V.goto (pc := 178) (tgt := 182) hK dX12_looks_178 (by decide) ?_
        refine V.pick [0, 1] (l := [(0, _), (1, _)]) rfl ?_
        exact w_X12_looks_L182 hL hO N _ ih _ _ _ _ h
set_option maxHeartbeats 4000000 in
set_option maxRecDepth 100000 in
theorem w_X12_looks_L137 {E : v_E} {X : v_X} {sh : v_S} {P : v_P} {out : Int32 × v_M} (hL : v_Lay sh P) (hO : v_O E X cX12_looks RX12 4 1 none "looks" (v_Q1 (none) sh P out.2)) (N : Nat) (k31 : Int32 → v_M → Option (Int32 × v_M)) (hk31 : ∀ (x1 : Int32) (M : v_M), k31 x1 M = some out → V E X (0, 0) 31 [(0, v_rf E 79), (1, .int x1)] [] sh P M) (x1 : Int32) (M : v_M) (h : f_X12_looks_L137 N k31 x1 M = some out) : V E X (0, 0) 137 [(0, v_rf E 79), (1, .int x1)] [] sh P M := by
  have hK := hO.1
  unfold f_X12_looks_L137 at h
  refine V.iinc (pc := 137) (i := 1) (v := 1) (lv' := [(0, _), (1, _)]) hK rfl (by decide) (by decide) rfl dX12_looks_137 ?_
  refine V.goto (pc := 140) (tgt := 31) hK dX12_looks_140 (by decide) ?_
  refine V.pick [0, 1] (l := [(0, _), (1, _)]) rfl ?_
  exact hk31 _ _ h
set_option maxHeartbeats 4000000 in
set_option maxRecDepth 100000 in
theorem w_X12_looks_L136 {E : v_E} {X : v_X} {sh : v_S} {P : v_P} {out : Int32 × v_M} (hL : v_Lay sh P) (hO : v_O E X cX12_looks RX12 4 1 none "looks" (v_Q1 (none) sh P out.2)) (N : Nat) (k31 : Int32 → v_M → Option (Int32 × v_M)) (hk31 : ∀ (x1 : Int32) (M : v_M), k31 x1 M = some out → V E X (0, 0) 31 [(0, v_rf E 79), (1, .int x1)] [] sh P M) (x1 : Int32) (t0 : Int32) (t1 : Int32) (M : v_M) (h : f_X12_looks_L136 N k31 x1 t0 t1 M = some out) : V E X (0, 0) 136 [(0, v_rf E 79), (1, .int x1)] [.int t0, .int t1, v_rf E 135] sh P M := by
  have hK := hO.1
  unfold f_X12_looks_L136 at h
  obtain ⟨hb, h⟩ := v_ckS h
  refine V.iast (pc := 136) hK (hL.1 135 _ ls_135) (v_ibS hb) dX12_looks_136 ?_
  refine V.nmM (fun M1 eM1 => ?_)
  have h := v_lt eM1 h
  refine V.pick [0, 1] (l := [(0, _), (1, _)]) rfl ?_
  exact w_X12_looks_L137 hL hO N _ hk31 _ _ h
set_option maxHeartbeats 4000000 in
set_option maxRecDepth 100000 in
theorem w_X12_looks_L107 {E : v_E} {X : v_X} {sh : v_S} {P : v_P} {out : Int32 × v_M} (hL : v_Lay sh P) (hO : v_O E X cX12_looks RX12 4 1 none "looks" (v_Q1 (none) sh P out.2)) (N : Nat) (k31 : Int32 → v_M → Option (Int32 × v_M)) (hk31 : ∀ (x1 : Int32) (M : v_M), k31 x1 M = some out → V E X (0, 0) 31 [(0, v_rf E 79), (1, .int x1)] [] sh P M) (x1 : Int32) (t0 : Int32) (t1 : Int32) (M : v_M) (h : f_X12_looks_L107 N k31 x1 t0 t1 M = some out) : V E X (0, 0) 107 [(0, v_rf E 79), (1, .int x1)] [.int t0, .int t1, v_rf E 134] sh P M := by
  have hK := hO.1
  unfold f_X12_looks_L107 at h
  obtain ⟨hb, h⟩ := v_ckS h
  refine V.iast (pc := 107) hK (hL.1 134 _ ls_134) (v_ibS hb) dX12_looks_107 ?_
  refine V.nmM (fun M1 eM1 => ?_)
  have h := v_lt eM1 h
  refine V.goto (pc := 108) (tgt := 137) hK dX12_looks_108 (by decide) ?_
  refine V.pick [0, 1] (l := [(0, _), (1, _)]) rfl ?_
  exact w_X12_looks_L137 hL hO N _ hk31 _ _ h
set_option maxHeartbeats 4000000 in
set_option maxRecDepth 100000 in
theorem w_X12_looks_L97 {E : v_E} {X : v_X} {sh : v_S} {P : v_P} {out : Int32 × v_M} (hL : v_Lay sh P) (hO : v_O E X cX12_looks RX12 4 1 none "looks" (v_Q1 (none) sh P out.2)) (N : Nat) (k31 : Int32 → v_M → Option (Int32 × v_M)) (hk31 : ∀ (x1 : Int32) (M : v_M), k31 x1 M = some out → V E X (0, 0) 31 [(0, v_rf E 79), (1, .int x1)] [] sh P M) (x1 : Int32) (x3 : Int32) (t0 : Int32) (M : v_M) (h : f_X12_looks_L97 N k31 x1 x3 t0 M = some out) : V E X (0, 0) 97 [(0, v_rf E 79), (1, .int x1), (3, .int x3)] [.int t0, v_rf E 134] sh P M := by
  have hK := hO.1
  unfold f_X12_looks_L97 at h
  refine V.iload_n (pc := 97) (i := 3) hK rfl dX12_looks_97 ?_
  refine V.goto (pc := 98) (tgt := 107) hK dX12_looks_98 (by decide) ?_
  refine V.pick [0, 1] (l := [(0, _), (1, _)]) rfl ?_
  exact w_X12_looks_L107 hL hO N _ hk31 _ _ _ _ h
set_option maxHeartbeats 4000000 in
set_option maxRecDepth 100000 in
theorem w_X12_looks_L31 {E : v_E} {X : v_X} {sh : v_S} {P : v_P} {out : Int32 × v_M} (hL : v_Lay sh P) (hO : v_O E X cX12_looks RX12 4 1 none "looks" (v_Q1 (none) sh P out.2)) (N : Nat) (n : Nat) : ∀ (x1 : Int32) (M : v_M), f_X12_looks_L31 N n x1 M = some out → V E X (0, 0) 31 [(0, v_rf E 79), (1, .int x1)] [] sh P M := by
  have hK := hO.1
  induction n with
  | zero => intro x1 M h; rw [f_X12_looks_L31] at h; cases h
  | succ n ih =>
    intro x1 M h
    rw [f_X12_looks_L31] at h
    refine V.iload_n (pc := 31) (i := 1) hK rfl dX12_looks_31 ?_
    refine V.aload_n (pc := 32) (i := 0) hK rfl ⟨_, rfl⟩ dX12_looks_32 ?_
    refine V.getI (pc := 33) hK fl_RX12_506 rfl (hL.1 79 _ ls_79) dX12_looks_33 ?_
    refine V.icmp_ge (pc := 36) (tgt := 143) hK dX12_looks_36 (by decide) (fun c => ?_) (fun c => ?_)
    · rw [if_pos c] at h
      refine V.iconst (pc := 143) (v := 0) hK (by decide) dX12_looks_143 ?_
      refine V.istore_n (pc := 144) (i := 1) (lv' := [(0, _), (1, _)]) hK (by decide) rfl dX12_looks_144 ?_
      refine V.pick [0, 1] (l := [(0, _), (1, _)]) rfl ?_
      exact w_X12_looks_L145 hL hO N N _ _ h
    · rw [if_neg c] at h
      refine V.bipush (pc := 39) (v := 10) hK (by decide) dX12_looks_39 ?_
      refine V.aload_n (pc := 41) (i := 0) hK rfl ⟨_, rfl⟩ dX12_looks_41 ?_
      refine V.getR (pc := 42) hK fl_RX12_156 rfl (hL.1 79 _ ls_79) (hL.2 79 68 128 rfl) dX12_looks_42 ?_
      refine V.iload_n (pc := 45) (i := 1) hK rfl dX12_looks_45 ?_
      obtain ⟨hb, h⟩ := v_ckS h
      refine V.iald (pc := 46) hK (hL.1 128 _ ls_128) (v_ibS hb) dX12_looks_46 ?_
      refine V.imul (pc := 47) hK dX12_looks_47 ?_
      refine V.aload_n (pc := 48) (i := 0) hK rfl ⟨_, rfl⟩ dX12_looks_48 ?_
      refine V.getR (pc := 49) hK fl_RX12_159 rfl (hL.1 79 _ ls_79) (hL.2 79 69 129 rfl) dX12_looks_49 ?_
      refine V.iload_n (pc := 52) (i := 1) hK rfl dX12_looks_52 ?_
      obtain ⟨hb, h⟩ := v_ckS h
      refine V.iald (pc := 53) hK (hL.1 129 _ ls_129) (v_ibS hb) dX12_looks_53 ?_
      refine V.iadd (pc := 54) hK dX12_looks_54 ?_
      refine V.topi (fun y1 ey1 => ?_)
      have h := v_lt ey1 h
      refine V.istore_n (pc := 55) (i := 2) (lv' := [(0, _), (1, _), (2, _)]) hK (by decide) rfl dX12_looks_55 ?_
      refine V.aload_n (pc := 56) (i := 0) hK rfl ⟨_, rfl⟩ dX12_looks_56 ?_
      refine V.getR (pc := 57) hK fl_RX12_162 rfl (hL.1 79 _ ls_79) (hL.2 79 70 130 rfl) dX12_looks_57 ?_
      refine V.iload_n (pc := 60) (i := 1) hK rfl dX12_looks_60 ?_
      obtain ⟨hb, h⟩ := v_ckS h
      refine V.iald (pc := 61) hK (hL.1 130 _ ls_130) (v_ibS hb) dX12_looks_61 ?_
      refine V.topi (fun y2 ey2 => ?_)
      have h := v_lt ey2 h
      refine V.istore_n (pc := 62) (i := 3) (lv' := [(0, _), (1, _), (2, _), (3, _)]) hK (by decide) rfl dX12_looks_62 ?_
      refine V.aload_n (pc := 63) (i := 0) hK rfl ⟨_, rfl⟩ dX12_looks_63 ?_
      refine V.getR (pc := 64) hK fl_RX12_165 rfl (hL.1 79 _ ls_79) (hL.2 79 71 131 rfl) dX12_looks_64 ?_
      refine V.iload_n (pc := 67) (i := 1) hK rfl dX12_looks_67 ?_
      obtain ⟨hb, h⟩ := v_ckS h
      refine V.zald (pc := 68) hK (hL.1 131 _ ls_131) (v_ibS hb) dX12_looks_68 ?_
      refine V.if_eq (pc := 69) (tgt := 111) hK dX12_looks_69 (by decide) (fun c => ?_) (fun c => ?_)
      · rw [if_pos c] at h
        refine V.aload_n (pc := 111) (i := 0) hK rfl ⟨_, rfl⟩ dX12_looks_111 ?_
        refine V.getR (pc := 112) hK fl_RX12_178 rfl (hL.1 79 _ ls_79) (hL.2 79 75 135 rfl) dX12_looks_112 ?_
        refine V.iload_n (pc := 115) (i := 2) hK rfl dX12_looks_115 ?_
        refine V.iload_n (pc := 116) (i := 3) hK rfl dX12_looks_116 ?_
        refine V.aload_n (pc := 117) (i := 0) hK rfl ⟨_, rfl⟩ dX12_looks_117 ?_
        refine V.getR (pc := 118) hK fl_RX12_178 rfl (hL.1 79 _ ls_79) (hL.2 79 75 135 rfl) dX12_looks_118 ?_
        refine V.iload_n (pc := 121) (i := 2) hK rfl dX12_looks_121 ?_
        obtain ⟨hb, h⟩ := v_ckS h
        refine V.iald (pc := 122) hK (hL.1 135 _ ls_135) (v_ibS hb) dX12_looks_122 ?_
        refine V.icmp_le (pc := 123) (tgt := 130) hK dX12_looks_123 (by decide) (fun c => ?_) (fun c => ?_)
        · rw [if_pos c] at h
          refine V.aload_n (pc := 130) (i := 0) hK rfl ⟨_, rfl⟩ dX12_looks_130 ?_
          refine V.getR (pc := 131) hK fl_RX12_178 rfl (hL.1 79 _ ls_79) (hL.2 79 75 135 rfl) dX12_looks_131 ?_
          refine V.iload_n (pc := 134) (i := 2) hK rfl dX12_looks_134 ?_
          obtain ⟨hb, h⟩ := v_ckS h
          refine V.iald (pc := 135) hK (hL.1 135 _ ls_135) (v_ibS hb) dX12_looks_135 ?_
          refine V.pick [0, 1] (l := [(0, _), (1, _)]) rfl ?_
          exact w_X12_looks_L136 hL hO N _ ih _ _ _ _ h
        · rw [if_neg c] at h
          refine V.iload_n (pc := 126) (i := 3) hK rfl dX12_looks_126 ?_
          refine V.goto (pc := 127) (tgt := 136) hK dX12_looks_127 (by decide) ?_
          refine V.pick [0, 1] (l := [(0, _), (1, _)]) rfl ?_
          exact w_X12_looks_L136 hL hO N _ ih _ _ _ _ h
      · rw [if_neg c] at h
        refine V.aload_n (pc := 72) (i := 0) hK rfl ⟨_, rfl⟩ dX12_looks_72 ?_
        refine V.getR (pc := 73) hK fl_RX12_175 rfl (hL.1 79 _ ls_79) (hL.2 79 74 134 rfl) dX12_looks_73 ?_
        refine V.iload_n (pc := 76) (i := 2) hK rfl dX12_looks_76 ?_
        refine V.aload_n (pc := 77) (i := 0) hK rfl ⟨_, rfl⟩ dX12_looks_77 ?_
        refine V.getR (pc := 78) hK fl_RX12_175 rfl (hL.1 79 _ ls_79) (hL.2 79 74 134 rfl) dX12_looks_78 ?_
        refine V.iload_n (pc := 81) (i := 2) hK rfl dX12_looks_81 ?_
        obtain ⟨hb, h⟩ := v_ckS h
        refine V.iald (pc := 82) hK (hL.1 134 _ ls_134) (v_ibS hb) dX12_looks_82 ?_
        refine V.iconst (pc := 83) (v := -1) hK (by decide) dX12_looks_83 ?_
        refine V.icmp_eq (pc := 84) (tgt := 97) hK dX12_looks_84 (by decide) (fun c => ?_) (fun c => ?_)
        · rw [if_pos c] at h
          refine V.pick [0, 1, 3] (l := [(0, _), (1, _), (3, _)]) rfl ?_
          exact w_X12_looks_L97 hL hO N _ ih _ _ _ _ h
        · rw [if_neg c] at h
          refine V.iload_n (pc := 87) (i := 3) hK rfl dX12_looks_87 ?_
          refine V.aload_n (pc := 88) (i := 0) hK rfl ⟨_, rfl⟩ dX12_looks_88 ?_
          refine V.getR (pc := 89) hK fl_RX12_175 rfl (hL.1 79 _ ls_79) (hL.2 79 74 134 rfl) dX12_looks_89 ?_
          refine V.iload_n (pc := 92) (i := 2) hK rfl dX12_looks_92 ?_
          obtain ⟨hb, h⟩ := v_ckS h
          refine V.iald (pc := 93) hK (hL.1 134 _ ls_134) (v_ibS hb) dX12_looks_93 ?_
          refine V.icmp_ge (pc := 94) (tgt := 101) hK dX12_looks_94 (by decide) (fun c => ?_) (fun c => ?_)
          · rw [if_pos c] at h
            refine V.aload_n (pc := 101) (i := 0) hK rfl ⟨_, rfl⟩ dX12_looks_101 ?_
            refine V.getR (pc := 102) hK fl_RX12_175 rfl (hL.1 79 _ ls_79) (hL.2 79 74 134 rfl) dX12_looks_102 ?_
            refine V.iload_n (pc := 105) (i := 2) hK rfl dX12_looks_105 ?_
            obtain ⟨hb, h⟩ := v_ckS h
            refine V.iald (pc := 106) hK (hL.1 134 _ ls_134) (v_ibS hb) dX12_looks_106 ?_
            refine V.pick [0, 1] (l := [(0, _), (1, _)]) rfl ?_
            exact w_X12_looks_L107 hL hO N _ ih _ _ _ _ h
          · rw [if_neg c] at h
            refine V.pick [0, 1, 3] (l := [(0, _), (1, _), (3, _)]) rfl ?_
            exact w_X12_looks_L97 hL hO N _ ih _ _ _ _ h
set_option maxHeartbeats 4000000 in
set_option maxRecDepth 100000 in
theorem w_X12_looks_L2 {E : v_E} {X : v_X} {sh : v_S} {P : v_P} {out : Int32 × v_M} (hL : v_Lay sh P) (hO : v_O E X cX12_looks RX12 4 1 none "looks" (v_Q1 (none) sh P out.2)) (N : Nat) (n : Nat) : ∀ (x1 : Int32) (M : v_M), f_X12_looks_L2 N n x1 M = some out → V E X (0, 0) 2 [(0, v_rf E 79), (1, .int x1)] [] sh P M := by
  have hK := hO.1
  induction n with
  | zero => intro x1 M h; rw [f_X12_looks_L2] at h; cases h
  | succ n ih =>
    intro x1 M h
    rw [f_X12_looks_L2] at h
    refine V.iload_n (pc := 2) (i := 1) hK rfl dX12_looks_2 ?_
    refine V.sipush (pc := 3) (v := 200) hK (by decide) dX12_looks_3 ?_
    refine V.icmp_ge (pc := 6) (tgt := 29) hK dX12_looks_6 (by decide) (fun c => ?_) (fun c => ?_)
    · rw [if_pos c] at h
      refine V.iconst (pc := 29) (v := 0) hK (by decide) dX12_looks_29 ?_
      refine V.istore_n (pc := 30) (i := 1) (lv' := [(0, _), (1, _)]) hK (by decide) rfl dX12_looks_30 ?_
      refine V.pick [0, 1] (l := [(0, _), (1, _)]) rfl ?_
      exact w_X12_looks_L31 hL hO N N _ _ h
    · rw [if_neg c] at h
      refine V.aload_n (pc := 9) (i := 0) hK rfl ⟨_, rfl⟩ dX12_looks_9 ?_
      refine V.getR (pc := 10) hK fl_RX12_175 rfl (hL.1 79 _ ls_79) (hL.2 79 74 134 rfl) dX12_looks_10 ?_
      refine V.iload_n (pc := 13) (i := 1) hK rfl dX12_looks_13 ?_
      refine V.iconst (pc := 14) (v := -1) hK (by decide) dX12_looks_14 ?_
      obtain ⟨hb, h⟩ := v_ckS h
      refine V.iast (pc := 15) hK (hL.1 134 _ ls_134) (v_ibS hb) dX12_looks_15 ?_
      refine V.nmM (fun M1 eM1 => ?_)
      have h := v_lt eM1 h
      refine V.aload_n (pc := 16) (i := 0) hK rfl ⟨_, rfl⟩ dX12_looks_16 ?_
      refine V.getR (pc := 17) hK fl_RX12_178 rfl (hL.1 79 _ ls_79) (hL.2 79 75 135 rfl) dX12_looks_17 ?_
      refine V.iload_n (pc := 20) (i := 1) hK rfl dX12_looks_20 ?_
      refine V.iconst (pc := 21) (v := -1) hK (by decide) dX12_looks_21 ?_
      obtain ⟨hb, h⟩ := v_ckS h
      refine V.iast (pc := 22) hK (hL.1 135 _ ls_135) (v_ibS hb) dX12_looks_22 ?_
      refine V.nmM (fun M2 eM2 => ?_)
      have h := v_lt eM2 h
      refine V.iinc (pc := 23) (i := 1) (v := 1) (lv' := [(0, _), (1, _)]) hK rfl (by decide) (by decide) rfl dX12_looks_23 ?_
      refine V.goto (pc := 26) (tgt := 2) hK dX12_looks_26 (by decide) ?_
      refine V.pick [0, 1] (l := [(0, _), (1, _)]) rfl ?_
      exact ih _ _ h
set_option maxHeartbeats 4000000 in
set_option maxRecDepth 100000 in
theorem c_X12_looks (E : v_E) {sh : v_S} {P : v_P} (hL : v_Lay sh P) (N : Nat) (M : v_M) {out : Int32 × v_M} (h : f_X12_looks N M = some out) : v_Ct E 1 yX12_looks cX12_looks 4 none 0 0 [v_rf E 79] sh P M (v_Q1 (none) sh P out.2) := by
  refine v_Ct.of (by decide +kernel) (Nat.le_of_ble_eq_true rfl) (fun X hO => ?_)
  have hK : v_K E X cX12_looks RX12 4 1 := hO.1
  have hO : v_O E X cX12_looks RX12 4 1 none "looks" (v_Q1 (none) sh P out.2) := hO
  show V E X (0, 0) 0 [(0, v_rf E 79)] [] sh P M
  unfold f_X12_looks at h
  refine V.iconst (pc := 0) (v := 0) hK (by decide) dX12_looks_0 ?_
  refine V.istore_n (pc := 1) (i := 1) (lv' := [(0, _), (1, _)]) hK (by decide) rfl dX12_looks_1 ?_
  refine V.pick [0, 1] (l := [(0, _), (1, _)]) rfl ?_
  exact w_X12_looks_L2 hL hO N N _ _ h
set_option maxHeartbeats 4000000 in
set_option maxRecDepth 100000 in
theorem c_X12_fits (E : v_E) {sh : v_S} {P : v_P} (hL : v_Lay sh P) (N : Nat) (x1 : Int32) (x2 : Int32) (x3 : Int32) (M : v_M) {out : Int32 × v_M} (h : f_X12_fits N x1 x2 x3 M = some out) : v_Ct E 1 yX12_fits cX12_fits 4 (some .boolean) 0 0 [v_rf E 79, .int x1, .int x2, .int x3] sh P M (v_Q1 (some (.int out.1)) sh P out.2) := by
  refine v_Ct.of (by decide +kernel) (Nat.le_of_ble_eq_true rfl) (fun X hO => ?_)
  have hK : v_K E X cX12_fits RX12 4 1 := hO.1
  have hO : v_O E X cX12_fits RX12 4 1 (some .boolean) "fits" (v_Q1 (some (.int out.1)) sh P out.2) := hO
  show V E X (0, 0) 0 [(0, v_rf E 79), (1, .int x1), (2, .int x2), (3, .int x3)] [] sh P M
  unfold f_X12_fits at h
  refine V.iload_n (pc := 0) (i := 1) hK rfl dX12_fits_0 ?_
  refine V.iload_n (pc := 1) (i := 3) hK rfl dX12_fits_1 ?_
  refine V.icmp_eq (pc := 2) (tgt := 42) hK dX12_fits_2 (by decide) (fun c => ?_) (fun c => ?_)
  · rw [if_pos c] at h
    refine V.iconst (pc := 42) (v := 0) hK (by decide) dX12_fits_42 ?_
    obtain ⟨hb, h⟩ := v_ckS h
    exact V.zret (pc := 43) hO (v_z01 hb) dX12_fits_43 (v_finI h)
  · rw [if_neg c] at h
    refine V.aload_n (pc := 5) (i := 0) hK rfl ⟨_, rfl⟩ dX12_fits_5 ?_
    refine V.getR (pc := 6) hK fl_RX12_169 rfl (hL.1 79 _ ls_79) (hL.2 79 72 132 rfl) dX12_fits_6 ?_
    refine V.iload_n (pc := 9) (i := 1) hK rfl dX12_fits_9 ?_
    obtain ⟨hb, h⟩ := v_ckS h
    refine V.zald (pc := 10) hK (hL.1 132 _ ls_132) (v_ibS hb) dX12_fits_10 ?_
    refine V.if_eq (pc := 11) (tgt := 42) hK dX12_fits_11 (by decide) (fun c => ?_) (fun c => ?_)
    · rw [if_pos c] at h
      refine V.iconst (pc := 42) (v := 0) hK (by decide) dX12_fits_42 ?_
      obtain ⟨hb, h⟩ := v_ckS h
      exact V.zret (pc := 43) hO (v_z01 hb) dX12_fits_43 (v_finI h)
    · rw [if_neg c] at h
      refine V.aload_n (pc := 14) (i := 0) hK rfl ⟨_, rfl⟩ dX12_fits_14 ?_
      refine V.iload_n (pc := 15) (i := 1) hK rfl dX12_fits_15 ?_
      obtain ⟨z1, hz1, h⟩ := v_bdS h
      refine V.cV (pc := 16) (ci := 12) hK (c_X12_needOf E hL N _ _ hz1) Y_X12_needOf cv_RX12_509 (by decide) rfl (hL.1 79 _ ls_79) dX12_fits_16 (by decide) rfl (Nat.le_of_ble_eq_true rfl) ?_
      refine V.iload_n (pc := 19) (i := 2) hK rfl dX12_fits_19 ?_
      refine V.icmp_ne (pc := 20) (tgt := 42) hK dX12_fits_20 (by decide) (fun c => ?_) (fun c => ?_)
      · rw [if_neg c] at h
        refine V.iconst (pc := 42) (v := 0) hK (by decide) dX12_fits_42 ?_
        obtain ⟨hb, h⟩ := v_ckS h
        exact V.zret (pc := 43) hO (v_z01 hb) dX12_fits_43 (v_finI h)
      · rw [if_pos c] at h
        refine V.aload_n (pc := 23) (i := 0) hK rfl ⟨_, rfl⟩ dX12_fits_23 ?_
        refine V.getR (pc := 24) hK fl_RX12_147 rfl (hL.1 79 _ ls_79) (hL.2 79 65 125 rfl) dX12_fits_24 ?_
        refine V.iload_n (pc := 27) (i := 1) hK rfl dX12_fits_27 ?_
        obtain ⟨hb, h⟩ := v_ckS h
        refine V.iald (pc := 28) hK (hL.1 125 _ ls_125) (v_ibS hb) dX12_fits_28 ?_
        refine V.aload_n (pc := 29) (i := 0) hK rfl ⟨_, rfl⟩ dX12_fits_29 ?_
        refine V.getR (pc := 30) hK fl_RX12_175 rfl (hL.1 79 _ ls_79) (hL.2 79 74 134 rfl) dX12_fits_30 ?_
        refine V.iload_n (pc := 33) (i := 2) hK rfl dX12_fits_33 ?_
        obtain ⟨hb, h⟩ := v_ckS h
        refine V.iald (pc := 34) hK (hL.1 134 _ ls_134) (v_ibS hb) dX12_fits_34 ?_
        refine V.icmp_gt (pc := 35) (tgt := 42) hK dX12_fits_35 (by decide) (fun c => ?_) (fun c => ?_)
        · rw [if_pos c] at h
          refine V.iconst (pc := 42) (v := 0) hK (by decide) dX12_fits_42 ?_
          obtain ⟨hb, h⟩ := v_ckS h
          exact V.zret (pc := 43) hO (v_z01 hb) dX12_fits_43 (v_finI h)
        · rw [if_neg c] at h
          refine V.iconst (pc := 38) (v := 1) hK (by decide) dX12_fits_38 ?_
          refine V.goto (pc := 39) (tgt := 43) hK dX12_fits_39 (by decide) ?_
          obtain ⟨hb, h⟩ := v_ckS h
          exact V.zret (pc := 43) hO (v_z01 hb) dX12_fits_43 (v_finI h)
set_option maxHeartbeats 4000000 in
set_option maxRecDepth 100000 in
theorem w_X12_isIn_L31 {E : v_E} {X : v_X} {sh : v_S} {P : v_P} {out : Int32 × v_M} (hL : v_Lay sh P) (hO : v_O E X cX12_isIn RX12 5 0 (some .boolean) "isIn" (v_Q1 (some (.int out.1)) sh P out.2)) (N : Nat) (k5 : Int32 → Int32 → Int32 → Int32 → v_M → Option (Int32 × v_M)) (hk5 : ∀ (x1 : Int32) (x2 : Int32) (x3 : Int32) (x4 : Int32) (M : v_M), k5 x1 x2 x3 x4 M = some out → V E X (0, 0) 5 [(0, v_rf E 79), (1, .int x1), (2, .int x2), (3, .int x3), (4, .int x4)] [] sh P M) (x1 : Int32) (x2 : Int32) (x4 : Int32) (t0 : Int32) (M : v_M) (h : f_X12_isIn_L31 N k5 x1 x2 x4 t0 M = some out) : V E X (0, 0) 31 [(0, v_rf E 79), (1, .int x1), (2, .int x2), (4, .int x4)] [.int t0] sh P M := by
  have hK := hO.1
  unfold f_X12_isIn_L31 at h
  refine V.istore_n (pc := 31) (i := 3) (lv' := [(0, _), (1, _), (2, _), (3, _), (4, _)]) hK (by decide) rfl dX12_isIn_31 ?_
  refine V.iinc (pc := 32) (i := 4) (v := 1) (lv' := [(0, _), (1, _), (2, _), (3, _), (4, _)]) hK rfl (by decide) (by decide) rfl dX12_isIn_32 ?_
  refine V.goto (pc := 35) (tgt := 5) hK dX12_isIn_35 (by decide) ?_
  refine V.pick [0, 1, 2, 3, 4] (l := [(0, _), (1, _), (2, _), (3, _), (4, _)]) rfl ?_
  exact hk5 _ _ _ _ _ h
set_option maxHeartbeats 4000000 in
set_option maxRecDepth 100000 in
theorem w_X12_isIn_L26 {E : v_E} {X : v_X} {sh : v_S} {P : v_P} {out : Int32 × v_M} (hL : v_Lay sh P) (hO : v_O E X cX12_isIn RX12 5 0 (some .boolean) "isIn" (v_Q1 (some (.int out.1)) sh P out.2)) (N : Nat) (k5 : Int32 → Int32 → Int32 → Int32 → v_M → Option (Int32 × v_M)) (hk5 : ∀ (x1 : Int32) (x2 : Int32) (x3 : Int32) (x4 : Int32) (M : v_M), k5 x1 x2 x3 x4 M = some out → V E X (0, 0) 5 [(0, v_rf E 79), (1, .int x1), (2, .int x2), (3, .int x3), (4, .int x4)] [] sh P M) (x1 : Int32) (x2 : Int32) (x4 : Int32) (M : v_M) (h : f_X12_isIn_L26 N k5 x1 x2 x4 M = some out) : V E X (0, 0) 26 [(0, v_rf E 79), (1, .int x1), (2, .int x2), (4, .int x4)] [] sh P M := by
  have hK := hO.1
  unfold f_X12_isIn_L26 at h
  refine V.iconst (pc := 26) (v := 1) hK (by decide) dX12_isIn_26 ?_
  refine V.goto (pc := 27) (tgt := 31) hK dX12_isIn_27 (by decide) ?_
  refine V.pick [0, 1, 2, 4] (l := [(0, _), (1, _), (2, _), (4, _)]) rfl ?_
  exact w_X12_isIn_L31 hL hO N _ hk5 _ _ _ _ _ h
set_option maxHeartbeats 4000000 in
set_option maxRecDepth 100000 in
theorem w_X12_isIn_L5 {E : v_E} {X : v_X} {sh : v_S} {P : v_P} {out : Int32 × v_M} (hL : v_Lay sh P) (hO : v_O E X cX12_isIn RX12 5 0 (some .boolean) "isIn" (v_Q1 (some (.int out.1)) sh P out.2)) (N : Nat) (n : Nat) : ∀ (x1 : Int32) (x2 : Int32) (x3 : Int32) (x4 : Int32) (M : v_M), f_X12_isIn_L5 N n x1 x2 x3 x4 M = some out → V E X (0, 0) 5 [(0, v_rf E 79), (1, .int x1), (2, .int x2), (3, .int x3), (4, .int x4)] [] sh P M := by
  have hK := hO.1
  induction n with
  | zero => intro x1 x2 x3 x4 M h; rw [f_X12_isIn_L5] at h; cases h
  | succ n ih =>
    intro x1 x2 x3 x4 M h
    rw [f_X12_isIn_L5] at h
    refine V.iload (pc := 5) (i := 4) hK rfl dX12_isIn_5 ?_
    refine V.iload_n (pc := 7) (i := 2) hK rfl dX12_isIn_7 ?_
    refine V.icmp_ge (pc := 8) (tgt := 38) hK dX12_isIn_8 (by decide) (fun c => ?_) (fun c => ?_)
    · rw [if_pos c] at h
      refine V.iload_n (pc := 38) (i := 3) hK rfl dX12_isIn_38 ?_
      obtain ⟨hb, h⟩ := v_ckS h
      exact V.zret (pc := 39) hO (v_z01 hb) dX12_isIn_39 (v_finI h)
    · rw [if_neg c] at h
      refine V.iload_n (pc := 11) (i := 3) hK rfl dX12_isIn_11 ?_
      refine V.if_ne (pc := 12) (tgt := 26) hK dX12_isIn_12 (by decide) (fun c => ?_) (fun c => ?_)
      · rw [if_neg c] at h
        refine V.pick [0, 1, 2, 4] (l := [(0, _), (1, _), (2, _), (4, _)]) rfl ?_
        exact w_X12_isIn_L26 hL hO N _ ih _ _ _ _ h
      · rw [if_pos c] at h
        refine V.aload_n (pc := 15) (i := 0) hK rfl ⟨_, rfl⟩ dX12_isIn_15 ?_
        refine V.getR (pc := 16) hK fl_RX12_190 rfl (hL.1 79 _ ls_79) (hL.2 79 79 139 rfl) dX12_isIn_16 ?_
        refine V.iload (pc := 19) (i := 4) hK rfl dX12_isIn_19 ?_
        obtain ⟨hb, h⟩ := v_ckS h
        refine V.iald (pc := 21) hK (hL.1 139 _ ls_139) (v_ibS hb) dX12_isIn_21 ?_
        refine V.iload_n (pc := 22) (i := 1) hK rfl dX12_isIn_22 ?_
        refine V.icmp_ne (pc := 23) (tgt := 30) hK dX12_isIn_23 (by decide) (fun c => ?_) (fun c => ?_)
        · rw [if_neg c] at h
          refine V.iconst (pc := 30) (v := 0) hK (by decide) dX12_isIn_30 ?_
          refine V.pick [0, 1, 2, 4] (l := [(0, _), (1, _), (2, _), (4, _)]) rfl ?_
          exact w_X12_isIn_L31 hL hO N _ ih _ _ _ _ _ h
        · rw [if_pos c] at h
          refine V.pick [0, 1, 2, 4] (l := [(0, _), (1, _), (2, _), (4, _)]) rfl ?_
          exact w_X12_isIn_L26 hL hO N _ ih _ _ _ _ h
set_option maxHeartbeats 4000000 in
set_option maxRecDepth 100000 in
theorem c_X12_isIn (E : v_E) {sh : v_S} {P : v_P} (hL : v_Lay sh P) (N : Nat) (x1 : Int32) (x2 : Int32) (M : v_M) {out : Int32 × v_M} (h : f_X12_isIn N x1 x2 M = some out) : v_Ct E 0 yX12_isIn cX12_isIn 5 (some .boolean) 0 0 [v_rf E 79, .int x1, .int x2] sh P M (v_Q1 (some (.int out.1)) sh P out.2) := by
  refine v_Ct.of (by decide +kernel) (Nat.le_of_ble_eq_true rfl) (fun X hO => ?_)
  have hK : v_K E X cX12_isIn RX12 5 0 := hO.1
  have hO : v_O E X cX12_isIn RX12 5 0 (some .boolean) "isIn" (v_Q1 (some (.int out.1)) sh P out.2) := hO
  show V E X (0, 0) 0 [(0, v_rf E 79), (1, .int x1), (2, .int x2)] [] sh P M
  unfold f_X12_isIn at h
  refine V.iconst (pc := 0) (v := 0) hK (by decide) dX12_isIn_0 ?_
  refine V.istore_n (pc := 1) (i := 3) (lv' := [(0, _), (1, _), (2, _), (3, _)]) hK (by decide) rfl dX12_isIn_1 ?_
  refine V.iconst (pc := 2) (v := 0) hK (by decide) dX12_isIn_2 ?_
  refine V.istore (pc := 3) (i := 4) (lv' := [(0, _), (1, _), (2, _), (3, _), (4, _)]) hK (by decide) rfl dX12_isIn_3 ?_
  refine V.pick [0, 1, 2, 3, 4] (l := [(0, _), (1, _), (2, _), (3, _), (4, _)]) rfl ?_
  exact w_X12_isIn_L5 hL hO N N _ _ _ _ _ h
set_option maxHeartbeats 4000000 in
set_option maxRecDepth 100000 in
theorem w_X12_gives_L5 {E : v_E} {X : v_X} {sh : v_S} {P : v_P} {out : Int32 × v_M} (hL : v_Lay sh P) (hO : v_O E X cX12_gives RX12 5 0 none "gives" (v_Q1 (none) sh P out.2)) (N : Nat) (n : Nat) : ∀ (x3 : Int32) (x4 : Int32) (M : v_M), f_X12_gives_L5 N n x3 x4 M = some out → V E X (0, 0) 5 [(0, v_rf E 79), (3, .int x3), (4, .int x4)] [] sh P M := by
  have hK := hO.1
  induction n with
  | zero => intro x3 x4 M h; rw [f_X12_gives_L5] at h; cases h
  | succ n ih =>
    intro x3 x4 M h
    rw [f_X12_gives_L5] at h
    refine V.iload_n (pc := 5) (i := 3) hK rfl dX12_gives_5 ?_
    refine V.iconst (pc := 6) (v := -1) hK (by decide) dX12_gives_6 ?_
    refine V.icmp_eq (pc := 7) (tgt := 36) hK dX12_gives_7 (by decide) (fun c => ?_) (fun c => ?_)
    · rw [if_pos c] at h
      exact V.vret (pc := 36) hO dX12_gives_36 (v_finV h)
    · rw [if_neg c] at h
      refine V.aload_n (pc := 10) (i := 0) hK rfl ⟨_, rfl⟩ dX12_gives_10 ?_
      refine V.getR (pc := 11) hK fl_RX12_181 rfl (hL.1 79 _ ls_79) (hL.2 79 76 136 rfl) dX12_gives_11 ?_
      refine V.iload_n (pc := 14) (i := 3) hK rfl dX12_gives_14 ?_
      refine V.iload (pc := 15) (i := 4) hK rfl dX12_gives_15 ?_
      obtain ⟨hb, h⟩ := v_ckS h
      refine V.iast (pc := 17) hK (hL.1 136 _ ls_136) (v_ibS hb) dX12_gives_17 ?_
      refine V.nmM (fun M1 eM1 => ?_)
      have h := v_lt eM1 h
      refine V.aload_n (pc := 18) (i := 0) hK rfl ⟨_, rfl⟩ dX12_gives_18 ?_
      refine V.getR (pc := 19) hK fl_RX12_187 rfl (hL.1 79 _ ls_79) (hL.2 79 78 138 rfl) dX12_gives_19 ?_
      refine V.iload_n (pc := 22) (i := 3) hK rfl dX12_gives_22 ?_
      obtain ⟨hb, h⟩ := v_ckS h
      refine V.iald (pc := 23) hK (hL.1 138 _ ls_138) (v_ibS hb) dX12_gives_23 ?_
      refine V.topi (fun y2 ey2 => ?_)
      have h := v_lt ey2 h
      refine V.istore (pc := 24) (i := 4) (lv' := [(0, _), (3, _), (4, _)]) hK (by decide) rfl dX12_gives_24 ?_
      refine V.aload_n (pc := 26) (i := 0) hK rfl ⟨_, rfl⟩ dX12_gives_26 ?_
      refine V.getR (pc := 27) hK fl_RX12_184 rfl (hL.1 79 _ ls_79) (hL.2 79 77 137 rfl) dX12_gives_27 ?_
      refine V.iload_n (pc := 30) (i := 3) hK rfl dX12_gives_30 ?_
      obtain ⟨hb, h⟩ := v_ckS h
      refine V.iald (pc := 31) hK (hL.1 137 _ ls_137) (v_ibS hb) dX12_gives_31 ?_
      refine V.topi (fun y3 ey3 => ?_)
      have h := v_lt ey3 h
      refine V.istore_n (pc := 32) (i := 3) (lv' := [(0, _), (3, _), (4, _)]) hK (by decide) rfl dX12_gives_32 ?_
      refine V.goto (pc := 33) (tgt := 5) hK dX12_gives_33 (by decide) ?_
      refine V.pick [0, 3, 4] (l := [(0, _), (3, _), (4, _)]) rfl ?_
      exact ih _ _ _ h
set_option maxHeartbeats 4000000 in
set_option maxRecDepth 100000 in
theorem c_X12_gives (E : v_E) {sh : v_S} {P : v_P} (hL : v_Lay sh P) (N : Nat) (x1 : Int32) (x2 : Int32) (M : v_M) {out : Int32 × v_M} (h : f_X12_gives N x1 x2 M = some out) : v_Ct E 0 yX12_gives cX12_gives 5 none 0 0 [v_rf E 79, .int x1, .int x2] sh P M (v_Q1 (none) sh P out.2) := by
  refine v_Ct.of (by decide +kernel) (Nat.le_of_ble_eq_true rfl) (fun X hO => ?_)
  have hK : v_K E X cX12_gives RX12 5 0 := hO.1
  have hO : v_O E X cX12_gives RX12 5 0 none "gives" (v_Q1 (none) sh P out.2) := hO
  show V E X (0, 0) 0 [(0, v_rf E 79), (1, .int x1), (2, .int x2)] [] sh P M
  unfold f_X12_gives at h
  refine V.iload_n (pc := 0) (i := 1) hK rfl dX12_gives_0 ?_
  refine V.istore_n (pc := 1) (i := 3) (lv' := [(0, _), (1, _), (2, _), (3, _)]) hK (by decide) rfl dX12_gives_1 ?_
  refine V.iload_n (pc := 2) (i := 2) hK rfl dX12_gives_2 ?_
  refine V.istore (pc := 3) (i := 4) (lv' := [(0, _), (1, _), (2, _), (3, _), (4, _)]) hK (by decide) rfl dX12_gives_3 ?_
  refine V.pick [0, 3, 4] (l := [(0, _), (3, _), (4, _)]) rfl ?_
  exact w_X12_gives_L5 hL hO N N _ _ _ h
set_option maxHeartbeats 4000000 in
set_option maxRecDepth 100000 in
theorem w_X12_paper_L22 {E : v_E} {X : v_X} {sh : v_S} {P : v_P} {out : Int32 × v_M} (hL : v_Lay sh P) (hO : v_O E X cX12_paper RX12 4 2 (some .int) "paper" (v_Q1 (some (.int out.1)) sh P out.2)) (N : Nat) (x1 : Int32) (x2 : Int32) (x3 : Int32) (M : v_M) (h : f_X12_paper_L22 N x1 x2 x3 M = some out) : V E X (0, 0) 22 [(0, v_rf E 79), (1, .int x1), (2, .int x2), (3, .int x3)] [] sh P M := by
  have hK := hO.1
  unfold f_X12_paper_L22 at h
  refine V.iload_n (pc := 22) (i := 2) hK rfl dX12_paper_22 ?_
  refine V.i2l (pc := 23) hK dX12_paper_23 ?_
  refine V.lconst (pc := 24) (v := 0) hK (by decide) dX12_paper_24 ?_
  refine V.aload_n (pc := 25) (i := 0) hK rfl ⟨_, rfl⟩ dX12_paper_25 ?_
  refine V.getI (pc := 26) hK fl_RX12_233 rfl (hL.1 79 _ ls_79) dX12_paper_26 ?_
  refine V.i2l (pc := 29) hK dX12_paper_29 ?_
  obtain ⟨z1, hz1, h⟩ := v_bdS h
  refine V.cS (pc := 30) hK (c_X12_in E hL N _ _ _ _ hz1) Y_X12_in cs_RX12_229 dX12_paper_30 (by decide) rfl (Nat.le_of_ble_eq_true rfl) ?_
  refine V.if_eq (pc := 33) (tgt := 49) hK dX12_paper_33 (by decide) (fun c => ?_) (fun c => ?_)
  · rw [if_pos c] at h
    refine V.iconst (pc := 49) (v := -1) hK (by decide) dX12_paper_49 ?_
    exact V.iret (pc := 50) hO dX12_paper_50 (v_finI h)
  · rw [if_neg c] at h
    refine V.iload_n (pc := 36) (i := 3) hK rfl dX12_paper_36 ?_
    refine V.if_lt (pc := 37) (tgt := 49) hK dX12_paper_37 (by decide) (fun c => ?_) (fun c => ?_)
    · rw [if_pos c] at h
      refine V.iconst (pc := 49) (v := -1) hK (by decide) dX12_paper_49 ?_
      exact V.iret (pc := 50) hO dX12_paper_50 (v_finI h)
    · rw [if_neg c] at h
      refine V.iload_n (pc := 40) (i := 3) hK rfl dX12_paper_40 ?_
      refine V.aload_n (pc := 41) (i := 0) hK rfl ⟨_, rfl⟩ dX12_paper_41 ?_
      refine V.getI (pc := 42) hK fl_RX12_531 rfl (hL.1 79 _ ls_79) dX12_paper_42 ?_
      refine V.ishr (pc := 45) hK dX12_paper_45 ?_
      refine V.if_eq (pc := 46) (tgt := 51) hK dX12_paper_46 (by decide) (fun c => ?_) (fun c => ?_)
      · rw [if_pos c] at h
        refine V.aload_n (pc := 51) (i := 0) hK rfl ⟨_, rfl⟩ dX12_paper_51 ?_
        refine V.getR (pc := 52) hK fl_RX12_193 rfl (hL.1 79 _ ls_79) (hL.2 79 81 140 rfl) dX12_paper_52 ?_
        refine V.aload_n (pc := 55) (i := 0) hK rfl ⟨_, rfl⟩ dX12_paper_55 ?_
        refine V.getI (pc := 56) hK fl_RX12_531 rfl (hL.1 79 _ ls_79) dX12_paper_56 ?_
        refine V.iload_n (pc := 59) (i := 1) hK rfl dX12_paper_59 ?_
        obtain ⟨hb, h⟩ := v_ckS h
        refine V.iast (pc := 60) hK (hL.1 140 _ ls_140) (v_ibS hb) dX12_paper_60 ?_
        refine V.nmM (fun M2 eM2 => ?_)
        have h := v_lt eM2 h
        refine V.aload_n (pc := 61) (i := 0) hK rfl ⟨_, rfl⟩ dX12_paper_61 ?_
        refine V.getR (pc := 62) hK fl_RX12_196 rfl (hL.1 79 _ ls_79) (hL.2 79 82 141 rfl) dX12_paper_62 ?_
        refine V.aload_n (pc := 65) (i := 0) hK rfl ⟨_, rfl⟩ dX12_paper_65 ?_
        refine V.getI (pc := 66) hK fl_RX12_531 rfl (hL.1 79 _ ls_79) dX12_paper_66 ?_
        refine V.iload_n (pc := 69) (i := 2) hK rfl dX12_paper_69 ?_
        obtain ⟨hb, h⟩ := v_ckS h
        refine V.iast (pc := 70) hK (hL.1 141 _ ls_141) (v_ibS hb) dX12_paper_70 ?_
        refine V.nmM (fun M3 eM3 => ?_)
        have h := v_lt eM3 h
        refine V.aload_n (pc := 71) (i := 0) hK rfl ⟨_, rfl⟩ dX12_paper_71 ?_
        refine V.getR (pc := 72) hK fl_RX12_199 rfl (hL.1 79 _ ls_79) (hL.2 79 83 142 rfl) dX12_paper_72 ?_
        refine V.aload_n (pc := 75) (i := 0) hK rfl ⟨_, rfl⟩ dX12_paper_75 ?_
        refine V.getI (pc := 76) hK fl_RX12_531 rfl (hL.1 79 _ ls_79) dX12_paper_76 ?_
        refine V.iload_n (pc := 79) (i := 3) hK rfl dX12_paper_79 ?_
        obtain ⟨hb, h⟩ := v_ckS h
        refine V.iast (pc := 80) hK (hL.1 142 _ ls_142) (v_ibS hb) dX12_paper_80 ?_
        refine V.nmM (fun M4 eM4 => ?_)
        have h := v_lt eM4 h
        refine V.aload_n (pc := 81) (i := 0) hK rfl ⟨_, rfl⟩ dX12_paper_81 ?_
        refine V.dup (pc := 82) hK rfl dX12_paper_82 ?_
        refine V.getI (pc := 83) hK fl_RX12_531 rfl (hL.1 79 _ ls_79) dX12_paper_83 ?_
        refine V.iconst (pc := 86) (v := 1) hK (by decide) dX12_paper_86 ?_
        refine V.iadd (pc := 87) hK dX12_paper_87 ?_
        refine V.putI (pc := 88) hK fl_RX12_531 rfl rfl ⟨rfl, rfl⟩ (hL.1 79 _ ls_79) dX12_paper_88 ?_
        refine V.nmM (fun M5 eM5 => ?_)
        have h := v_lt eM5 h
        refine V.aload_n (pc := 91) (i := 0) hK rfl ⟨_, rfl⟩ dX12_paper_91 ?_
        refine V.getI (pc := 92) hK fl_RX12_531 rfl (hL.1 79 _ ls_79) dX12_paper_92 ?_
        refine V.iconst (pc := 95) (v := 1) hK (by decide) dX12_paper_95 ?_
        refine V.isub (pc := 96) hK dX12_paper_96 ?_
        exact V.iret (pc := 97) hO dX12_paper_97 (v_finI h)
      · rw [if_neg c] at h
        refine V.iconst (pc := 49) (v := -1) hK (by decide) dX12_paper_49 ?_
        exact V.iret (pc := 50) hO dX12_paper_50 (v_finI h)
set_option maxHeartbeats 4000000 in
set_option maxRecDepth 100000 in
theorem c_X12_paper (E : v_E) {sh : v_S} {P : v_P} (hL : v_Lay sh P) (N : Nat) (x1 : Int32) (x2 : Int32) (x3 : Int32) (M : v_M) {out : Int32 × v_M} (h : f_X12_paper N x1 x2 x3 M = some out) : v_Ct E 2 yX12_paper cX12_paper 4 (some .int) 0 0 [v_rf E 79, .int x1, .int x2, .int x3] sh P M (v_Q1 (some (.int out.1)) sh P out.2) := by
  refine v_Ct.of (by decide +kernel) (Nat.le_of_ble_eq_true rfl) (fun X hO => ?_)
  have hK : v_K E X cX12_paper RX12 4 2 := hO.1
  have hO : v_O E X cX12_paper RX12 4 2 (some .int) "paper" (v_Q1 (some (.int out.1)) sh P out.2) := hO
  show V E X (0, 0) 0 [(0, v_rf E 79), (1, .int x1), (2, .int x2), (3, .int x3)] [] sh P M
  unfold f_X12_paper at h
  refine V.aload_n (pc := 0) (i := 0) hK rfl ⟨_, rfl⟩ dX12_paper_0 ?_
  refine V.getI (pc := 1) hK fl_RX12_531 rfl (hL.1 79 _ ls_79) dX12_paper_1 ?_
  refine V.bipush (pc := 4) (v := 30) hK (by decide) dX12_paper_4 ?_
  refine V.icmp_eq (pc := 6) (tgt := 49) hK dX12_paper_6 (by decide) (fun c => ?_) (fun c => ?_)
  · rw [if_pos c] at h
    refine V.iconst (pc := 49) (v := -1) hK (by decide) dX12_paper_49 ?_
    exact V.iret (pc := 50) hO dX12_paper_50 (v_finI h)
  · rw [if_neg c] at h
    refine V.iload_n (pc := 9) (i := 1) hK rfl dX12_paper_9 ?_
    refine V.iconst (pc := 10) (v := -1) hK (by decide) dX12_paper_10 ?_
    refine V.icmp_eq (pc := 11) (tgt := 22) hK dX12_paper_11 (by decide) (fun c => ?_) (fun c => ?_)
    · rw [if_pos c] at h
      refine V.pick [0, 1, 2, 3] (l := [(0, _), (1, _), (2, _), (3, _)]) rfl ?_
      exact w_X12_paper_L22 hL hO N _ _ _ _ h
    · rw [if_neg c] at h
      refine V.aload_n (pc := 14) (i := 0) hK rfl ⟨_, rfl⟩ dX12_paper_14 ?_
      refine V.iload_n (pc := 15) (i := 1) hK rfl dX12_paper_15 ?_
      obtain ⟨z1, hz1, h⟩ := v_bdS h
      refine V.cV (pc := 16) (ci := 12) hK (c_X12_isMachine E hL N _ _ hz1) Y_X12_isMachine cv_RX12_262 (by decide) rfl (hL.1 79 _ ls_79) dX12_paper_16 (by decide) rfl (Nat.le_of_ble_eq_true rfl) ?_
      refine V.if_eq (pc := 19) (tgt := 49) hK dX12_paper_19 (by decide) (fun c => ?_) (fun c => ?_)
      · rw [if_pos c] at h
        refine V.iconst (pc := 49) (v := -1) hK (by decide) dX12_paper_49 ?_
        exact V.iret (pc := 50) hO dX12_paper_50 (v_finI h)
      · rw [if_neg c] at h
        refine V.pick [0, 1, 2, 3] (l := [(0, _), (1, _), (2, _), (3, _)]) rfl ?_
        exact w_X12_paper_L22 hL hO N _ _ _ _ h
set_option maxHeartbeats 4000000 in
set_option maxRecDepth 100000 in
theorem w_X12_read_L86 {E : v_E} {X : v_X} {sh : v_S} {P : v_P} {out : Int32 × v_M} (hL : v_Lay sh P) (hO : v_O E X cX12_read RX12 5 1 (some .boolean) "read" (v_Q1 (some (.int out.1)) sh P out.2)) (N : Nat) (x3 : Int32) (t0 : Int32) (M : v_M) (h : f_X12_read_L86 N x3 t0 M = some out) : V E X (0, 0) 86 [(3, .int x3)] [.int t0, v_rf E 143] sh P M := by
  have hK := hO.1
  unfold f_X12_read_L86 at h
  refine V.iload_n (pc := 86) (i := 3) hK rfl dX12_read_86 ?_
  refine V.goto (pc := 87) (tgt := 97) hK dX12_read_87 (by decide) ?_
  obtain ⟨hb, h⟩ := v_ckS h
  refine V.iast (pc := 97) hK (hL.1 143 _ ls_143) (v_ibS hb) dX12_read_97 ?_
  refine V.nmM (fun M1 eM1 => ?_)
  have h := v_lt eM1 h
  refine V.iconst (pc := 98) (v := 1) hK (by decide) dX12_read_98 ?_
  obtain ⟨hb, h⟩ := v_ckS h
  exact V.zret (pc := 99) hO (v_z01 hb) dX12_read_99 (v_finI h)
set_option maxHeartbeats 4000000 in
set_option maxRecDepth 100000 in
theorem c_X12_read (E : v_E) {sh : v_S} {P : v_P} (hL : v_Lay sh P) (N : Nat) (x1 : Int32) (x2 : Int32) (x3 : Int32) (M : v_M) {out : Int32 × v_M} (h : f_X12_read N x1 x2 x3 M = some out) : v_Ct E 1 yX12_read cX12_read 5 (some .boolean) 0 0 [v_rf E 79, .int x1, .int x2, .int x3] sh P M (v_Q1 (some (.int out.1)) sh P out.2) := by
  refine v_Ct.of (by decide +kernel) (Nat.le_of_ble_eq_true rfl) (fun X hO => ?_)
  have hK : v_K E X cX12_read RX12 5 1 := hO.1
  have hO : v_O E X cX12_read RX12 5 1 (some .boolean) "read" (v_Q1 (some (.int out.1)) sh P out.2) := hO
  show V E X (0, 0) 0 [(0, v_rf E 79), (1, .int x1), (2, .int x2), (3, .int x3)] [] sh P M
  unfold f_X12_read at h
  refine V.iload_n (pc := 0) (i := 1) hK rfl dX12_read_0 ?_
  refine V.i2l (pc := 1) hK dX12_read_1 ?_
  refine V.lconst (pc := 2) (v := 0) hK (by decide) dX12_read_2 ?_
  refine V.ldc2 (pc := 3) hK tw_1478 dX12_read_3 ?_
  obtain ⟨z1, hz1, h⟩ := v_bdS h
  refine V.cS (pc := 6) hK (c_X12_in E hL N _ _ _ _ hz1) Y_X12_in cs_RX12_229 dX12_read_6 (by decide) rfl (Nat.le_of_ble_eq_true rfl) ?_
  refine V.if_eq (pc := 9) (tgt := 48) hK dX12_read_9 (by decide) (fun c => ?_) (fun c => ?_)
  · rw [if_pos c] at h
    refine V.iconst (pc := 48) (v := 0) hK (by decide) dX12_read_48 ?_
    obtain ⟨hb, h⟩ := v_ckS h
    exact V.zret (pc := 49) hO (v_z01 hb) dX12_read_49 (v_finI h)
  · rw [if_neg c] at h
    refine V.iload_n (pc := 12) (i := 2) hK rfl dX12_read_12 ?_
    refine V.i2l (pc := 13) hK dX12_read_13 ?_
    refine V.lconst (pc := 14) (v := 0) hK (by decide) dX12_read_14 ?_
    refine V.aload_n (pc := 15) (i := 0) hK rfl ⟨_, rfl⟩ dX12_read_15 ?_
    refine V.getI (pc := 16) hK fl_RX12_531 rfl (hL.1 79 _ ls_79) dX12_read_16 ?_
    refine V.iconst (pc := 19) (v := 1) hK (by decide) dX12_read_19 ?_
    refine V.isub (pc := 20) hK dX12_read_20 ?_
    refine V.i2l (pc := 21) hK dX12_read_21 ?_
    obtain ⟨z2, hz2, h⟩ := v_bdS h
    refine V.cS (pc := 22) hK (c_X12_in E hL N _ _ _ _ hz2) Y_X12_in cs_RX12_229 dX12_read_22 (by decide) rfl (Nat.le_of_ble_eq_true rfl) ?_
    refine V.if_eq (pc := 25) (tgt := 48) hK dX12_read_25 (by decide) (fun c => ?_) (fun c => ?_)
    · rw [if_pos c] at h
      refine V.iconst (pc := 48) (v := 0) hK (by decide) dX12_read_48 ?_
      obtain ⟨hb, h⟩ := v_ckS h
      exact V.zret (pc := 49) hO (v_z01 hb) dX12_read_49 (v_finI h)
    · rw [if_neg c] at h
      refine V.iload_n (pc := 28) (i := 3) hK rfl dX12_read_28 ?_
      refine V.i2l (pc := 29) hK dX12_read_29 ?_
      refine V.aload_n (pc := 30) (i := 0) hK rfl ⟨_, rfl⟩ dX12_read_30 ?_
      refine V.getR (pc := 31) hK fl_RX12_196 rfl (hL.1 79 _ ls_79) (hL.2 79 82 141 rfl) dX12_read_31 ?_
      refine V.iload_n (pc := 34) (i := 2) hK rfl dX12_read_34 ?_
      obtain ⟨hb, h⟩ := v_ckS h
      refine V.iald (pc := 35) hK (hL.1 141 _ ls_141) (v_ibS hb) dX12_read_35 ?_
      refine V.i2l (pc := 36) hK dX12_read_36 ?_
      refine V.aload_n (pc := 37) (i := 0) hK rfl ⟨_, rfl⟩ dX12_read_37 ?_
      refine V.getI (pc := 38) hK fl_RX12_233 rfl (hL.1 79 _ ls_79) dX12_read_38 ?_
      refine V.i2l (pc := 41) hK dX12_read_41 ?_
      obtain ⟨z3, hz3, h⟩ := v_bdS h
      refine V.cS (pc := 42) hK (c_X12_in E hL N _ _ _ _ hz3) Y_X12_in cs_RX12_229 dX12_read_42 (by decide) rfl (Nat.le_of_ble_eq_true rfl) ?_
      refine V.if_ne (pc := 45) (tgt := 50) hK dX12_read_45 (by decide) (fun c => ?_) (fun c => ?_)
      · rw [if_neg c] at h
        refine V.bipush (pc := 50) (v := 30) hK (by decide) dX12_read_50 ?_
        refine V.iload_n (pc := 52) (i := 1) hK rfl dX12_read_52 ?_
        refine V.imul (pc := 53) hK dX12_read_53 ?_
        refine V.iload_n (pc := 54) (i := 2) hK rfl dX12_read_54 ?_
        refine V.iadd (pc := 55) hK dX12_read_55 ?_
        refine V.topi (fun y4 ey4 => ?_)
        have h := v_lt ey4 h
        refine V.istore (pc := 56) (i := 4) (lv' := [(0, _), (1, _), (2, _), (3, _), (4, _)]) hK (by decide) rfl dX12_read_56 ?_
        refine V.aload_n (pc := 58) (i := 0) hK rfl ⟨_, rfl⟩ dX12_read_58 ?_
        refine V.getR (pc := 59) hK fl_RX12_202 rfl (hL.1 79 _ ls_79) (hL.2 79 84 143 rfl) dX12_read_59 ?_
        refine V.iload (pc := 62) (i := 4) hK rfl dX12_read_62 ?_
        refine V.aload_n (pc := 64) (i := 0) hK rfl ⟨_, rfl⟩ dX12_read_64 ?_
        refine V.getR (pc := 65) hK fl_RX12_202 rfl (hL.1 79 _ ls_79) (hL.2 79 84 143 rfl) dX12_read_65 ?_
        refine V.iload (pc := 68) (i := 4) hK rfl dX12_read_68 ?_
        obtain ⟨hb, h⟩ := v_ckS h
        refine V.iald (pc := 70) hK (hL.1 143 _ ls_143) (v_ibS hb) dX12_read_70 ?_
        refine V.iconst (pc := 71) (v := -1) hK (by decide) dX12_read_71 ?_
        refine V.icmp_eq (pc := 72) (tgt := 86) hK dX12_read_72 (by decide) (fun c => ?_) (fun c => ?_)
        · rw [if_pos c] at h
          refine V.pick [3] (l := [(3, _)]) rfl ?_
          exact w_X12_read_L86 hL hO N _ _ _ h
        · rw [if_neg c] at h
          refine V.iload_n (pc := 75) (i := 3) hK rfl dX12_read_75 ?_
          refine V.aload_n (pc := 76) (i := 0) hK rfl ⟨_, rfl⟩ dX12_read_76 ?_
          refine V.getR (pc := 77) hK fl_RX12_202 rfl (hL.1 79 _ ls_79) (hL.2 79 84 143 rfl) dX12_read_77 ?_
          refine V.iload (pc := 80) (i := 4) hK rfl dX12_read_80 ?_
          obtain ⟨hb, h⟩ := v_ckS h
          refine V.iald (pc := 82) hK (hL.1 143 _ ls_143) (v_ibS hb) dX12_read_82 ?_
          refine V.icmp_ge (pc := 83) (tgt := 90) hK dX12_read_83 (by decide) (fun c => ?_) (fun c => ?_)
          · rw [if_pos c] at h
            refine V.aload_n (pc := 90) (i := 0) hK rfl ⟨_, rfl⟩ dX12_read_90 ?_
            refine V.getR (pc := 91) hK fl_RX12_202 rfl (hL.1 79 _ ls_79) (hL.2 79 84 143 rfl) dX12_read_91 ?_
            refine V.iload (pc := 94) (i := 4) hK rfl dX12_read_94 ?_
            obtain ⟨hb, h⟩ := v_ckS h
            refine V.iald (pc := 96) hK (hL.1 143 _ ls_143) (v_ibS hb) dX12_read_96 ?_
            obtain ⟨hb, h⟩ := v_ckS h
            refine V.iast (pc := 97) hK (hL.1 143 _ ls_143) (v_ibS hb) dX12_read_97 ?_
            refine V.nmM (fun M5 eM5 => ?_)
            have h := v_lt eM5 h
            refine V.iconst (pc := 98) (v := 1) hK (by decide) dX12_read_98 ?_
            obtain ⟨hb, h⟩ := v_ckS h
            exact V.zret (pc := 99) hO (v_z01 hb) dX12_read_99 (v_finI h)
          · rw [if_neg c] at h
            refine V.pick [3] (l := [(3, _)]) rfl ?_
            exact w_X12_read_L86 hL hO N _ _ _ h
      · rw [if_pos c] at h
        refine V.iconst (pc := 48) (v := 0) hK (by decide) dX12_read_48 ?_
        obtain ⟨hb, h⟩ := v_ckS h
        exact V.zret (pc := 49) hO (v_z01 hb) dX12_read_49 (v_finI h)
set_option maxHeartbeats 4000000 in
set_option maxRecDepth 100000 in
theorem w_X12_knows_L95 {E : v_E} {X : v_X} {sh : v_S} {P : v_P} {out : Int32 × v_M} (hL : v_Lay sh P) (hO : v_O E X cX12_knows RX12 5 0 none "knows" (v_Q1 (none) sh P out.2)) (N : Nat) (k2 : Int32 → Int32 → v_M → Option (Int32 × v_M)) (hk2 : ∀ (x1 : Int32) (x2 : Int32) (M : v_M), k2 x1 x2 M = some out → V E X (0, 0) 2 [(0, v_rf E 79), (1, .int x1), (2, .int x2)] [] sh P M) (x1 : Int32) (x2 : Int32) (x3 : Int32) (M : v_M) (h : f_X12_knows_L95 N k2 x1 x2 x3 M = some out) : V E X (0, 0) 95 [(0, v_rf E 79), (1, .int x1), (2, .int x2), (3, .int x3)] [] sh P M := by
  have hK := hO.1
  unfold f_X12_knows_L95 at h
  refine V.aload_n (pc := 95) (i := 0) hK rfl ⟨_, rfl⟩ dX12_knows_95 ?_
  refine V.getR (pc := 96) hK fl_RX12_205 rfl (hL.1 79 _ ls_79) (hL.2 79 85 144 rfl) dX12_knows_96 ?_
  refine V.iload_n (pc := 99) (i := 2) hK rfl dX12_knows_99 ?_
  refine V.iload_n (pc := 100) (i := 3) hK rfl dX12_knows_100 ?_
  obtain ⟨hb, h⟩ := v_ckS h
  refine V.iast (pc := 101) hK (hL.1 144 _ ls_144) (v_ibS hb) dX12_knows_101 ?_
  refine V.nmM (fun M1 eM1 => ?_)
  have h := v_lt eM1 h
  refine V.iinc (pc := 102) (i := 2) (v := 1) (lv' := [(0, _), (1, _), (2, _), (3, _)]) hK rfl (by decide) (by decide) rfl dX12_knows_102 ?_
  refine V.goto (pc := 105) (tgt := 2) hK dX12_knows_105 (by decide) ?_
  refine V.pick [0, 1, 2] (l := [(0, _), (1, _), (2, _)]) rfl ?_
  exact hk2 _ _ _ h
set_option maxHeartbeats 4000000 in
set_option maxRecDepth 100000 in
theorem w_X12_knows_L89 {E : v_E} {X : v_X} {sh : v_S} {P : v_P} {out : Int32 × v_M} (hL : v_Lay sh P) (hO : v_O E X cX12_knows RX12 5 0 none "knows" (v_Q1 (none) sh P out.2)) (N : Nat) (k2 : Int32 → Int32 → v_M → Option (Int32 × v_M)) (hk2 : ∀ (x1 : Int32) (x2 : Int32) (M : v_M), k2 x1 x2 M = some out → V E X (0, 0) 2 [(0, v_rf E 79), (1, .int x1), (2, .int x2)] [] sh P M) (k25 : Int32 → Int32 → Int32 → Int32 → v_M → Option (Int32 × v_M)) (hk25 : ∀ (x1 : Int32) (x2 : Int32) (x3 : Int32) (x4 : Int32) (M : v_M), k25 x1 x2 x3 x4 M = some out → V E X (0, 0) 25 [(0, v_rf E 79), (1, .int x1), (2, .int x2), (3, .int x3), (4, .int x4)] [] sh P M) (x1 : Int32) (x2 : Int32) (x3 : Int32) (x4 : Int32) (M : v_M) (h : f_X12_knows_L89 N k2 k25 x1 x2 x3 x4 M = some out) : V E X (0, 0) 89 [(0, v_rf E 79), (1, .int x1), (2, .int x2), (3, .int x3), (4, .int x4)] [] sh P M := by
  have hK := hO.1
  unfold f_X12_knows_L89 at h
  refine V.iinc (pc := 89) (i := 4) (v := 1) (lv' := [(0, _), (1, _), (2, _), (3, _), (4, _)]) hK rfl (by decide) (by decide) rfl dX12_knows_89 ?_
  refine V.goto (pc := 92) (tgt := 25) hK dX12_knows_92 (by decide) ?_
  refine V.pick [0, 1, 2, 3, 4] (l := [(0, _), (1, _), (2, _), (3, _), (4, _)]) rfl ?_
  exact hk25 _ _ _ _ _ h
set_option maxHeartbeats 4000000 in
set_option maxRecDepth 100000 in
theorem w_X12_knows_L88 {E : v_E} {X : v_X} {sh : v_S} {P : v_P} {out : Int32 × v_M} (hL : v_Lay sh P) (hO : v_O E X cX12_knows RX12 5 0 none "knows" (v_Q1 (none) sh P out.2)) (N : Nat) (k2 : Int32 → Int32 → v_M → Option (Int32 × v_M)) (hk2 : ∀ (x1 : Int32) (x2 : Int32) (M : v_M), k2 x1 x2 M = some out → V E X (0, 0) 2 [(0, v_rf E 79), (1, .int x1), (2, .int x2)] [] sh P M) (k25 : Int32 → Int32 → Int32 → Int32 → v_M → Option (Int32 × v_M)) (hk25 : ∀ (x1 : Int32) (x2 : Int32) (x3 : Int32) (x4 : Int32) (M : v_M), k25 x1 x2 x3 x4 M = some out → V E X (0, 0) 25 [(0, v_rf E 79), (1, .int x1), (2, .int x2), (3, .int x3), (4, .int x4)] [] sh P M) (x1 : Int32) (x2 : Int32) (x4 : Int32) (t0 : Int32) (M : v_M) (h : f_X12_knows_L88 N k2 k25 x1 x2 x4 t0 M = some out) : V E X (0, 0) 88 [(0, v_rf E 79), (1, .int x1), (2, .int x2), (4, .int x4)] [.int t0] sh P M := by
  have hK := hO.1
  unfold f_X12_knows_L88 at h
  refine V.istore_n (pc := 88) (i := 3) (lv' := [(0, _), (1, _), (2, _), (3, _), (4, _)]) hK (by decide) rfl dX12_knows_88 ?_
  refine V.pick [0, 1, 2, 3, 4] (l := [(0, _), (1, _), (2, _), (3, _), (4, _)]) rfl ?_
  exact w_X12_knows_L89 hL hO N _ hk2 _ hk25 _ _ _ _ _ h
set_option maxHeartbeats 4000000 in
set_option maxRecDepth 100000 in
theorem w_X12_knows_L25 {E : v_E} {X : v_X} {sh : v_S} {P : v_P} {out : Int32 × v_M} (hL : v_Lay sh P) (hO : v_O E X cX12_knows RX12 5 0 none "knows" (v_Q1 (none) sh P out.2)) (N : Nat) (k2 : Int32 → Int32 → v_M → Option (Int32 × v_M)) (hk2 : ∀ (x1 : Int32) (x2 : Int32) (M : v_M), k2 x1 x2 M = some out → V E X (0, 0) 2 [(0, v_rf E 79), (1, .int x1), (2, .int x2)] [] sh P M) (n : Nat) : ∀ (x1 : Int32) (x2 : Int32) (x3 : Int32) (x4 : Int32) (M : v_M), f_X12_knows_L25 N k2 n x1 x2 x3 x4 M = some out → V E X (0, 0) 25 [(0, v_rf E 79), (1, .int x1), (2, .int x2), (3, .int x3), (4, .int x4)] [] sh P M := by
  have hK := hO.1
  induction n with
  | zero => intro x1 x2 x3 x4 M h; rw [f_X12_knows_L25] at h; cases h
  | succ n ih =>
    intro x1 x2 x3 x4 M h
    rw [f_X12_knows_L25] at h
    refine V.iload (pc := 25) (i := 4) hK rfl dX12_knows_25 ?_
    refine V.iload_n (pc := 27) (i := 2) hK rfl dX12_knows_27 ?_
    refine V.icmp_ge (pc := 28) (tgt := 95) hK dX12_knows_28 (by decide) (fun c => ?_) (fun c => ?_)
    · rw [if_pos c] at h
      refine V.pick [0, 1, 2, 3] (l := [(0, _), (1, _), (2, _), (3, _)]) rfl ?_
      exact w_X12_knows_L95 hL hO N _ hk2 _ _ _ _ h
    · rw [if_neg c] at h
      refine V.iload_n (pc := 31) (i := 3) hK rfl dX12_knows_31 ?_
      refine V.iconst (pc := 32) (v := -1) hK (by decide) dX12_knows_32 ?_
      refine V.icmp_eq (pc := 33) (tgt := 95) hK dX12_knows_33 (by decide) (fun c => ?_) (fun c => ?_)
      · rw [if_pos c] at h
        refine V.pick [0, 1, 2, 3] (l := [(0, _), (1, _), (2, _), (3, _)]) rfl ?_
        exact w_X12_knows_L95 hL hO N _ hk2 _ _ _ _ h
      · rw [if_neg c] at h
        refine V.aload_n (pc := 36) (i := 0) hK rfl ⟨_, rfl⟩ dX12_knows_36 ?_
        refine V.getR (pc := 37) hK fl_RX12_199 rfl (hL.1 79 _ ls_79) (hL.2 79 83 142 rfl) dX12_knows_37 ?_
        refine V.iload_n (pc := 40) (i := 2) hK rfl dX12_knows_40 ?_
        obtain ⟨hb, h⟩ := v_ckS h
        refine V.iald (pc := 41) hK (hL.1 142 _ ls_142) (v_ibS hb) dX12_knows_41 ?_
        refine V.iload (pc := 42) (i := 4) hK rfl dX12_knows_42 ?_
        refine V.ishr (pc := 44) hK dX12_knows_44 ?_
        refine V.iconst (pc := 45) (v := 1) hK (by decide) dX12_knows_45 ?_
        refine V.iand (pc := 46) hK dX12_knows_46 ?_
        refine V.iconst (pc := 47) (v := 1) hK (by decide) dX12_knows_47 ?_
        refine V.icmp_ne (pc := 48) (tgt := 89) hK dX12_knows_48 (by decide) (fun c => ?_) (fun c => ?_)
        · rw [if_neg c] at h
          refine V.pick [0, 1, 2, 3, 4] (l := [(0, _), (1, _), (2, _), (3, _), (4, _)]) rfl ?_
          exact w_X12_knows_L89 hL hO N _ hk2 _ ih _ _ _ _ _ h
        · rw [if_pos c] at h
          refine V.aload_n (pc := 51) (i := 0) hK rfl ⟨_, rfl⟩ dX12_knows_51 ?_
          refine V.getR (pc := 52) hK fl_RX12_205 rfl (hL.1 79 _ ls_79) (hL.2 79 85 144 rfl) dX12_knows_52 ?_
          refine V.iload (pc := 55) (i := 4) hK rfl dX12_knows_55 ?_
          obtain ⟨hb, h⟩ := v_ckS h
          refine V.iald (pc := 57) hK (hL.1 144 _ ls_144) (v_ibS hb) dX12_knows_57 ?_
          refine V.iconst (pc := 58) (v := -1) hK (by decide) dX12_knows_58 ?_
          refine V.icmp_ne (pc := 59) (tgt := 66) hK dX12_knows_59 (by decide) (fun c => ?_) (fun c => ?_)
          · rw [if_neg c] at h
            refine V.aload_n (pc := 66) (i := 0) hK rfl ⟨_, rfl⟩ dX12_knows_66 ?_
            refine V.getR (pc := 67) hK fl_RX12_205 rfl (hL.1 79 _ ls_79) (hL.2 79 85 144 rfl) dX12_knows_67 ?_
            refine V.iload (pc := 70) (i := 4) hK rfl dX12_knows_70 ?_
            obtain ⟨hb, h⟩ := v_ckS h
            refine V.iald (pc := 72) hK (hL.1 144 _ ls_144) (v_ibS hb) dX12_knows_72 ?_
            refine V.iload_n (pc := 73) (i := 3) hK rfl dX12_knows_73 ?_
            refine V.icmp_le (pc := 74) (tgt := 87) hK dX12_knows_74 (by decide) (fun c => ?_) (fun c => ?_)
            · rw [if_pos c] at h
              refine V.iload_n (pc := 87) (i := 3) hK rfl dX12_knows_87 ?_
              refine V.pick [0, 1, 2, 4] (l := [(0, _), (1, _), (2, _), (4, _)]) rfl ?_
              exact w_X12_knows_L88 hL hO N _ hk2 _ ih _ _ _ _ _ h
            · rw [if_neg c] at h
              refine V.aload_n (pc := 77) (i := 0) hK rfl ⟨_, rfl⟩ dX12_knows_77 ?_
              refine V.getR (pc := 78) hK fl_RX12_205 rfl (hL.1 79 _ ls_79) (hL.2 79 85 144 rfl) dX12_knows_78 ?_
              refine V.iload (pc := 81) (i := 4) hK rfl dX12_knows_81 ?_
              obtain ⟨hb, h⟩ := v_ckS h
              refine V.iald (pc := 83) hK (hL.1 144 _ ls_144) (v_ibS hb) dX12_knows_83 ?_
              refine V.goto (pc := 84) (tgt := 88) hK dX12_knows_84 (by decide) ?_
              refine V.pick [0, 1, 2, 4] (l := [(0, _), (1, _), (2, _), (4, _)]) rfl ?_
              exact w_X12_knows_L88 hL hO N _ hk2 _ ih _ _ _ _ _ h
          · rw [if_pos c] at h
            refine V.iconst (pc := 62) (v := -1) hK (by decide) dX12_knows_62 ?_
            refine V.goto (pc := 63) (tgt := 88) hK dX12_knows_63 (by decide) ?_
            refine V.pick [0, 1, 2, 4] (l := [(0, _), (1, _), (2, _), (4, _)]) rfl ?_
            exact w_X12_knows_L88 hL hO N _ hk2 _ ih _ _ _ _ _ h
set_option maxHeartbeats 4000000 in
set_option maxRecDepth 100000 in
theorem w_X12_knows_L2 {E : v_E} {X : v_X} {sh : v_S} {P : v_P} {out : Int32 × v_M} (hL : v_Lay sh P) (hO : v_O E X cX12_knows RX12 5 0 none "knows" (v_Q1 (none) sh P out.2)) (N : Nat) (n : Nat) : ∀ (x1 : Int32) (x2 : Int32) (M : v_M), f_X12_knows_L2 N n x1 x2 M = some out → V E X (0, 0) 2 [(0, v_rf E 79), (1, .int x1), (2, .int x2)] [] sh P M := by
  have hK := hO.1
  induction n with
  | zero => intro x1 x2 M h; rw [f_X12_knows_L2] at h; cases h
  | succ n ih =>
    intro x1 x2 M h
    rw [f_X12_knows_L2] at h
    refine V.iload_n (pc := 2) (i := 2) hK rfl dX12_knows_2 ?_
    refine V.aload_n (pc := 3) (i := 0) hK rfl ⟨_, rfl⟩ dX12_knows_3 ?_
    refine V.getI (pc := 4) hK fl_RX12_531 rfl (hL.1 79 _ ls_79) dX12_knows_4 ?_
    refine V.icmp_ge (pc := 7) (tgt := 108) hK dX12_knows_7 (by decide) (fun c => ?_) (fun c => ?_)
    · rw [if_pos c] at h
      exact V.vret (pc := 108) hO dX12_knows_108 (v_finV h)
    · rw [if_neg c] at h
      refine V.aload_n (pc := 10) (i := 0) hK rfl ⟨_, rfl⟩ dX12_knows_10 ?_
      refine V.getR (pc := 11) hK fl_RX12_202 rfl (hL.1 79 _ ls_79) (hL.2 79 84 143 rfl) dX12_knows_11 ?_
      refine V.bipush (pc := 14) (v := 30) hK (by decide) dX12_knows_14 ?_
      refine V.iload_n (pc := 16) (i := 1) hK rfl dX12_knows_16 ?_
      refine V.imul (pc := 17) hK dX12_knows_17 ?_
      refine V.iload_n (pc := 18) (i := 2) hK rfl dX12_knows_18 ?_
      refine V.iadd (pc := 19) hK dX12_knows_19 ?_
      obtain ⟨hb, h⟩ := v_ckS h
      refine V.iald (pc := 20) hK (hL.1 143 _ ls_143) (v_ibS hb) dX12_knows_20 ?_
      refine V.topi (fun y1 ey1 => ?_)
      have h := v_lt ey1 h
      refine V.istore_n (pc := 21) (i := 3) (lv' := [(0, _), (1, _), (2, _), (3, _)]) hK (by decide) rfl dX12_knows_21 ?_
      refine V.iconst (pc := 22) (v := 0) hK (by decide) dX12_knows_22 ?_
      refine V.istore (pc := 23) (i := 4) (lv' := [(0, _), (1, _), (2, _), (3, _), (4, _)]) hK (by decide) rfl dX12_knows_23 ?_
      refine V.pick [0, 1, 2, 3, 4] (l := [(0, _), (1, _), (2, _), (3, _), (4, _)]) rfl ?_
      exact w_X12_knows_L25 hL hO N _ ih N _ _ _ _ _ h
set_option maxHeartbeats 4000000 in
set_option maxRecDepth 100000 in
theorem c_X12_knows (E : v_E) {sh : v_S} {P : v_P} (hL : v_Lay sh P) (N : Nat) (x1 : Int32) (M : v_M) {out : Int32 × v_M} (h : f_X12_knows N x1 M = some out) : v_Ct E 0 yX12_knows cX12_knows 5 none 0 0 [v_rf E 79, .int x1] sh P M (v_Q1 (none) sh P out.2) := by
  refine v_Ct.of (by decide +kernel) (Nat.le_of_ble_eq_true rfl) (fun X hO => ?_)
  have hK : v_K E X cX12_knows RX12 5 0 := hO.1
  have hO : v_O E X cX12_knows RX12 5 0 none "knows" (v_Q1 (none) sh P out.2) := hO
  show V E X (0, 0) 0 [(0, v_rf E 79), (1, .int x1)] [] sh P M
  unfold f_X12_knows at h
  refine V.iconst (pc := 0) (v := 0) hK (by decide) dX12_knows_0 ?_
  refine V.istore_n (pc := 1) (i := 2) (lv' := [(0, _), (1, _), (2, _)]) hK (by decide) rfl dX12_knows_1 ?_
  refine V.pick [0, 1, 2] (l := [(0, _), (1, _), (2, _)]) rfl ?_
  exact w_X12_knows_L2 hL hO N N _ _ _ h
set_option maxHeartbeats 4000000 in
set_option maxRecDepth 100000 in
theorem c_X12_knew (E : v_E) {sh : v_S} {P : v_P} (hL : v_Lay sh P) (N : Nat) (x1 : Int32) (x2 : Int32) (M : v_M) {out : Int32 × v_M} (h : f_X12_knew N x1 x2 M = some out) : v_Ct E 1 yX12_knew cX12_knew 3 (some .int) 0 0 [v_rf E 79, .int x1, .int x2] sh P M (v_Q1 (some (.int out.1)) sh P out.2) := by
  refine v_Ct.of (by decide +kernel) (Nat.le_of_ble_eq_true rfl) (fun X hO => ?_)
  have hK : v_K E X cX12_knew RX12 3 1 := hO.1
  have hO : v_O E X cX12_knew RX12 3 1 (some .int) "knew" (v_Q1 (some (.int out.1)) sh P out.2) := hO
  show V E X (0, 0) 0 [(0, v_rf E 79), (1, .int x1), (2, .int x2)] [] sh P M
  unfold f_X12_knew at h
  refine V.iload_n (pc := 0) (i := 1) hK rfl dX12_knew_0 ?_
  refine V.i2l (pc := 1) hK dX12_knew_1 ?_
  refine V.lconst (pc := 2) (v := 0) hK (by decide) dX12_knew_2 ?_
  refine V.ldc2 (pc := 3) hK tw_1478 dX12_knew_3 ?_
  obtain ⟨z1, hz1, h⟩ := v_bdS h
  refine V.cS (pc := 6) hK (c_X12_in E hL N _ _ _ _ hz1) Y_X12_in cs_RX12_229 dX12_knew_6 (by decide) rfl (Nat.le_of_ble_eq_true rfl) ?_
  refine V.if_eq (pc := 9) (tgt := 28) hK dX12_knew_9 (by decide) (fun c => ?_) (fun c => ?_)
  · rw [if_pos c] at h
    refine V.iconst (pc := 28) (v := -1) hK (by decide) dX12_knew_28 ?_
    exact V.iret (pc := 29) hO dX12_knew_29 (v_finI h)
  · rw [if_neg c] at h
    refine V.iload_n (pc := 12) (i := 2) hK rfl dX12_knew_12 ?_
    refine V.i2l (pc := 13) hK dX12_knew_13 ?_
    refine V.lconst (pc := 14) (v := 0) hK (by decide) dX12_knew_14 ?_
    refine V.aload_n (pc := 15) (i := 0) hK rfl ⟨_, rfl⟩ dX12_knew_15 ?_
    refine V.getI (pc := 16) hK fl_RX12_531 rfl (hL.1 79 _ ls_79) dX12_knew_16 ?_
    refine V.iconst (pc := 19) (v := 1) hK (by decide) dX12_knew_19 ?_
    refine V.isub (pc := 20) hK dX12_knew_20 ?_
    refine V.i2l (pc := 21) hK dX12_knew_21 ?_
    obtain ⟨z2, hz2, h⟩ := v_bdS h
    refine V.cS (pc := 22) hK (c_X12_in E hL N _ _ _ _ hz2) Y_X12_in cs_RX12_229 dX12_knew_22 (by decide) rfl (Nat.le_of_ble_eq_true rfl) ?_
    refine V.if_ne (pc := 25) (tgt := 30) hK dX12_knew_25 (by decide) (fun c => ?_) (fun c => ?_)
    · rw [if_neg c] at h
      refine V.aload_n (pc := 30) (i := 0) hK rfl ⟨_, rfl⟩ dX12_knew_30 ?_
      refine V.iload_n (pc := 31) (i := 1) hK rfl dX12_knew_31 ?_
      obtain ⟨z3, hz3, h⟩ := v_bdS h
      refine V.cVv (pc := 32) (ci := 12) hK (c_X12_knows E hL N _ _ hz3) Y_X12_knows cv_RX12_534 (by decide) rfl (hL.1 79 _ ls_79) dX12_knew_32 (by decide) rfl (Nat.le_of_ble_eq_true rfl) ?_
      refine V.aload_n (pc := 35) (i := 0) hK rfl ⟨_, rfl⟩ dX12_knew_35 ?_
      refine V.getR (pc := 36) hK fl_RX12_205 rfl (hL.1 79 _ ls_79) (hL.2 79 85 144 rfl) dX12_knew_36 ?_
      refine V.iload_n (pc := 39) (i := 2) hK rfl dX12_knew_39 ?_
      obtain ⟨hb, h⟩ := v_ckS h
      refine V.iald (pc := 40) hK (hL.1 144 _ ls_144) (v_ibS hb) dX12_knew_40 ?_
      refine V.iconst (pc := 41) (v := -1) hK (by decide) dX12_knew_41 ?_
      refine V.icmp_eq (pc := 42) (tgt := 58) hK dX12_knew_42 (by decide) (fun c => ?_) (fun c => ?_)
      · rw [if_pos c] at h
        refine V.bipush (pc := 58) (v := -2) hK (by decide) dX12_knew_58 ?_
        refine V.goto (pc := 60) (tgt := 69) hK dX12_knew_60 (by decide) ?_
        exact V.iret (pc := 69) hO dX12_knew_69 (v_finI h)
      · rw [if_neg c] at h
        refine V.aload_n (pc := 45) (i := 0) hK rfl ⟨_, rfl⟩ dX12_knew_45 ?_
        refine V.getR (pc := 46) hK fl_RX12_205 rfl (hL.1 79 _ ls_79) (hL.2 79 85 144 rfl) dX12_knew_46 ?_
        refine V.iload_n (pc := 49) (i := 2) hK rfl dX12_knew_49 ?_
        obtain ⟨hb, h⟩ := v_ckS h
        refine V.iald (pc := 50) hK (hL.1 144 _ ls_144) (v_ibS hb) dX12_knew_50 ?_
        refine V.aload_n (pc := 51) (i := 0) hK rfl ⟨_, rfl⟩ dX12_knew_51 ?_
        refine V.getI (pc := 52) hK fl_RX12_233 rfl (hL.1 79 _ ls_79) dX12_knew_52 ?_
        refine V.icmp_le (pc := 55) (tgt := 63) hK dX12_knew_55 (by decide) (fun c => ?_) (fun c => ?_)
        · rw [if_pos c] at h
          refine V.aload_n (pc := 63) (i := 0) hK rfl ⟨_, rfl⟩ dX12_knew_63 ?_
          refine V.getR (pc := 64) hK fl_RX12_205 rfl (hL.1 79 _ ls_79) (hL.2 79 85 144 rfl) dX12_knew_64 ?_
          refine V.iload_n (pc := 67) (i := 2) hK rfl dX12_knew_67 ?_
          obtain ⟨hb, h⟩ := v_ckS h
          refine V.iald (pc := 68) hK (hL.1 144 _ ls_144) (v_ibS hb) dX12_knew_68 ?_
          exact V.iret (pc := 69) hO dX12_knew_69 (v_finI h)
        · rw [if_neg c] at h
          refine V.bipush (pc := 58) (v := -2) hK (by decide) dX12_knew_58 ?_
          refine V.goto (pc := 60) (tgt := 69) hK dX12_knew_60 (by decide) ?_
          exact V.iret (pc := 69) hO dX12_knew_69 (v_finI h)
    · rw [if_pos c] at h
      refine V.iconst (pc := 28) (v := -1) hK (by decide) dX12_knew_28 ?_
      exact V.iret (pc := 29) hO dX12_knew_29 (v_finI h)
set_option maxHeartbeats 4000000 in
set_option maxRecDepth 100000 in
theorem w_X12_warned_L89 {E : v_E} {X : v_X} {sh : v_S} {P : v_P} {out : Int32 × v_M} (hL : v_Lay sh P) (hO : v_O E X cX12_warned RX12 6 2 (some .int) "warned" (v_Q1 (some (.int out.1)) sh P out.2)) (N : Nat) (k22 : Int32 → Int32 → Int32 → Int32 → v_M → Option (Int32 × v_M)) (hk22 : ∀ (x1 : Int32) (x2 : Int32) (x3 : Int32) (x4 : Int32) (M : v_M), k22 x1 x2 x3 x4 M = some out → V E X (0, 0) 22 [(0, v_rf E 79), (1, .int x1), (2, .int x2), (3, .int x3), (4, .int x4)] [] sh P M) (k38 : Int32 → Int32 → Int32 → Int32 → Int32 → v_M → Option (Int32 × v_M)) (hk38 : ∀ (x1 : Int32) (x2 : Int32) (x3 : Int32) (x4 : Int32) (x5 : Int32) (M : v_M), k38 x1 x2 x3 x4 x5 M = some out → V E X (0, 0) 38 [(0, v_rf E 79), (1, .int x1), (2, .int x2), (3, .int x3), (4, .int x4), (5, .int x5)] [] sh P M) (x1 : Int32) (x2 : Int32) (x4 : Int32) (x5 : Int32) (t0 : Int32) (t1 : Int32) (M : v_M) (h : f_X12_warned_L89 N k22 k38 x1 x2 x4 x5 t0 t1 M = some out) : V E X (0, 0) 89 [(0, v_rf E 79), (1, .int x1), (2, .int x2), (4, .int x4), (5, .int x5)] [.int t0, .int t1] sh P M := by
  have hK := hO.1
  unfold f_X12_warned_L89 at h
  refine V.ior (pc := 89) hK dX12_warned_89 ?_
  refine V.topi (fun y1 ey1 => ?_)
  have h := v_lt ey1 h
  refine V.istore_n (pc := 90) (i := 3) (lv' := [(0, _), (1, _), (2, _), (3, _), (4, _), (5, _)]) hK (by decide) rfl dX12_warned_90 ?_
  refine V.iinc (pc := 91) (i := 5) (v := 1) (lv' := [(0, _), (1, _), (2, _), (3, _), (4, _), (5, _)]) hK rfl (by decide) (by decide) rfl dX12_warned_91 ?_
  refine V.goto (pc := 94) (tgt := 38) hK dX12_warned_94 (by decide) ?_
  refine V.pick [0, 1, 2, 3, 4, 5] (l := [(0, _), (1, _), (2, _), (3, _), (4, _), (5, _)]) rfl ?_
  exact hk38 _ _ _ _ _ _ h
set_option maxHeartbeats 4000000 in
set_option maxRecDepth 100000 in
theorem w_X12_warned_L88 {E : v_E} {X : v_X} {sh : v_S} {P : v_P} {out : Int32 × v_M} (hL : v_Lay sh P) (hO : v_O E X cX12_warned RX12 6 2 (some .int) "warned" (v_Q1 (some (.int out.1)) sh P out.2)) (N : Nat) (k22 : Int32 → Int32 → Int32 → Int32 → v_M → Option (Int32 × v_M)) (hk22 : ∀ (x1 : Int32) (x2 : Int32) (x3 : Int32) (x4 : Int32) (M : v_M), k22 x1 x2 x3 x4 M = some out → V E X (0, 0) 22 [(0, v_rf E 79), (1, .int x1), (2, .int x2), (3, .int x3), (4, .int x4)] [] sh P M) (k38 : Int32 → Int32 → Int32 → Int32 → Int32 → v_M → Option (Int32 × v_M)) (hk38 : ∀ (x1 : Int32) (x2 : Int32) (x3 : Int32) (x4 : Int32) (x5 : Int32) (M : v_M), k38 x1 x2 x3 x4 x5 M = some out → V E X (0, 0) 38 [(0, v_rf E 79), (1, .int x1), (2, .int x2), (3, .int x3), (4, .int x4), (5, .int x5)] [] sh P M) (x1 : Int32) (x2 : Int32) (x4 : Int32) (x5 : Int32) (t0 : Int32) (M : v_M) (h : f_X12_warned_L88 N k22 k38 x1 x2 x4 x5 t0 M = some out) : V E X (0, 0) 88 [(0, v_rf E 79), (1, .int x1), (2, .int x2), (4, .int x4), (5, .int x5)] [.int t0] sh P M := by
  have hK := hO.1
  unfold f_X12_warned_L88 at h
  refine V.iconst (pc := 88) (v := 0) hK (by decide) dX12_warned_88 ?_
  refine V.pick [0, 1, 2, 4, 5] (l := [(0, _), (1, _), (2, _), (4, _), (5, _)]) rfl ?_
  exact w_X12_warned_L89 hL hO N _ hk22 _ hk38 _ _ _ _ _ _ _ h
set_option maxHeartbeats 4000000 in
set_option maxRecDepth 100000 in
theorem w_X12_warned_L38 {E : v_E} {X : v_X} {sh : v_S} {P : v_P} {out : Int32 × v_M} (hL : v_Lay sh P) (hO : v_O E X cX12_warned RX12 6 2 (some .int) "warned" (v_Q1 (some (.int out.1)) sh P out.2)) (N : Nat) (k22 : Int32 → Int32 → Int32 → Int32 → v_M → Option (Int32 × v_M)) (hk22 : ∀ (x1 : Int32) (x2 : Int32) (x3 : Int32) (x4 : Int32) (M : v_M), k22 x1 x2 x3 x4 M = some out → V E X (0, 0) 22 [(0, v_rf E 79), (1, .int x1), (2, .int x2), (3, .int x3), (4, .int x4)] [] sh P M) (n : Nat) : ∀ (x1 : Int32) (x2 : Int32) (x3 : Int32) (x4 : Int32) (x5 : Int32) (M : v_M), f_X12_warned_L38 N k22 n x1 x2 x3 x4 x5 M = some out → V E X (0, 0) 38 [(0, v_rf E 79), (1, .int x1), (2, .int x2), (3, .int x3), (4, .int x4), (5, .int x5)] [] sh P M := by
  have hK := hO.1
  induction n with
  | zero => intro x1 x2 x3 x4 x5 M h; rw [f_X12_warned_L38] at h; cases h
  | succ n ih =>
    intro x1 x2 x3 x4 x5 M h
    rw [f_X12_warned_L38] at h
    refine V.iload (pc := 38) (i := 5) hK rfl dX12_warned_38 ?_
    refine V.aload_n (pc := 40) (i := 0) hK rfl ⟨_, rfl⟩ dX12_warned_40 ?_
    refine V.getI (pc := 41) hK fl_RX12_531 rfl (hL.1 79 _ ls_79) dX12_warned_41 ?_
    refine V.icmp_ge (pc := 44) (tgt := 97) hK dX12_warned_44 (by decide) (fun c => ?_) (fun c => ?_)
    · rw [if_pos c] at h
      refine V.iinc (pc := 97) (i := 4) (v := 1) (lv' := [(0, _), (1, _), (2, _), (3, _), (4, _), (5, _)]) hK rfl (by decide) (by decide) rfl dX12_warned_97 ?_
      refine V.goto (pc := 100) (tgt := 22) hK dX12_warned_100 (by decide) ?_
      refine V.pick [0, 1, 2, 3, 4] (l := [(0, _), (1, _), (2, _), (3, _), (4, _)]) rfl ?_
      exact hk22 _ _ _ _ _ h
    · rw [if_neg c] at h
      refine V.iload_n (pc := 47) (i := 3) hK rfl dX12_warned_47 ?_
      refine V.aload_n (pc := 48) (i := 0) hK rfl ⟨_, rfl⟩ dX12_warned_48 ?_
      refine V.getR (pc := 49) hK fl_RX12_193 rfl (hL.1 79 _ ls_79) (hL.2 79 81 140 rfl) dX12_warned_49 ?_
      refine V.iload (pc := 52) (i := 5) hK rfl dX12_warned_52 ?_
      obtain ⟨hb, h⟩ := v_ckS h
      refine V.iald (pc := 54) hK (hL.1 140 _ ls_140) (v_ibS hb) dX12_warned_54 ?_
      refine V.iload_n (pc := 55) (i := 1) hK rfl dX12_warned_55 ?_
      refine V.icmp_ne (pc := 56) (tgt := 88) hK dX12_warned_56 (by decide) (fun c => ?_) (fun c => ?_)
      · rw [if_neg c] at h
        refine V.pick [0, 1, 2, 4, 5] (l := [(0, _), (1, _), (2, _), (4, _), (5, _)]) rfl ?_
        exact w_X12_warned_L88 hL hO N _ hk22 _ ih _ _ _ _ _ _ h
      · rw [if_pos c] at h
        refine V.aload_n (pc := 59) (i := 0) hK rfl ⟨_, rfl⟩ dX12_warned_59 ?_
        refine V.getR (pc := 60) hK fl_RX12_205 rfl (hL.1 79 _ ls_79) (hL.2 79 85 144 rfl) dX12_warned_60 ?_
        refine V.iload (pc := 63) (i := 5) hK rfl dX12_warned_63 ?_
        obtain ⟨hb, h⟩ := v_ckS h
        refine V.iald (pc := 65) hK (hL.1 144 _ ls_144) (v_ibS hb) dX12_warned_65 ?_
        refine V.iconst (pc := 66) (v := -1) hK (by decide) dX12_warned_66 ?_
        refine V.icmp_eq (pc := 67) (tgt := 88) hK dX12_warned_67 (by decide) (fun c => ?_) (fun c => ?_)
        · rw [if_pos c] at h
          refine V.pick [0, 1, 2, 4, 5] (l := [(0, _), (1, _), (2, _), (4, _), (5, _)]) rfl ?_
          exact w_X12_warned_L88 hL hO N _ hk22 _ ih _ _ _ _ _ _ h
        · rw [if_neg c] at h
          refine V.aload_n (pc := 70) (i := 0) hK rfl ⟨_, rfl⟩ dX12_warned_70 ?_
          refine V.getR (pc := 71) hK fl_RX12_205 rfl (hL.1 79 _ ls_79) (hL.2 79 85 144 rfl) dX12_warned_71 ?_
          refine V.iload (pc := 74) (i := 5) hK rfl dX12_warned_74 ?_
          obtain ⟨hb, h⟩ := v_ckS h
          refine V.iald (pc := 76) hK (hL.1 144 _ ls_144) (v_ibS hb) dX12_warned_76 ?_
          refine V.iload_n (pc := 77) (i := 2) hK rfl dX12_warned_77 ?_
          refine V.icmp_gt (pc := 78) (tgt := 88) hK dX12_warned_78 (by decide) (fun c => ?_) (fun c => ?_)
          · rw [if_pos c] at h
            refine V.pick [0, 1, 2, 4, 5] (l := [(0, _), (1, _), (2, _), (4, _), (5, _)]) rfl ?_
            exact w_X12_warned_L88 hL hO N _ hk22 _ ih _ _ _ _ _ _ h
          · rw [if_neg c] at h
            refine V.iconst (pc := 81) (v := 1) hK (by decide) dX12_warned_81 ?_
            refine V.iload (pc := 82) (i := 4) hK rfl dX12_warned_82 ?_
            refine V.ishl (pc := 84) hK dX12_warned_84 ?_
            refine V.goto (pc := 85) (tgt := 89) hK dX12_warned_85 (by decide) ?_
            refine V.pick [0, 1, 2, 4, 5] (l := [(0, _), (1, _), (2, _), (4, _), (5, _)]) rfl ?_
            exact w_X12_warned_L89 hL hO N _ hk22 _ ih _ _ _ _ _ _ _ h
set_option maxHeartbeats 4000000 in
set_option maxRecDepth 100000 in
theorem w_X12_warned_L22 {E : v_E} {X : v_X} {sh : v_S} {P : v_P} {out : Int32 × v_M} (hL : v_Lay sh P) (hO : v_O E X cX12_warned RX12 6 2 (some .int) "warned" (v_Q1 (some (.int out.1)) sh P out.2)) (N : Nat) (n : Nat) : ∀ (x1 : Int32) (x2 : Int32) (x3 : Int32) (x4 : Int32) (M : v_M), f_X12_warned_L22 N n x1 x2 x3 x4 M = some out → V E X (0, 0) 22 [(0, v_rf E 79), (1, .int x1), (2, .int x2), (3, .int x3), (4, .int x4)] [] sh P M := by
  have hK := hO.1
  induction n with
  | zero => intro x1 x2 x3 x4 M h; rw [f_X12_warned_L22] at h; cases h
  | succ n ih =>
    intro x1 x2 x3 x4 M h
    rw [f_X12_warned_L22] at h
    refine V.iload (pc := 22) (i := 4) hK rfl dX12_warned_22 ?_
    refine V.bipush (pc := 24) (v := 16) hK (by decide) dX12_warned_24 ?_
    refine V.icmp_ge (pc := 26) (tgt := 103) hK dX12_warned_26 (by decide) (fun c => ?_) (fun c => ?_)
    · rw [if_pos c] at h
      refine V.iload_n (pc := 103) (i := 3) hK rfl dX12_warned_103 ?_
      exact V.iret (pc := 104) hO dX12_warned_104 (v_finI h)
    · rw [if_neg c] at h
      refine V.aload_n (pc := 29) (i := 0) hK rfl ⟨_, rfl⟩ dX12_warned_29 ?_
      refine V.iload (pc := 30) (i := 4) hK rfl dX12_warned_30 ?_
      obtain ⟨z1, hz1, h⟩ := v_bdS h
      refine V.cVv (pc := 32) (ci := 12) hK (c_X12_knows E hL N _ _ hz1) Y_X12_knows cv_RX12_534 (by decide) rfl (hL.1 79 _ ls_79) dX12_warned_32 (by decide) rfl (Nat.le_of_ble_eq_true rfl) ?_
      refine V.iconst (pc := 35) (v := 0) hK (by decide) dX12_warned_35 ?_
      refine V.istore (pc := 36) (i := 5) (lv' := [(0, _), (1, _), (2, _), (3, _), (4, _), (5, _)]) hK (by decide) rfl dX12_warned_36 ?_
      refine V.pick [0, 1, 2, 3, 4, 5] (l := [(0, _), (1, _), (2, _), (3, _), (4, _), (5, _)]) rfl ?_
      exact w_X12_warned_L38 hL hO N _ ih N _ _ _ _ _ _ h
set_option maxHeartbeats 4000000 in
set_option maxRecDepth 100000 in
theorem c_X12_warned (E : v_E) {sh : v_S} {P : v_P} (hL : v_Lay sh P) (N : Nat) (x1 : Int32) (x2 : Int32) (M : v_M) {out : Int32 × v_M} (h : f_X12_warned N x1 x2 M = some out) : v_Ct E 2 yX12_warned cX12_warned 6 (some .int) 0 0 [v_rf E 79, .int x1, .int x2] sh P M (v_Q1 (some (.int out.1)) sh P out.2) := by
  refine v_Ct.of (by decide +kernel) (Nat.le_of_ble_eq_true rfl) (fun X hO => ?_)
  have hK : v_K E X cX12_warned RX12 6 2 := hO.1
  have hO : v_O E X cX12_warned RX12 6 2 (some .int) "warned" (v_Q1 (some (.int out.1)) sh P out.2) := hO
  show V E X (0, 0) 0 [(0, v_rf E 79), (1, .int x1), (2, .int x2)] [] sh P M
  unfold f_X12_warned at h
  refine V.aload_n (pc := 0) (i := 0) hK rfl ⟨_, rfl⟩ dX12_warned_0 ?_
  refine V.iload_n (pc := 1) (i := 1) hK rfl dX12_warned_1 ?_
  obtain ⟨z1, hz1, h⟩ := v_bdS h
  refine V.cV (pc := 2) (ci := 12) hK (c_X12_isMachine E hL N _ _ hz1) Y_X12_isMachine cv_RX12_262 (by decide) rfl (hL.1 79 _ ls_79) dX12_warned_2 (by decide) rfl (Nat.le_of_ble_eq_true rfl) ?_
  refine V.if_eq (pc := 5) (tgt := 15) hK dX12_warned_5 (by decide) (fun c => ?_) (fun c => ?_)
  · rw [if_pos c] at h
    refine V.iconst (pc := 15) (v := -1) hK (by decide) dX12_warned_15 ?_
    exact V.iret (pc := 16) hO dX12_warned_16 (v_finI h)
  · rw [if_neg c] at h
    refine V.iload_n (pc := 8) (i := 2) hK rfl dX12_warned_8 ?_
    obtain ⟨z2, hz2, h⟩ := v_bdS h
    refine V.cS (pc := 9) hK (c_X12_isDay E hL N _ _ hz2) Y_X12_isDay cs_RX12_537 dX12_warned_9 (by decide) rfl (Nat.le_of_ble_eq_true rfl) ?_
    refine V.if_ne (pc := 12) (tgt := 17) hK dX12_warned_12 (by decide) (fun c => ?_) (fun c => ?_)
    · rw [if_neg c] at h
      refine V.iconst (pc := 17) (v := 0) hK (by decide) dX12_warned_17 ?_
      refine V.istore_n (pc := 18) (i := 3) (lv' := [(0, _), (1, _), (2, _), (3, _)]) hK (by decide) rfl dX12_warned_18 ?_
      refine V.iconst (pc := 19) (v := 0) hK (by decide) dX12_warned_19 ?_
      refine V.istore (pc := 20) (i := 4) (lv' := [(0, _), (1, _), (2, _), (3, _), (4, _)]) hK (by decide) rfl dX12_warned_20 ?_
      refine V.pick [0, 1, 2, 3, 4] (l := [(0, _), (1, _), (2, _), (3, _), (4, _)]) rfl ?_
      exact w_X12_warned_L22 hL hO N N _ _ _ _ _ h
    · rw [if_pos c] at h
      refine V.iconst (pc := 15) (v := -1) hK (by decide) dX12_warned_15 ?_
      exact V.iret (pc := 16) hO dX12_warned_16 (v_finI h)
set_option maxHeartbeats 4000000 in
set_option maxRecDepth 100000 in
theorem c_X12_wears (E : v_E) {sh : v_S} {P : v_P} (hL : v_Lay sh P) (N : Nat) (x1 : Int32) (x2 : Int32) (M : v_M) {out : Int32 × v_M} (h : f_X12_wears N x1 x2 M = some out) : v_Ct E 2 yX12_wears cX12_wears 4 (some .int) 0 0 [v_rf E 79, .int x1, .int x2] sh P M (v_Q1 (some (.int out.1)) sh P out.2) := by
  refine v_Ct.of (by decide +kernel) (Nat.le_of_ble_eq_true rfl) (fun X hO => ?_)
  have hK : v_K E X cX12_wears RX12 4 2 := hO.1
  have hO : v_O E X cX12_wears RX12 4 2 (some .int) "wears" (v_Q1 (some (.int out.1)) sh P out.2) := hO
  show V E X (0, 0) 0 [(0, v_rf E 79), (1, .int x1), (2, .int x2)] [] sh P M
  unfold f_X12_wears at h
  refine V.aload_n (pc := 0) (i := 0) hK rfl ⟨_, rfl⟩ dX12_wears_0 ?_
  refine V.iload_n (pc := 1) (i := 1) hK rfl dX12_wears_1 ?_
  obtain ⟨z1, hz1, h⟩ := v_bdS h
  refine V.cV (pc := 2) (ci := 12) hK (c_X12_isPart E hL N _ _ hz1) Y_X12_isPart cv_RX12_242 (by decide) rfl (hL.1 79 _ ls_79) dX12_wears_2 (by decide) rfl (Nat.le_of_ble_eq_true rfl) ?_
  refine V.if_eq (pc := 5) (tgt := 20) hK dX12_wears_5 (by decide) (fun c => ?_) (fun c => ?_)
  · rw [if_pos c] at h
    refine V.iconst (pc := 20) (v := -1) hK (by decide) dX12_wears_20 ?_
    exact V.iret (pc := 21) hO dX12_wears_21 (v_finI h)
  · rw [if_neg c] at h
    refine V.iload_n (pc := 8) (i := 2) hK rfl dX12_wears_8 ?_
    refine V.i2l (pc := 9) hK dX12_wears_9 ?_
    refine V.lconst (pc := 10) (v := 0) hK (by decide) dX12_wears_10 ?_
    refine V.ldc2 (pc := 11) hK tw_1404 dX12_wears_11 ?_
    obtain ⟨z2, hz2, h⟩ := v_bdS h
    refine V.cS (pc := 14) hK (c_X12_in E hL N _ _ _ _ hz2) Y_X12_in cs_RX12_229 dX12_wears_14 (by decide) rfl (Nat.le_of_ble_eq_true rfl) ?_
    refine V.if_ne (pc := 17) (tgt := 22) hK dX12_wears_17 (by decide) (fun c => ?_) (fun c => ?_)
    · rw [if_neg c] at h
      refine V.aload_n (pc := 22) (i := 0) hK rfl ⟨_, rfl⟩ dX12_wears_22 ?_
      refine V.getR (pc := 23) hK fl_RX12_31 rfl (hL.1 79 _ ls_79) (hL.2 79 11 87 rfl) dX12_wears_23 ?_
      refine V.iload_n (pc := 26) (i := 1) hK rfl dX12_wears_26 ?_
      obtain ⟨hb, h⟩ := v_ckS h
      refine V.iald (pc := 27) hK (hL.1 87 _ ls_87) (v_ibS hb) dX12_wears_27 ?_
      refine V.topi (fun y3 ey3 => ?_)
      have h := v_lt ey3 h
      refine V.istore_n (pc := 28) (i := 3) (lv' := [(0, _), (1, _), (2, _), (3, _)]) hK (by decide) rfl dX12_wears_28 ?_
      refine V.aload_n (pc := 29) (i := 0) hK rfl ⟨_, rfl⟩ dX12_wears_29 ?_
      refine V.getR (pc := 30) hK fl_RX12_31 rfl (hL.1 79 _ ls_79) (hL.2 79 11 87 rfl) dX12_wears_30 ?_
      refine V.iload_n (pc := 33) (i := 1) hK rfl dX12_wears_33 ?_
      refine V.iload_n (pc := 34) (i := 2) hK rfl dX12_wears_34 ?_
      obtain ⟨hb, h⟩ := v_ckS h
      refine V.iast (pc := 35) hK (hL.1 87 _ ls_87) (v_ibS hb) dX12_wears_35 ?_
      refine V.nmM (fun M4 eM4 => ?_)
      have h := v_lt eM4 h
      refine V.iload_n (pc := 36) (i := 3) hK rfl dX12_wears_36 ?_
      exact V.iret (pc := 37) hO dX12_wears_37 (v_finI h)
    · rw [if_pos c] at h
      refine V.iconst (pc := 20) (v := -1) hK (by decide) dX12_wears_20 ?_
      exact V.iret (pc := 21) hO dX12_wears_21 (v_finI h)
set_option maxHeartbeats 4000000 in
set_option maxRecDepth 100000 in
theorem w_X12_fly_L143 {E : v_E} {X : v_X} {sh : v_S} {P : v_P} {out : Int32 × v_M} (hL : v_Lay sh P) (hO : v_O E X cX12_fly RX12 6 2 (some .int) "fly" (v_Q1 (some (.int out.1)) sh P out.2)) (N : Nat) (k56 : Int32 → Int32 → Int32 → v_M → Option (Int32 × v_M)) (hk56 : ∀ (x1 : Int32) (x3 : Int32) (x4 : Int32) (M : v_M), k56 x1 x3 x4 M = some out → V E X (0, 0) 56 [(0, v_rf E 79), (1, .int x1), (3, .int x3), (4, .int x4)] [] sh P M) (x1 : Int32) (x3 : Int32) (x4 : Int32) (t0 : Int32) (t1 : Int32) (M : v_M) (h : f_X12_fly_L143 N k56 x1 x3 x4 t0 t1 M = some out) : V E X (0, 0) 143 [(0, v_rf E 79), (1, .int x1), (3, .int x3), (4, .int x4)] [.int t0, .int t1, v_rf E 88] sh P M := by
  have hK := hO.1
  unfold f_X12_fly_L143 at h
  obtain ⟨hb, h⟩ := v_ckS h
  refine V.iast (pc := 143) hK (hL.1 88 _ ls_88) (v_ibS hb) dX12_fly_143 ?_
  refine V.nmM (fun M1 eM1 => ?_)
  have h := v_lt eM1 h
  refine V.iinc (pc := 144) (i := 4) (v := 1) (lv' := [(0, _), (1, _), (3, _), (4, _)]) hK rfl (by decide) (by decide) rfl dX12_fly_144 ?_
  refine V.goto (pc := 147) (tgt := 56) hK dX12_fly_147 (by decide) ?_
  refine V.pick [0, 1, 3, 4] (l := [(0, _), (1, _), (3, _), (4, _)]) rfl ?_
  exact hk56 _ _ _ _ h
set_option maxHeartbeats 4000000 in
set_option maxRecDepth 100000 in
theorem w_X12_fly_L115 {E : v_E} {X : v_X} {sh : v_S} {P : v_P} {out : Int32 × v_M} (hL : v_Lay sh P) (hO : v_O E X cX12_fly RX12 6 2 (some .int) "fly" (v_Q1 (some (.int out.1)) sh P out.2)) (N : Nat) (k56 : Int32 → Int32 → Int32 → v_M → Option (Int32 × v_M)) (hk56 : ∀ (x1 : Int32) (x3 : Int32) (x4 : Int32) (M : v_M), k56 x1 x3 x4 M = some out → V E X (0, 0) 56 [(0, v_rf E 79), (1, .int x1), (3, .int x3), (4, .int x4)] [] sh P M) (x1 : Int32) (x3 : Int32) (x4 : Int32) (t0 : Int32) (t1 : Int32) (M : v_M) (h : f_X12_fly_L115 N k56 x1 x3 x4 t0 t1 M = some out) : V E X (0, 0) 115 [(0, v_rf E 79), (1, .int x1), (3, .int x3), (4, .int x4)] [.int t0, .int t1] sh P M := by
  have hK := hO.1
  unfold f_X12_fly_L115 at h
  refine V.iadd (pc := 115) hK dX12_fly_115 ?_
  refine V.topi (fun y1 ey1 => ?_)
  have h := v_lt ey1 h
  refine V.istore (pc := 116) (i := 5) (lv' := [(0, _), (1, _), (3, _), (4, _), (5, _)]) hK (by decide) rfl dX12_fly_116 ?_
  refine V.aload_n (pc := 118) (i := 0) hK rfl ⟨_, rfl⟩ dX12_fly_118 ?_
  refine V.getR (pc := 119) hK fl_RX12_34 rfl (hL.1 79 _ ls_79) (hL.2 79 12 88 rfl) dX12_fly_119 ?_
  refine V.bipush (pc := 122) (v := 24) hK (by decide) dX12_fly_122 ?_
  refine V.iload_n (pc := 124) (i := 1) hK rfl dX12_fly_124 ?_
  refine V.imul (pc := 125) hK dX12_fly_125 ?_
  refine V.iload (pc := 126) (i := 4) hK rfl dX12_fly_126 ?_
  refine V.iadd (pc := 128) hK dX12_fly_128 ?_
  refine V.iload (pc := 129) (i := 5) hK rfl dX12_fly_129 ?_
  refine V.bipush (pc := 131) (v := 99) hK (by decide) dX12_fly_131 ?_
  refine V.icmp_le (pc := 133) (tgt := 141) hK dX12_fly_133 (by decide) (fun c => ?_) (fun c => ?_)
  · rw [if_pos c] at h
    refine V.iload (pc := 141) (i := 5) hK rfl dX12_fly_141 ?_
    refine V.pick [0, 1, 3, 4] (l := [(0, _), (1, _), (3, _), (4, _)]) rfl ?_
    exact w_X12_fly_L143 hL hO N _ hk56 _ _ _ _ _ _ h
  · rw [if_neg c] at h
    refine V.bipush (pc := 136) (v := 99) hK (by decide) dX12_fly_136 ?_
    refine V.goto (pc := 138) (tgt := 143) hK dX12_fly_138 (by decide) ?_
    refine V.pick [0, 1, 3, 4] (l := [(0, _), (1, _), (3, _), (4, _)]) rfl ?_
    exact w_X12_fly_L143 hL hO N _ hk56 _ _ _ _ _ _ h
set_option maxHeartbeats 4000000 in
set_option maxRecDepth 100000 in
theorem w_X12_fly_L56 {E : v_E} {X : v_X} {sh : v_S} {P : v_P} {out : Int32 × v_M} (hL : v_Lay sh P) (hO : v_O E X cX12_fly RX12 6 2 (some .int) "fly" (v_Q1 (some (.int out.1)) sh P out.2)) (N : Nat) (n : Nat) : ∀ (x1 : Int32) (x3 : Int32) (x4 : Int32) (M : v_M), f_X12_fly_L56 N n x1 x3 x4 M = some out → V E X (0, 0) 56 [(0, v_rf E 79), (1, .int x1), (3, .int x3), (4, .int x4)] [] sh P M := by
  have hK := hO.1
  induction n with
  | zero => intro x1 x3 x4 M h; rw [f_X12_fly_L56] at h; cases h
  | succ n ih =>
    intro x1 x3 x4 M h
    rw [f_X12_fly_L56] at h
    refine V.iload (pc := 56) (i := 4) hK rfl dX12_fly_56 ?_
    refine V.aload_n (pc := 58) (i := 0) hK rfl ⟨_, rfl⟩ dX12_fly_58 ?_
    refine V.getI (pc := 59) hK fl_RX12_236 rfl (hL.1 79 _ ls_79) dX12_fly_59 ?_
    refine V.icmp_ge (pc := 62) (tgt := 150) hK dX12_fly_62 (by decide) (fun c => ?_) (fun c => ?_)
    · rw [if_pos c] at h
      refine V.aload_n (pc := 150) (i := 0) hK rfl ⟨_, rfl⟩ dX12_fly_150 ?_
      refine V.getR (pc := 151) hK fl_RX12_46 rfl (hL.1 79 _ ls_79) (hL.2 79 16 92 rfl) dX12_fly_151 ?_
      refine V.iload_n (pc := 154) (i := 1) hK rfl dX12_fly_154 ?_
      obtain ⟨hb, h⟩ := v_ckS h
      refine V.iald (pc := 155) hK (hL.1 92 _ ls_92) (v_ibS hb) dX12_fly_155 ?_
      exact V.iret (pc := 156) hO dX12_fly_156 (v_finI h)
    · rw [if_neg c] at h
      refine V.aload_n (pc := 65) (i := 0) hK rfl ⟨_, rfl⟩ dX12_fly_65 ?_
      refine V.getR (pc := 66) hK fl_RX12_34 rfl (hL.1 79 _ ls_79) (hL.2 79 12 88 rfl) dX12_fly_66 ?_
      refine V.bipush (pc := 69) (v := 24) hK (by decide) dX12_fly_69 ?_
      refine V.iload_n (pc := 71) (i := 1) hK rfl dX12_fly_71 ?_
      refine V.imul (pc := 72) hK dX12_fly_72 ?_
      refine V.iload (pc := 73) (i := 4) hK rfl dX12_fly_73 ?_
      refine V.iadd (pc := 75) hK dX12_fly_75 ?_
      obtain ⟨hb, h⟩ := v_ckS h
      refine V.iald (pc := 76) hK (hL.1 88 _ ls_88) (v_ibS hb) dX12_fly_76 ?_
      refine V.aload_n (pc := 77) (i := 0) hK rfl ⟨_, rfl⟩ dX12_fly_77 ?_
      refine V.getR (pc := 78) hK fl_RX12_31 rfl (hL.1 79 _ ls_79) (hL.2 79 11 87 rfl) dX12_fly_78 ?_
      refine V.iload (pc := 81) (i := 4) hK rfl dX12_fly_81 ?_
      obtain ⟨hb, h⟩ := v_ckS h
      refine V.iald (pc := 83) hK (hL.1 87 _ ls_87) (v_ibS hb) dX12_fly_83 ?_
      refine V.if_ne (pc := 84) (tgt := 91) hK dX12_fly_84 (by decide) (fun c => ?_) (fun c => ?_)
      · rw [if_neg c] at h
        refine V.aload_n (pc := 91) (i := 0) hK rfl ⟨_, rfl⟩ dX12_fly_91 ?_
        refine V.getR (pc := 92) hK fl_RX12_46 rfl (hL.1 79 _ ls_79) (hL.2 79 16 92 rfl) dX12_fly_92 ?_
        refine V.iload_n (pc := 95) (i := 1) hK rfl dX12_fly_95 ?_
        obtain ⟨hb, h⟩ := v_ckS h
        refine V.iald (pc := 96) hK (hL.1 92 _ ls_92) (v_ibS hb) dX12_fly_96 ?_
        refine V.aload_n (pc := 97) (i := 0) hK rfl ⟨_, rfl⟩ dX12_fly_97 ?_
        refine V.getR (pc := 98) hK fl_RX12_31 rfl (hL.1 79 _ ls_79) (hL.2 79 11 87 rfl) dX12_fly_98 ?_
        refine V.iload (pc := 101) (i := 4) hK rfl dX12_fly_101 ?_
        obtain ⟨hb, h⟩ := v_ckS h
        refine V.iald (pc := 103) hK (hL.1 87 _ ls_87) (v_ibS hb) dX12_fly_103 ?_
        obtain ⟨hb, h⟩ := v_ckS h
        refine V.idiv (pc := 104) hK (v_nzS hb) dX12_fly_104 ?_
        refine V.iload_n (pc := 105) (i := 3) hK rfl dX12_fly_105 ?_
        refine V.aload_n (pc := 106) (i := 0) hK rfl ⟨_, rfl⟩ dX12_fly_106 ?_
        refine V.getR (pc := 107) hK fl_RX12_31 rfl (hL.1 79 _ ls_79) (hL.2 79 11 87 rfl) dX12_fly_107 ?_
        refine V.iload (pc := 110) (i := 4) hK rfl dX12_fly_110 ?_
        obtain ⟨hb, h⟩ := v_ckS h
        refine V.iald (pc := 112) hK (hL.1 87 _ ls_87) (v_ibS hb) dX12_fly_112 ?_
        obtain ⟨hb, h⟩ := v_ckS h
        refine V.idiv (pc := 113) hK (v_nzS hb) dX12_fly_113 ?_
        refine V.isub (pc := 114) hK dX12_fly_114 ?_
        refine V.pick [0, 1, 3, 4] (l := [(0, _), (1, _), (3, _), (4, _)]) rfl ?_
        exact w_X12_fly_L115 hL hO N _ ih _ _ _ _ _ _ h
      · rw [if_pos c] at h
        refine V.iconst (pc := 87) (v := 0) hK (by decide) dX12_fly_87 ?_
        refine V.goto (pc := 88) (tgt := 115) hK dX12_fly_88 (by decide) ?_
        refine V.pick [0, 1, 3, 4] (l := [(0, _), (1, _), (3, _), (4, _)]) rfl ?_
        exact w_X12_fly_L115 hL hO N _ ih _ _ _ _ _ _ h
set_option maxHeartbeats 4000000 in
set_option maxRecDepth 100000 in
theorem w_X12_fly_L52 {E : v_E} {X : v_X} {sh : v_S} {P : v_P} {out : Int32 × v_M} (hL : v_Lay sh P) (hO : v_O E X cX12_fly RX12 6 2 (some .int) "fly" (v_Q1 (some (.int out.1)) sh P out.2)) (N : Nat) (x1 : Int32) (x3 : Int32) (t0 : Int32) (t1 : Int32) (M : v_M) (h : f_X12_fly_L52 N x1 x3 t0 t1 M = some out) : V E X (0, 0) 52 [(0, v_rf E 79), (1, .int x1), (3, .int x3)] [.int t0, .int t1, v_rf E 92] sh P M := by
  have hK := hO.1
  unfold f_X12_fly_L52 at h
  obtain ⟨hb, h⟩ := v_ckS h
  refine V.iast (pc := 52) hK (hL.1 92 _ ls_92) (v_ibS hb) dX12_fly_52 ?_
  refine V.nmM (fun M1 eM1 => ?_)
  have h := v_lt eM1 h
  refine V.iconst (pc := 53) (v := 0) hK (by decide) dX12_fly_53 ?_
  refine V.istore (pc := 54) (i := 4) (lv' := [(0, _), (1, _), (3, _), (4, _)]) hK (by decide) rfl dX12_fly_54 ?_
  refine V.pick [0, 1, 3, 4] (l := [(0, _), (1, _), (3, _), (4, _)]) rfl ?_
  exact w_X12_fly_L56 hL hO N N _ _ _ _ h
set_option maxHeartbeats 4000000 in
set_option maxRecDepth 100000 in
theorem c_X12_fly (E : v_E) {sh : v_S} {P : v_P} (hL : v_Lay sh P) (N : Nat) (x1 : Int32) (x2 : Int32) (M : v_M) {out : Int32 × v_M} (h : f_X12_fly N x1 x2 M = some out) : v_Ct E 2 yX12_fly cX12_fly 6 (some .int) 0 0 [v_rf E 79, .int x1, .int x2] sh P M (v_Q1 (some (.int out.1)) sh P out.2) := by
  refine v_Ct.of (by decide +kernel) (Nat.le_of_ble_eq_true rfl) (fun X hO => ?_)
  have hK : v_K E X cX12_fly RX12 6 2 := hO.1
  have hO : v_O E X cX12_fly RX12 6 2 (some .int) "fly" (v_Q1 (some (.int out.1)) sh P out.2) := hO
  show V E X (0, 0) 0 [(0, v_rf E 79), (1, .int x1), (2, .int x2)] [] sh P M
  unfold f_X12_fly at h
  refine V.aload_n (pc := 0) (i := 0) hK rfl ⟨_, rfl⟩ dX12_fly_0 ?_
  refine V.iload_n (pc := 1) (i := 1) hK rfl dX12_fly_1 ?_
  obtain ⟨z1, hz1, h⟩ := v_bdS h
  refine V.cV (pc := 2) (ci := 12) hK (c_X12_isMachine E hL N _ _ hz1) Y_X12_isMachine cv_RX12_262 (by decide) rfl (hL.1 79 _ ls_79) dX12_fly_2 (by decide) rfl (Nat.le_of_ble_eq_true rfl) ?_
  refine V.if_eq (pc := 5) (tgt := 20) hK dX12_fly_5 (by decide) (fun c => ?_) (fun c => ?_)
  · rw [if_pos c] at h
    refine V.iconst (pc := 20) (v := -1) hK (by decide) dX12_fly_20 ?_
    exact V.iret (pc := 21) hO dX12_fly_21 (v_finI h)
  · rw [if_neg c] at h
    refine V.iload_n (pc := 8) (i := 2) hK rfl dX12_fly_8 ?_
    refine V.i2l (pc := 9) hK dX12_fly_9 ?_
    refine V.lconst (pc := 10) (v := 0) hK (by decide) dX12_fly_10 ?_
    refine V.ldc2 (pc := 11) hK tw_1404 dX12_fly_11 ?_
    obtain ⟨z2, hz2, h⟩ := v_bdS h
    refine V.cS (pc := 14) hK (c_X12_in E hL N _ _ _ _ hz2) Y_X12_in cs_RX12_229 dX12_fly_14 (by decide) rfl (Nat.le_of_ble_eq_true rfl) ?_
    refine V.if_ne (pc := 17) (tgt := 22) hK dX12_fly_17 (by decide) (fun c => ?_) (fun c => ?_)
    · rw [if_neg c] at h
      refine V.aload_n (pc := 22) (i := 0) hK rfl ⟨_, rfl⟩ dX12_fly_22 ?_
      refine V.getR (pc := 23) hK fl_RX12_46 rfl (hL.1 79 _ ls_79) (hL.2 79 16 92 rfl) dX12_fly_23 ?_
      refine V.iload_n (pc := 26) (i := 1) hK rfl dX12_fly_26 ?_
      obtain ⟨hb, h⟩ := v_ckS h
      refine V.iald (pc := 27) hK (hL.1 92 _ ls_92) (v_ibS hb) dX12_fly_27 ?_
      refine V.topi (fun y3 ey3 => ?_)
      have h := v_lt ey3 h
      refine V.istore_n (pc := 28) (i := 3) (lv' := [(0, _), (1, _), (2, _), (3, _)]) hK (by decide) rfl dX12_fly_28 ?_
      refine V.aload_n (pc := 29) (i := 0) hK rfl ⟨_, rfl⟩ dX12_fly_29 ?_
      refine V.getR (pc := 30) hK fl_RX12_46 rfl (hL.1 79 _ ls_79) (hL.2 79 16 92 rfl) dX12_fly_30 ?_
      refine V.iload_n (pc := 33) (i := 1) hK rfl dX12_fly_33 ?_
      refine V.iload_n (pc := 34) (i := 3) hK rfl dX12_fly_34 ?_
      refine V.iload_n (pc := 35) (i := 2) hK rfl dX12_fly_35 ?_
      refine V.iadd (pc := 36) hK dX12_fly_36 ?_
      refine V.ldcw (pc := 37) hK tw_1761 dX12_fly_37 ?_
      refine V.icmp_le (pc := 40) (tgt := 49) hK dX12_fly_40 (by decide) (fun c => ?_) (fun c => ?_)
      · rw [if_pos c] at h
        refine V.iload_n (pc := 49) (i := 3) hK rfl dX12_fly_49 ?_
        refine V.iload_n (pc := 50) (i := 2) hK rfl dX12_fly_50 ?_
        refine V.iadd (pc := 51) hK dX12_fly_51 ?_
        refine V.pick [0, 1, 3] (l := [(0, _), (1, _), (3, _)]) rfl ?_
        exact w_X12_fly_L52 hL hO N _ _ _ _ _ h
      · rw [if_neg c] at h
        refine V.ldcw (pc := 43) hK tw_1761 dX12_fly_43 ?_
        refine V.goto (pc := 46) (tgt := 52) hK dX12_fly_46 (by decide) ?_
        refine V.pick [0, 1, 3] (l := [(0, _), (1, _), (3, _)]) rfl ?_
        exact w_X12_fly_L52 hL hO N _ _ _ _ _ h
    · rw [if_pos c] at h
      refine V.iconst (pc := 20) (v := -1) hK (by decide) dX12_fly_20 ?_
      exact V.iret (pc := 21) hO dX12_fly_21 (v_finI h)
set_option maxHeartbeats 4000000 in
set_option maxRecDepth 100000 in
theorem c_X12_behind (E : v_E) {sh : v_S} {P : v_P} (hL : v_Lay sh P) (N : Nat) (l0 : Int64) (x2 : Int32) (M : v_M) {out : Int64 × v_M} (h : f_X12_behind N l0 x2 M = some out) : v_Ct E 0 yX12_behind cX12_behind 3 (some .long) 0 0 [.long l0, .int x2] sh P M (v_Q1 (some (.long out.1)) sh P out.2) := by
  refine v_Ct.of (by decide +kernel) (Nat.le_of_ble_eq_true rfl) (fun X hO => ?_)
  have hK : v_K E X cX12_behind RX12 3 0 := hO.1
  have hO : v_O E X cX12_behind RX12 3 0 (some .long) "behind" (v_Q1 (some (.long out.1)) sh P out.2) := hO
  show V E X (0, 0) 0 [(0, .long l0), (2, .int x2)] [] sh P M
  unfold f_X12_behind at h
  refine V.lload_n (pc := 0) (i := 0) hK rfl dX12_behind_0 ?_
  refine V.lload_n (pc := 1) (i := 0) hK rfl dX12_behind_1 ?_
  refine V.iload_n (pc := 2) (i := 2) hK rfl dX12_behind_2 ?_
  refine V.i2l (pc := 3) hK dX12_behind_3 ?_
  refine V.lmul (pc := 4) hK dX12_behind_4 ?_
  refine V.ldc2 (pc := 5) hK tw_1769 dX12_behind_5 ?_
  refine V.ladd (pc := 8) hK dX12_behind_8 ?_
  refine V.lconst (pc := 9) (v := 1) hK (by decide) dX12_behind_9 ?_
  refine V.lsub (pc := 10) hK dX12_behind_10 ?_
  refine V.ldc2 (pc := 11) hK tw_1769 dX12_behind_11 ?_
  obtain ⟨hb, h⟩ := v_ckS h
  refine V.ldiv (pc := 14) hK (v_nzlS hb) dX12_behind_14 ?_
  refine V.lsub (pc := 15) hK dX12_behind_15 ?_
  exact V.lret (pc := 16) hO dX12_behind_16 (v_finL h)
set_option maxHeartbeats 4000000 in
set_option maxRecDepth 100000 in
theorem c_X12_isChance (E : v_E) {sh : v_S} {P : v_P} (hL : v_Lay sh P) (N : Nat) (x0 : Int32) (M : v_M) {out : Int32 × v_M} (h : f_X12_isChance N x0 M = some out) : v_Ct E 1 yX12_isChance cX12_isChance 1 (some .boolean) 0 0 [.int x0] sh P M (v_Q1 (some (.int out.1)) sh P out.2) := by
  refine v_Ct.of (by decide +kernel) (Nat.le_of_ble_eq_true rfl) (fun X hO => ?_)
  have hK : v_K E X cX12_isChance RX12 1 1 := hO.1
  have hO : v_O E X cX12_isChance RX12 1 1 (some .boolean) "isChance" (v_Q1 (some (.int out.1)) sh P out.2) := hO
  show V E X (0, 0) 0 [(0, .int x0)] [] sh P M
  unfold f_X12_isChance at h
  refine V.iload_n (pc := 0) (i := 0) hK rfl dX12_isChance_0 ?_
  refine V.i2l (pc := 1) hK dX12_isChance_1 ?_
  refine V.lconst (pc := 2) (v := 0) hK (by decide) dX12_isChance_2 ?_
  refine V.ldc2 (pc := 3) hK tw_1769 dX12_isChance_3 ?_
  obtain ⟨z1, hz1, h⟩ := v_bdS h
  refine V.cS (pc := 6) hK (c_X12_in E hL N _ _ _ _ hz1) Y_X12_in cs_RX12_229 dX12_isChance_6 (by decide) rfl (Nat.le_of_ble_eq_true rfl) ?_
  obtain ⟨hb, h⟩ := v_ckS h
  exact V.zret (pc := 9) hO (v_z01 hb) dX12_isChance_9 (v_finI h)
set_option maxHeartbeats 4000000 in
set_option maxRecDepth 100000 in
theorem w_X12_odds_L28 {E : v_E} {X : v_X} {sh : v_S} {P : v_P} {out : Int32 × v_M} (hL : v_Lay sh P) (hO : v_O E X cX12_odds RX12 6 2 (some .int) "odds" (v_Q1 (some (.int out.1)) sh P out.2)) (N : Nat) (n : Nat) : ∀ (x1 : Int32) (x2 : Int32) (l3 : Int64) (x5 : Int32) (M : v_M), f_X12_odds_L28 N n x1 x2 l3 x5 M = some out → V E X (0, 0) 28 [(1, .int x1), (2, .int x2), (3, .long l3), (5, .int x5)] [] sh P M := by
  have hK := hO.1
  induction n with
  | zero => intro x1 x2 l3 x5 M h; rw [f_X12_odds_L28] at h; cases h
  | succ n ih =>
    intro x1 x2 l3 x5 M h
    rw [f_X12_odds_L28] at h
    refine V.iload (pc := 28) (i := 5) hK rfl dX12_odds_28 ?_
    refine V.iload_n (pc := 30) (i := 2) hK rfl dX12_odds_30 ?_
    refine V.icmp_ge (pc := 31) (tgt := 46) hK dX12_odds_31 (by decide) (fun c => ?_) (fun c => ?_)
    · rw [if_pos c] at h
      refine V.ldc2 (pc := 46) hK tw_1769 dX12_odds_46 ?_
      refine V.lload_n (pc := 49) (i := 3) hK rfl dX12_odds_49 ?_
      refine V.lsub (pc := 50) hK dX12_odds_50 ?_
      refine V.l2i (pc := 51) hK dX12_odds_51 ?_
      exact V.iret (pc := 52) hO dX12_odds_52 (v_finI h)
    · rw [if_neg c] at h
      refine V.lload_n (pc := 34) (i := 3) hK rfl dX12_odds_34 ?_
      refine V.iload_n (pc := 35) (i := 1) hK rfl dX12_odds_35 ?_
      obtain ⟨z1, hz1, h⟩ := v_bdS h
      refine V.cS (pc := 36) hK (c_X12_behind E hL N _ _ _ hz1) Y_X12_behind cs_RX12_546 dX12_odds_36 (by decide) rfl (Nat.le_of_ble_eq_true rfl) ?_
      refine V.topl (fun y2 ey2 => ?_)
      have h := v_lt ey2 h
      refine V.lstore_n (pc := 39) (i := 3) (lv' := [(1, _), (2, _), (3, _), (5, _)]) hK (by decide) rfl dX12_odds_39 ?_
      refine V.iinc (pc := 40) (i := 5) (v := 1) (lv' := [(1, _), (2, _), (3, _), (5, _)]) hK rfl (by decide) (by decide) rfl dX12_odds_40 ?_
      refine V.goto (pc := 43) (tgt := 28) hK dX12_odds_43 (by decide) ?_
      refine V.pick [1, 2, 3, 5] (l := [(1, _), (2, _), (3, _), (5, _)]) rfl ?_
      exact ih _ _ _ _ _ h
set_option maxHeartbeats 4000000 in
set_option maxRecDepth 100000 in
theorem c_X12_odds (E : v_E) {sh : v_S} {P : v_P} (hL : v_Lay sh P) (N : Nat) (x1 : Int32) (x2 : Int32) (M : v_M) {out : Int32 × v_M} (h : f_X12_odds N x1 x2 M = some out) : v_Ct E 2 yX12_odds cX12_odds 6 (some .int) 0 0 [v_rf E 79, .int x1, .int x2] sh P M (v_Q1 (some (.int out.1)) sh P out.2) := by
  refine v_Ct.of (by decide +kernel) (Nat.le_of_ble_eq_true rfl) (fun X hO => ?_)
  have hK : v_K E X cX12_odds RX12 6 2 := hO.1
  have hO : v_O E X cX12_odds RX12 6 2 (some .int) "odds" (v_Q1 (some (.int out.1)) sh P out.2) := hO
  show V E X (0, 0) 0 [(0, v_rf E 79), (1, .int x1), (2, .int x2)] [] sh P M
  unfold f_X12_odds at h
  refine V.iload_n (pc := 0) (i := 1) hK rfl dX12_odds_0 ?_
  obtain ⟨z1, hz1, h⟩ := v_bdS h
  refine V.cS (pc := 1) hK (c_X12_isChance E hL N _ _ hz1) Y_X12_isChance cs_RX12_543 dX12_odds_1 (by decide) rfl (Nat.le_of_ble_eq_true rfl) ?_
  refine V.if_eq (pc := 4) (tgt := 19) hK dX12_odds_4 (by decide) (fun c => ?_) (fun c => ?_)
  · rw [if_pos c] at h
    refine V.iconst (pc := 19) (v := -1) hK (by decide) dX12_odds_19 ?_
    exact V.iret (pc := 20) hO dX12_odds_20 (v_finI h)
  · rw [if_neg c] at h
    refine V.iload_n (pc := 7) (i := 2) hK rfl dX12_odds_7 ?_
    refine V.i2l (pc := 8) hK dX12_odds_8 ?_
    refine V.lconst (pc := 9) (v := 0) hK (by decide) dX12_odds_9 ?_
    refine V.ldc2 (pc := 10) hK tw_1404 dX12_odds_10 ?_
    obtain ⟨z2, hz2, h⟩ := v_bdS h
    refine V.cS (pc := 13) hK (c_X12_in E hL N _ _ _ _ hz2) Y_X12_in cs_RX12_229 dX12_odds_13 (by decide) rfl (Nat.le_of_ble_eq_true rfl) ?_
    refine V.if_ne (pc := 16) (tgt := 21) hK dX12_odds_16 (by decide) (fun c => ?_) (fun c => ?_)
    · rw [if_neg c] at h
      refine V.ldc2 (pc := 21) hK tw_1769 dX12_odds_21 ?_
      refine V.lstore_n (pc := 24) (i := 3) (lv' := [(0, _), (1, _), (2, _), (3, _)]) hK (by decide) rfl dX12_odds_24 ?_
      refine V.iconst (pc := 25) (v := 0) hK (by decide) dX12_odds_25 ?_
      refine V.istore (pc := 26) (i := 5) (lv' := [(0, _), (1, _), (2, _), (3, _), (5, _)]) hK (by decide) rfl dX12_odds_26 ?_
      refine V.pick [1, 2, 3, 5] (l := [(1, _), (2, _), (3, _), (5, _)]) rfl ?_
      exact w_X12_odds_L28 hL hO N N _ _ _ _ _ h
    · rw [if_pos c] at h
      refine V.iconst (pc := 19) (v := -1) hK (by decide) dX12_odds_19 ?_
      exact V.iret (pc := 20) hO dX12_odds_20 (v_finI h)
set_option maxHeartbeats 4000000 in
set_option maxRecDepth 100000 in
theorem w_X12_first_L46 {E : v_E} {X : v_X} {sh : v_S} {P : v_P} {out : Int32 × v_M} (hL : v_Lay sh P) (hO : v_O E X cX12_first RX12 8 2 (some .int) "first" (v_Q1 (some (.int out.1)) sh P out.2)) (N : Nat) (k36 : Int32 → Int32 → Int32 → Int64 → Int32 → v_M → Option (Int32 × v_M)) (hk36 : ∀ (x1 : Int32) (x2 : Int32) (x3 : Int32) (l4 : Int64) (x6 : Int32) (M : v_M), k36 x1 x2 x3 l4 x6 M = some out → V E X (0, 0) 36 [(1, .int x1), (2, .int x2), (3, .int x3), (4, .long l4), (6, .int x6)] [] sh P M) (n : Nat) : ∀ (x1 : Int32) (x2 : Int32) (x3 : Int32) (l4 : Int64) (x6 : Int32) (x7 : Int32) (M : v_M), f_X12_first_L46 N k36 n x1 x2 x3 l4 x6 x7 M = some out → V E X (0, 0) 46 [(1, .int x1), (2, .int x2), (3, .int x3), (4, .long l4), (6, .int x6), (7, .int x7)] [] sh P M := by
  have hK := hO.1
  induction n with
  | zero => intro x1 x2 x3 l4 x6 x7 M h; rw [f_X12_first_L46] at h; cases h
  | succ n ih =>
    intro x1 x2 x3 l4 x6 x7 M h
    rw [f_X12_first_L46] at h
    refine V.iload (pc := 46) (i := 7) hK rfl dX12_first_46 ?_
    refine V.iload_n (pc := 48) (i := 2) hK rfl dX12_first_48 ?_
    refine V.icmp_ge (pc := 49) (tgt := 66) hK dX12_first_49 (by decide) (fun c => ?_) (fun c => ?_)
    · rw [if_pos c] at h
      refine V.ldc2 (pc := 66) hK tw_1769 dX12_first_66 ?_
      refine V.lload (pc := 69) (i := 4) hK rfl dX12_first_69 ?_
      refine V.lsub (pc := 71) hK dX12_first_71 ?_
      refine V.iload_n (pc := 72) (i := 3) hK rfl dX12_first_72 ?_
      refine V.i2l (pc := 73) hK dX12_first_73 ?_
      refine V.lcmp (pc := 74) hK dX12_first_74 ?_
      refine V.if_lt (pc := 75) (tgt := 81) hK dX12_first_75 (by decide) (fun c => ?_) (fun c => ?_)
      · rw [if_pos c] at h
        refine V.iinc (pc := 81) (i := 6) (v := 1) (lv' := [(1, _), (2, _), (3, _), (4, _), (6, _), (7, _)]) hK rfl (by decide) (by decide) rfl dX12_first_81 ?_
        refine V.goto (pc := 84) (tgt := 36) hK dX12_first_84 (by decide) ?_
        refine V.pick [1, 2, 3, 4, 6] (l := [(1, _), (2, _), (3, _), (4, _), (6, _)]) rfl ?_
        exact hk36 _ _ _ _ _ _ h
      · rw [if_neg c] at h
        refine V.iload (pc := 78) (i := 6) hK rfl dX12_first_78 ?_
        exact V.iret (pc := 80) hO dX12_first_80 (v_finI h)
    · rw [if_neg c] at h
      refine V.lload (pc := 52) (i := 4) hK rfl dX12_first_52 ?_
      refine V.iload_n (pc := 54) (i := 1) hK rfl dX12_first_54 ?_
      obtain ⟨z1, hz1, h⟩ := v_bdS h
      refine V.cS (pc := 55) hK (c_X12_behind E hL N _ _ _ hz1) Y_X12_behind cs_RX12_546 dX12_first_55 (by decide) rfl (Nat.le_of_ble_eq_true rfl) ?_
      refine V.topl (fun y2 ey2 => ?_)
      have h := v_lt ey2 h
      refine V.lstore (pc := 58) (i := 4) (lv' := [(1, _), (2, _), (3, _), (4, _), (6, _), (7, _)]) hK (by decide) rfl dX12_first_58 ?_
      refine V.iinc (pc := 60) (i := 7) (v := 1) (lv' := [(1, _), (2, _), (3, _), (4, _), (6, _), (7, _)]) hK rfl (by decide) (by decide) rfl dX12_first_60 ?_
      refine V.goto (pc := 63) (tgt := 46) hK dX12_first_63 (by decide) ?_
      refine V.pick [1, 2, 3, 4, 6, 7] (l := [(1, _), (2, _), (3, _), (4, _), (6, _), (7, _)]) rfl ?_
      exact ih _ _ _ _ _ _ _ h
set_option maxHeartbeats 4000000 in
set_option maxRecDepth 100000 in
theorem w_X12_first_L36 {E : v_E} {X : v_X} {sh : v_S} {P : v_P} {out : Int32 × v_M} (hL : v_Lay sh P) (hO : v_O E X cX12_first RX12 8 2 (some .int) "first" (v_Q1 (some (.int out.1)) sh P out.2)) (N : Nat) (n : Nat) : ∀ (x1 : Int32) (x2 : Int32) (x3 : Int32) (l4 : Int64) (x6 : Int32) (M : v_M), f_X12_first_L36 N n x1 x2 x3 l4 x6 M = some out → V E X (0, 0) 36 [(1, .int x1), (2, .int x2), (3, .int x3), (4, .long l4), (6, .int x6)] [] sh P M := by
  have hK := hO.1
  induction n with
  | zero => intro x1 x2 x3 l4 x6 M h; rw [f_X12_first_L36] at h; cases h
  | succ n ih =>
    intro x1 x2 x3 l4 x6 M h
    rw [f_X12_first_L36] at h
    refine V.iload (pc := 36) (i := 6) hK rfl dX12_first_36 ?_
    refine V.bipush (pc := 38) (v := 100) hK (by decide) dX12_first_38 ?_
    refine V.icmp_ge (pc := 40) (tgt := 87) hK dX12_first_40 (by decide) (fun c => ?_) (fun c => ?_)
    · rw [if_pos c] at h
      refine V.bipush (pc := 87) (v := -2) hK (by decide) dX12_first_87 ?_
      exact V.iret (pc := 89) hO dX12_first_89 (v_finI h)
    · rw [if_neg c] at h
      refine V.iconst (pc := 43) (v := 0) hK (by decide) dX12_first_43 ?_
      refine V.istore (pc := 44) (i := 7) (lv' := [(1, _), (2, _), (3, _), (4, _), (6, _), (7, _)]) hK (by decide) rfl dX12_first_44 ?_
      refine V.pick [1, 2, 3, 4, 6, 7] (l := [(1, _), (2, _), (3, _), (4, _), (6, _), (7, _)]) rfl ?_
      exact w_X12_first_L46 hL hO N _ ih N _ _ _ _ _ _ _ h
set_option maxHeartbeats 4000000 in
set_option maxRecDepth 100000 in
theorem c_X12_first (E : v_E) {sh : v_S} {P : v_P} (hL : v_Lay sh P) (N : Nat) (x1 : Int32) (x2 : Int32) (x3 : Int32) (M : v_M) {out : Int32 × v_M} (h : f_X12_first N x1 x2 x3 M = some out) : v_Ct E 2 yX12_first cX12_first 8 (some .int) 0 0 [v_rf E 79, .int x1, .int x2, .int x3] sh P M (v_Q1 (some (.int out.1)) sh P out.2) := by
  refine v_Ct.of (by decide +kernel) (Nat.le_of_ble_eq_true rfl) (fun X hO => ?_)
  have hK : v_K E X cX12_first RX12 8 2 := hO.1
  have hO : v_O E X cX12_first RX12 8 2 (some .int) "first" (v_Q1 (some (.int out.1)) sh P out.2) := hO
  show V E X (0, 0) 0 [(0, v_rf E 79), (1, .int x1), (2, .int x2), (3, .int x3)] [] sh P M
  unfold f_X12_first at h
  refine V.iload_n (pc := 0) (i := 1) hK rfl dX12_first_0 ?_
  obtain ⟨z1, hz1, h⟩ := v_bdS h
  refine V.cS (pc := 1) hK (c_X12_isChance E hL N _ _ hz1) Y_X12_isChance cs_RX12_543 dX12_first_1 (by decide) rfl (Nat.le_of_ble_eq_true rfl) ?_
  refine V.if_eq (pc := 4) (tgt := 26) hK dX12_first_4 (by decide) (fun c => ?_) (fun c => ?_)
  · rw [if_pos c] at h
    refine V.iconst (pc := 26) (v := -1) hK (by decide) dX12_first_26 ?_
    exact V.iret (pc := 27) hO dX12_first_27 (v_finI h)
  · rw [if_neg c] at h
    refine V.iload_n (pc := 7) (i := 2) hK rfl dX12_first_7 ?_
    refine V.i2l (pc := 8) hK dX12_first_8 ?_
    refine V.lconst (pc := 9) (v := 1) hK (by decide) dX12_first_9 ?_
    refine V.ldc2 (pc := 10) hK tw_1404 dX12_first_10 ?_
    obtain ⟨z2, hz2, h⟩ := v_bdS h
    refine V.cS (pc := 13) hK (c_X12_in E hL N _ _ _ _ hz2) Y_X12_in cs_RX12_229 dX12_first_13 (by decide) rfl (Nat.le_of_ble_eq_true rfl) ?_
    refine V.if_eq (pc := 16) (tgt := 26) hK dX12_first_16 (by decide) (fun c => ?_) (fun c => ?_)
    · rw [if_pos c] at h
      refine V.iconst (pc := 26) (v := -1) hK (by decide) dX12_first_26 ?_
      exact V.iret (pc := 27) hO dX12_first_27 (v_finI h)
    · rw [if_neg c] at h
      refine V.iload_n (pc := 19) (i := 3) hK rfl dX12_first_19 ?_
      obtain ⟨z3, hz3, h⟩ := v_bdS h
      refine V.cS (pc := 20) hK (c_X12_isChance E hL N _ _ hz3) Y_X12_isChance cs_RX12_543 dX12_first_20 (by decide) rfl (Nat.le_of_ble_eq_true rfl) ?_
      refine V.if_ne (pc := 23) (tgt := 28) hK dX12_first_23 (by decide) (fun c => ?_) (fun c => ?_)
      · rw [if_neg c] at h
        refine V.ldc2 (pc := 28) hK tw_1769 dX12_first_28 ?_
        refine V.lstore (pc := 31) (i := 4) (lv' := [(0, _), (1, _), (2, _), (3, _), (4, _)]) hK (by decide) rfl dX12_first_31 ?_
        refine V.iconst (pc := 33) (v := 1) hK (by decide) dX12_first_33 ?_
        refine V.istore (pc := 34) (i := 6) (lv' := [(0, _), (1, _), (2, _), (3, _), (4, _), (6, _)]) hK (by decide) rfl dX12_first_34 ?_
        refine V.pick [1, 2, 3, 4, 6] (l := [(1, _), (2, _), (3, _), (4, _), (6, _)]) rfl ?_
        exact w_X12_first_L36 hL hO N N _ _ _ _ _ _ h
      · rw [if_pos c] at h
        refine V.iconst (pc := 26) (v := -1) hK (by decide) dX12_first_26 ?_
        exact V.iret (pc := 27) hO dX12_first_27 (v_finI h)
set_option maxHeartbeats 4000000 in
set_option maxRecDepth 100000 in
theorem w_X12_carry_L42 {E : v_E} {X : v_X} {sh : v_S} {P : v_P} {out : Int32 × v_M} (hL : v_Lay sh P) (r1 n1 : Nat) (hr1 : sh[r1]? = some (1, n1)) (hO : v_O E X cX12_carry RX12 3 0 none "carry" (v_Q1 (none) sh P out.2)) (N : Nat) (k2 : Int32 → v_M → Option (Int32 × v_M)) (hk2 : ∀ (x2 : Int32) (M : v_M), k2 x2 M = some out → V E X (0, 0) 2 [(0, v_rf E 79), (1, v_rf E r1), (2, .int x2)] [] sh P M) (x2 : Int32) (M : v_M) (h : f_X12_carry_L42 N r1 n1 k2 x2 M = some out) : V E X (0, 0) 42 [(0, v_rf E 79), (1, v_rf E r1), (2, .int x2)] [] sh P M := by
  have hK := hO.1
  unfold f_X12_carry_L42 at h
  refine V.aload_n (pc := 42) (i := 0) hK rfl ⟨_, rfl⟩ dX12_carry_42 ?_
  refine V.dup (pc := 43) hK rfl dX12_carry_43 ?_
  refine V.getI (pc := 44) hK fl_RX12_553 rfl (hL.1 79 _ ls_79) dX12_carry_44 ?_
  refine V.iconst (pc := 47) (v := 1) hK (by decide) dX12_carry_47 ?_
  refine V.iadd (pc := 48) hK dX12_carry_48 ?_
  refine V.putI (pc := 49) hK fl_RX12_553 rfl rfl ⟨rfl, rfl⟩ (hL.1 79 _ ls_79) dX12_carry_49 ?_
  refine V.nmM (fun M1 eM1 => ?_)
  have h := v_lt eM1 h
  refine V.iinc (pc := 52) (i := 2) (v := 1) (lv' := [(0, _), (1, _), (2, _)]) hK rfl (by decide) (by decide) rfl dX12_carry_52 ?_
  refine V.goto (pc := 55) (tgt := 2) hK dX12_carry_55 (by decide) ?_
  refine V.pick [0, 1, 2] (l := [(0, _), (1, _), (2, _)]) rfl ?_
  exact hk2 _ _ h
set_option maxHeartbeats 4000000 in
set_option maxRecDepth 100000 in
theorem w_X12_carry_L2 {E : v_E} {X : v_X} {sh : v_S} {P : v_P} {out : Int32 × v_M} (hL : v_Lay sh P) (r1 n1 : Nat) (hr1 : sh[r1]? = some (1, n1)) (hO : v_O E X cX12_carry RX12 3 0 none "carry" (v_Q1 (none) sh P out.2)) (N : Nat) (n : Nat) : ∀ (x2 : Int32) (M : v_M), f_X12_carry_L2 N r1 n1 n x2 M = some out → V E X (0, 0) 2 [(0, v_rf E 79), (1, v_rf E r1), (2, .int x2)] [] sh P M := by
  have hK := hO.1
  induction n with
  | zero => intro x2 M h; rw [f_X12_carry_L2] at h; cases h
  | succ n ih =>
    intro x2 M h
    rw [f_X12_carry_L2] at h
    refine V.iload_n (pc := 2) (i := 2) hK rfl dX12_carry_2 ?_
    refine V.aload_n (pc := 3) (i := 1) hK rfl ⟨_, rfl⟩ dX12_carry_3 ?_
    refine V.alen (pc := 4) hK hr1 (by decide) rfl dX12_carry_4 ?_
    refine V.icmp_ge (pc := 5) (tgt := 58) hK dX12_carry_5 (by decide) (fun c => ?_) (fun c => ?_)
    · rw [if_pos c] at h
      exact V.vret (pc := 58) hO dX12_carry_58 (v_finV h)
    · rw [if_neg c] at h
      refine V.aload_n (pc := 8) (i := 0) hK rfl ⟨_, rfl⟩ dX12_carry_8 ?_
      refine V.getI (pc := 9) hK fl_RX12_550 rfl (hL.1 79 _ ls_79) dX12_carry_9 ?_
      refine V.if_eq (pc := 12) (tgt := 30) hK dX12_carry_12 (by decide) (fun c => ?_) (fun c => ?_)
      · rw [if_pos c] at h
        refine V.aload_n (pc := 30) (i := 0) hK rfl ⟨_, rfl⟩ dX12_carry_30 ?_
        refine V.getR (pc := 31) hK fl_RX12_208 rfl (hL.1 79 _ ls_79) (hL.2 79 86 145 rfl) dX12_carry_31 ?_
        refine V.aload_n (pc := 34) (i := 0) hK rfl ⟨_, rfl⟩ dX12_carry_34 ?_
        refine V.getI (pc := 35) hK fl_RX12_553 rfl (hL.1 79 _ ls_79) dX12_carry_35 ?_
        refine V.aload_n (pc := 38) (i := 1) hK rfl ⟨_, rfl⟩ dX12_carry_38 ?_
        refine V.iload_n (pc := 39) (i := 2) hK rfl dX12_carry_39 ?_
        obtain ⟨hb, h⟩ := v_ckS h
        refine V.iald (pc := 40) hK hr1 (v_ibS hb) dX12_carry_40 ?_
        obtain ⟨hb, h⟩ := v_ckS h
        refine V.iast (pc := 41) hK (hL.1 145 _ ls_145) (v_ibS hb) dX12_carry_41 ?_
        refine V.nmM (fun M1 eM1 => ?_)
        have h := v_lt eM1 h
        refine V.pick [0, 1, 2] (l := [(0, _), (1, _), (2, _)]) rfl ?_
        exact w_X12_carry_L42 hL r1 n1 hr1 hO N _ ih _ _ h
      · rw [if_neg c] at h
        refine V.aload_n (pc := 15) (i := 1) hK rfl ⟨_, rfl⟩ dX12_carry_15 ?_
        refine V.iload_n (pc := 16) (i := 2) hK rfl dX12_carry_16 ?_
        refine V.aload_n (pc := 17) (i := 0) hK rfl ⟨_, rfl⟩ dX12_carry_17 ?_
        refine V.getR (pc := 18) hK fl_RX12_208 rfl (hL.1 79 _ ls_79) (hL.2 79 86 145 rfl) dX12_carry_18 ?_
        refine V.aload_n (pc := 21) (i := 0) hK rfl ⟨_, rfl⟩ dX12_carry_21 ?_
        refine V.getI (pc := 22) hK fl_RX12_553 rfl (hL.1 79 _ ls_79) dX12_carry_22 ?_
        obtain ⟨hb, h⟩ := v_ckS h
        refine V.iald (pc := 25) hK (hL.1 145 _ ls_145) (v_ibS hb) dX12_carry_25 ?_
        obtain ⟨hb, h⟩ := v_ckS h
        refine V.iast (pc := 26) hK hr1 (v_ibS hb) dX12_carry_26 ?_
        refine V.nmM (fun M2 eM2 => ?_)
        have h := v_lt eM2 h
        refine V.goto (pc := 27) (tgt := 42) hK dX12_carry_27 (by decide) ?_
        refine V.pick [0, 1, 2] (l := [(0, _), (1, _), (2, _)]) rfl ?_
        exact w_X12_carry_L42 hL r1 n1 hr1 hO N _ ih _ _ h
set_option maxHeartbeats 4000000 in
set_option maxRecDepth 100000 in
theorem c_X12_carry (E : v_E) {sh : v_S} {P : v_P} (hL : v_Lay sh P) (N : Nat) (r1 n1 : Nat) (hr1 : sh[r1]? = some (1, n1)) (M : v_M) {out : Int32 × v_M} (h : f_X12_carry N r1 n1 M = some out) : v_Ct E 0 yX12_carry cX12_carry 3 none 0 0 [v_rf E 79, v_rf E r1] sh P M (v_Q1 (none) sh P out.2) := by
  refine v_Ct.of (by decide +kernel) (Nat.le_of_ble_eq_true rfl) (fun X hO => ?_)
  have hK : v_K E X cX12_carry RX12 3 0 := hO.1
  have hO : v_O E X cX12_carry RX12 3 0 none "carry" (v_Q1 (none) sh P out.2) := hO
  show V E X (0, 0) 0 [(0, v_rf E 79), (1, v_rf E r1)] [] sh P M
  unfold f_X12_carry at h
  refine V.iconst (pc := 0) (v := 0) hK (by decide) dX12_carry_0 ?_
  refine V.istore_n (pc := 1) (i := 2) (lv' := [(0, _), (1, _), (2, _)]) hK (by decide) rfl dX12_carry_1 ?_
  refine V.pick [0, 1, 2] (l := [(0, _), (1, _), (2, _)]) rfl ?_
  exact w_X12_carry_L2 hL r1 n1 hr1 hO N N _ _ h
