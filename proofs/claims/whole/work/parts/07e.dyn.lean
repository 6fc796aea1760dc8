set_option maxHeartbeats 4000000 in
set_option maxRecDepth 100000 in
/-- mark(k): the tail: the fleet's copy at q becomes the fleet -/
theorem w_mark_37 {E : v_E} {X : v_X} {b : Nat × Nat} {Qp : Option Value → v_S → v_P → v_M → Prop} (hO : v_O E X cX11_mark RX11 3 3 (some .int) "mark" Qp) {sh : v_S} {P : v_P} (hL : v_Lay sh P) (N : Nat) (x1 : Int32) (q : Nat) (hq : v_Fl sh P q) (M : v_M) {z : Int32 × v_M} (hz : f_X4_become N q 11 M = some z) (hb : v_ib x1 4 = true)
    (hQ : ∀ M', M' = v_wr z.2 78 x1.toNatClampNeg (z.2.1 0 0) → Qp (some (.int (M'.1 0 0))) sh P M') : V E X b 37 [(0, v_rf E 0), (1, .int x1), (2, v_rf E q)] [] sh P M := by
  have hK := hO.1
  refine V.aload_n (pc := 37) (i := 2) hK rfl ⟨_, rfl⟩ dX11_mark_37 ?_
  refine V.aload_n (pc := 38) (i := 0) hK rfl ⟨_, rfl⟩ dX11_mark_38 ?_
  refine V.getR (pc := 39) hK fl_RX11_26 rfl (hL.1 0 _ ls_0) (hL.2 0 3 11 rfl) dX11_mark_39 ?_
  refine V.cVv (pc := 42) (ci := 4) hK (c_X4_become E hL N q hq 11 (v_FlL hL 11 rfl) M hz) Y_X4_become cv_RX11_351 (by decide) rfl (hq.1 0 _ rfl) dX11_mark_42 (by decide) rfl (Nat.le_of_ble_eq_true rfl) ?_
  refine V.aload_n (pc := 45) (i := 0) hK rfl ⟨_, rfl⟩ dX11_mark_45 ?_
  refine V.getR (pc := 46) hK fl_RX11_89 rfl (hL.1 0 _ ls_0) (hL.2 0 13 78 rfl) dX11_mark_46 ?_
  refine V.iload_n (pc := 49) (i := 1) hK rfl dX11_mark_49 ?_
  refine V.aload_n (pc := 50) (i := 0) hK rfl ⟨_, rfl⟩ dX11_mark_50 ?_
  refine V.getI (pc := 51) hK fl_RX11_7 rfl (hL.1 0 _ ls_0) dX11_mark_51 ?_
  refine V.iast (pc := 54) hK (hL.1 78 _ ls_78) (v_ibS hb) dX11_mark_54 ?_
  refine V.aload_n (pc := 55) (i := 0) hK rfl ⟨_, rfl⟩ dX11_mark_55 ?_
  refine V.getI (pc := 56) hK fl_RX11_7 rfl (hL.1 0 _ ls_0) dX11_mark_56 ?_
  exact V.iret (pc := 59) hO dX11_mark_59 (hQ _ rfl)
def h_mark (sh : v_S) (P : v_P) (M : v_M) (k : Nat) : v_Z := z_put 77 k sh.length (g_X4 sh.length (sh.length + 1) (z_new 0 4 sh.length (sh, P, M)))
theorem v_ls_77 {sh : v_S} {P : v_P} (hL : v_Lay sh P) : sh[77]? = some (6, 4) := hL.1 77 _ ls_77
theorem v_Lay_mark {sh : v_S} {P : v_P} (hL : v_Lay sh P) (M : v_M) (k : Nat) : v_Lay (h_mark sh P M k).1 (h_mark sh P M k).2.1 := by
  have h := v_Lay_len hL
  exact v_Lay_put (v_Lay_X4 (v_Lay_new (z := (sh, P, M)) hL h) h (by omega)) (by simp [v_lp])
theorem v_Fl_X4 {z : v_Z} {q n : Nat} (hq : z.1[q]? = some (0, 4)) (hn : z.1.length = n) (hqn : n = q + 1) : v_Fl (g_X4 q n z).1 (g_X4 q n z).2.1 q := by
  subst hqn
  refine ⟨fun j s hj => ?_, fun j r hj => ?_⟩
  · rw [a_X4]
    match j, hj with
    | 0, hj => cases hj; exact v_apl hq
    | 1, hj => cases hj; rw [List.getElem?_append_right (by omega), show q + 1 - z.1.length = 0 by omega]; rfl
    | 2, hj => cases hj; rw [List.getElem?_append_right (by omega), show q + 2 - z.1.length = 1 by omega]; rfl
    | 3, hj => cases hj; rw [List.getElem?_append_right (by omega), show q + 3 - z.1.length = 2 by omega]; rfl
    | 4, hj => cases hj; rw [List.getElem?_append_right (by omega), show q + 4 - z.1.length = 3 by omega]; rfl
    | 5, hj => cases hj; rw [List.getElem?_append_right (by omega), show q + 5 - z.1.length = 4 by omega]; rfl
    | 6, hj => cases hj; rw [List.getElem?_append_right (by omega), show q + 6 - z.1.length = 5 by omega]; rfl
    | j + 7, hj => cases hj
  · match j, hj with
    | 0, hj => cases hj
    | 1, hj => cases hj; simp [g_X4, z_put, z_new, z_int, v_wp, v_pN, show ¬ q = q + 1 + 5 by omega, show ¬ q = q + 1 + 4 by omega, show ¬ q = q + 1 + 3 by omega, show ¬ q = q + 1 + 2 by omega, show ¬ q = q + 1 + 1 by omega]
    | 2, hj => cases hj; simp [g_X4, z_put, z_new, z_int, v_wp, v_pN, show ¬ q = q + 1 + 5 by omega, show ¬ q = q + 1 + 4 by omega, show ¬ q = q + 1 + 3 by omega, show ¬ q = q + 1 + 2 by omega, show ¬ q = q + 1 + 1 by omega]
    | 3, hj => cases hj; simp [g_X4, z_put, z_new, z_int, v_wp, v_pN, show ¬ q = q + 1 + 5 by omega, show ¬ q = q + 1 + 4 by omega, show ¬ q = q + 1 + 3 by omega, show ¬ q = q + 1 + 2 by omega, show ¬ q = q + 1 + 1 by omega]
    | 4, hj => cases hj; simp [g_X4, z_put, z_new, z_int, v_wp, v_pN, show ¬ q = q + 1 + 5 by omega, show ¬ q = q + 1 + 4 by omega, show ¬ q = q + 1 + 3 by omega, show ¬ q = q + 1 + 2 by omega, show ¬ q = q + 1 + 1 by omega]
    | 5, hj => cases hj; simp [g_X4, z_put, z_new, z_int, v_wp, v_pN, show ¬ q = q + 1 + 5 by omega, show ¬ q = q + 1 + 4 by omega, show ¬ q = q + 1 + 3 by omega, show ¬ q = q + 1 + 2 by omega, show ¬ q = q + 1 + 1 by omega]
    | 6, hj => cases hj; simp [g_X4, z_put, z_new, z_int, v_wp, v_pN, show ¬ q = q + 1 + 5 by omega, show ¬ q = q + 1 + 4 by omega, show ¬ q = q + 1 + 3 by omega, show ¬ q = q + 1 + 2 by omega, show ¬ q = q + 1 + 1 by omega]
    | j + 7, hj => cases hj
theorem v_Fl_put {z : v_Z} {k j r q : Nat} (h : v_Fl z.1 z.2.1 q) (hk : q ≠ k) : v_Fl (z_put k j r z).1 (z_put k j r z).2.1 q := by
  refine ⟨h.1, fun i s hi => ?_⟩
  show v_wp z.2.1 k j (some r) q i = _
  rw [v_wp_n hk]; exact h.2 i s hi
theorem v_Fl_mark {sh : v_S} {P : v_P} (hL : v_Lay sh P) (M : v_M) (k : Nat) : v_Fl (h_mark sh P M k).1 (h_mark sh P M k).2.1 sh.length := by
  have h := v_Lay_len hL
  refine v_Fl_put (v_Fl_X4 (v_apn rfl) (v_al (n := sh.length) (c := 0) rfl) rfl) (by omega)
/-- mark(k): the answer, and shapes, references and contents behind it -/
def f_X11_mark (N : Nat) (sh : v_S) (P : v_P) (x1 : Int32) (M : v_M) : Option (Int32 × v_Z) :=
  (f_X11_within N x1 0 3 M).bind fun z1 => if z1.1 = 0 then some (-1, (sh, P, z1.2)) else v_ck (v_ib x1 4) <| v_opt (P 77 x1.toNatClampNeg)
    ((f_X4_become N sh.length 11 (h_mark sh P z1.2 x1.toNatClampNeg).2.2).bind fun z2 => some (z2.2.1 0 0, ((h_mark sh P z1.2 x1.toNatClampNeg).1, (h_mark sh P z1.2 x1.toNatClampNeg).2.1, v_wr z2.2 78 x1.toNatClampNeg (z2.2.1 0 0))))
    (fun q => (f_X4_become N q 11 z1.2).bind fun z2 => some (z2.2.1 0 0, (sh, P, v_wr z2.2 78 x1.toNatClampNeg (z2.2.1 0 0))))
def v_QI (r : Int32) (z : v_Z) : Option Value → v_S → v_P → v_M → Prop := fun v s p m => v = some (.int r) ∧ s = z.1 ∧ p = z.2.1 ∧ m = z.2.2
theorem v_wr78 (M : v_M) (i : Nat) (v : Int32) : (v_wr M 78 i v).1 0 0 = M.1 0 0 := by rw [v_wr_n (by decide)]
set_option maxHeartbeats 4000000 in
set_option maxRecDepth 100000 in
theorem c_X11_mark (E : v_E) {sh : v_S} {P : v_P} (hL : v_Lay sh P) (hPO : v_PO sh P) (N : Nat) (x1 : Int32) (M : v_M) {out : Int32 × v_Z} (h : f_X11_mark N sh P x1 M = some out) : v_Ct E 3 yX11_mark cX11_mark 3 (some .int) 7 1967 [v_rf E 0, .int x1] sh P M (v_QI out.1 out.2) := by
  refine v_Ct.of (by decide +kernel) (Nat.le_of_ble_eq_true rfl) (fun X hO => ?_)
  have hK : v_K E X cX11_mark RX11 3 3 := hO.1
  show V E X (7, 1967) 0 [(0, v_rf E 0), (1, .int x1)] [] sh P M
  unfold f_X11_mark at h
  refine V.iload_n (pc := 0) (i := 1) hK rfl dX11_mark_0 ?_
  refine V.iconst (pc := 1) (v := 0) hK (by decide) dX11_mark_1 ?_
  refine V.iconst (pc := 2) (v := 3) hK (by decide) dX11_mark_2 ?_
  obtain ⟨z1, hz1, h⟩ := v_bdS h
  refine V.cS (pc := 3) hK (c_X11_within E hL N _ _ _ _ hz1) Y_X11_within cs_RX11_93 dX11_mark_3 (by decide) rfl (Nat.le_of_ble_eq_true rfl) ?_
  refine V.if_ne (pc := 6) (tgt := 11) hK dX11_mark_6 (by decide) (fun c => ?_) (fun c => ?_)
  · rw [if_neg c] at h
    obtain ⟨hb, h⟩ := v_ckS h
    refine V.aload_n (pc := 11) (i := 0) hK rfl ⟨_, rfl⟩ dX11_mark_11 ?_
    refine V.getR (pc := 12) hK fl_RX11_85 rfl (hL.1 0 _ ls_0) (hL.2 0 12 77 rfl) dX11_mark_12 ?_
    refine V.iload_n (pc := 15) (i := 1) hK rfl dX11_mark_15 ?_
    cases eq : P 77 x1.toNatClampNeg with
    | none =>
      have h := v_optN eq h
      obtain ⟨z2, hz2, h⟩ := v_bdS h
      refine V.aaldFN (pc := 16) hK (v_ls_77 hL) (v_ibS hb) eq dX11_mark_16 ?_
      refine V.astore_nN (pc := 17) (i := 2) (lv' := [(0, _), (1, _), (2, _)]) hK (by decide) rfl dX11_mark_17 ?_
      refine V.aload_nN (pc := 18) (i := 2) hK rfl dX11_mark_18 ?_
      refine V.ifnonnullN (pc := 19) hK dX11_mark_19 ?_
      refine V.new (pc := 22) (ci := 4) (n := 7) (b1 := 6) (b2 := 1960) hK (by decide) rfl tw_82 tw_83 tw_3 dX11_mark_22 ?_
      refine V.nmZ (z_new 0 4 sh.length (sh, P, z1.2)) rfl rfl rfl (fun s1 e1 => ?_)
      have hs : s1.1[sh.length]? = some (0, 4) := by rw [e1]; exact v_apn rfl
      have hn : s1.1.length = sh.length + 1 := by rw [e1]; exact v_al (n := sh.length) (c := 0) rfl
      refine V.dup (pc := 25) hK rfl dX11_mark_25 ?_
      refine V.cIN (pc := 26) hK (c_X4_init E sh.length (sh.length + 1) s1 hs hn) Y_X4_init cin_RX11_25 dX11_mark_26 (by decide) rfl (Nat.le_of_ble_eq_true rfl) (by decide) ?_
      have hlen := v_Lay_len hL
      have hL2 : v_Lay (g_X4 sh.length (sh.length + 1) s1).1 (g_X4 sh.length (sh.length + 1) s1).2.1 := by rw [e1]; exact v_Lay_X4 (v_Lay_new (z := (sh, P, z1.2)) hL hlen) hlen (by omega)
      refine V.astore_n (pc := 29) (i := 2) (lv' := [(0, _), (1, _), (2, _)]) hK ⟨_, rfl⟩ (by decide) rfl dX11_mark_29 ?_
      refine V.aload_n (pc := 30) (i := 0) hK rfl ⟨_, rfl⟩ dX11_mark_30 ?_
      refine V.getR (pc := 31) hK fl_RX11_85 rfl (hL2.1 0 _ ls_0) (hL2.2 0 12 77 rfl) dX11_mark_31 ?_
      refine V.iload_n (pc := 34) (i := 1) hK rfl dX11_mark_34 ?_
      refine V.aload_n (pc := 35) (i := 2) hK rfl ⟨_, rfl⟩ dX11_mark_35 ?_
      refine V.aastF (pc := 36) hK (v_ls_77 hL2) (k_X4 hs) (v_ibS hb) dX11_mark_36 ?_
      subst e1
      refine V.nmZ (h_mark sh P z1.2 x1.toNatClampNeg) rfl rfl rfl (fun s2 e2 => ?_)
      subst e2
      exact w_mark_37 hO (v_Lay_mark hL _ _) N x1 sh.length (v_Fl_mark hL _ _) _ hz2 hb (fun M' e => by cases h; subst e; exact ⟨by rw [v_wr78], rfl, rfl, rfl⟩)
    | some q =>
      have h := v_optS eq h
      obtain ⟨z2, hz2, h⟩ := v_bdS h
      have hq := hPO.2 _ _ eq
      refine V.aaldFS (pc := 16) hK (v_ls_77 hL) (v_ibS hb) eq dX11_mark_16 ?_
      refine V.astore_n (pc := 17) (i := 2) (lv' := [(0, _), (1, _), (2, _)]) hK ⟨_, rfl⟩ (by decide) rfl dX11_mark_17 ?_
      refine V.aload_n (pc := 18) (i := 2) hK rfl ⟨_, rfl⟩ dX11_mark_18 ?_
      refine V.ifnonnullR (pc := 19) (tgt := 37) hK ⟨_, rfl⟩ dX11_mark_19 (by decide) ?_
      exact w_mark_37 hO hL N x1 q hq _ hz2 hb (fun M' e => by cases h; subst e; exact ⟨by rw [v_wr78], rfl, rfl, rfl⟩)
  · rw [if_pos c] at h
    refine V.iconst (pc := 9) (v := -1) hK (by decide) dX11_mark_9 ?_
    exact V.iret (pc := 10) hO dX11_mark_10 (by cases h; exact ⟨rfl, rfl, rfl, rfl⟩)
/-- order(kind, day): the answer, and shapes, references and contents behind it -/
def f_X11_order (N qo : Nat) (sh : v_S) (P : v_P) (x1 x2 : Int32) (M : v_M) : Option (Int32 × v_Z) :=
  if 12 ≤ M.1 0 1 then some (-1, (sh, P, M)) else (f_X11_within N x1 0 2 M).bind fun z1 => if z1.1 = 0 then some (-1, (sh, P, z1.2)) else (f_X11_within N x2 (z1.2.1 0 0) 9999 z1.2).bind fun z2 => if z2.1 = 0 then some (-1, (sh, P, z2.2)) else
    (f_X7_compile N qo z2.2).bind fun z3 => v_let (v_wr z3.2 36 0 0) fun M4 => if z3.1 = 0 then
      v_let (v_wr (h_over sh P M4).2.2 qo 0 x1) fun M5 => v_let (v_wr M5 qo 1 x2) fun M6 => v_ck (v_ib (M6.1 0 1) 12) <| v_let (v_wr M6 0 1 (M6.1 0 1 + 1)) fun M7 => some (M7.1 0 1 - 1, ((h_over sh P M4).1, v_wp (h_over sh P M4).2.1 48 (M6.1 0 1).toNatClampNeg (some qo), M7))
    else some ((-2 : Int32) - z3.1, (sh, P, M4))
theorem v_Lay_over {sh : v_S} {P : v_P} (hL : v_Lay sh P) (M : v_M) : v_Lay (h_over sh P M).1 (h_over sh P M).2.1 := by
  have h := v_Lay_len hL
  exact v_Lay_put (v_Lay_X5 (v_Lay_new (z := (sh, P, M)) hL h) h (by omega)) rfl
theorem v_sh_over {sh : v_S} (P : v_P) (M : v_M) {k : Nat} {s : Nat × Nat} (h : sh[k]? = some s) : (h_over sh P M).1[k]? = some s := k_X5 (v_ap (z := (sh, P, M)) h)
set_option maxHeartbeats 4000000 in
set_option maxRecDepth 100000 in
theorem c_X11_order (E : v_E) {sh : v_S} {P : v_P} (hL : v_Lay sh P) (N qo : Nat) (hqo : v_Or sh P qo) (hro : P 35 1 = some qo) (x1 x2 : Int32) (M : v_M) {out : Int32 × v_Z} (h : f_X11_order N qo sh P x1 x2 M = some out) : v_Ct E 40 yX11_order cX11_order 5 (some .int) 7 470 [v_rf E 0, .int x1, .int x2] sh P M (v_QI out.1 out.2) := by
  refine v_Ct.of (by decide +kernel) (Nat.le_of_ble_eq_true rfl) (fun X hO => ?_)
  have hK : v_K E X cX11_order RX11 5 40 := hO.1
  show V E X (7, 470) 0 [(0, v_rf E 0), (1, .int x1), (2, .int x2)] [] sh P M
  unfold f_X11_order at h
  refine V.aload_n (pc := 0) (i := 0) hK rfl ⟨_, rfl⟩ dX11_order_0 ?_
  refine V.getI (pc := 1) hK fl_RX11_13 rfl (hL.1 0 _ ls_0) dX11_order_1 ?_
  refine V.bipush (pc := 4) (v := 12) hK (by decide) dX11_order_4 ?_
  refine V.icmp_ge (pc := 6) (tgt := 32) hK dX11_order_6 (by decide) (fun c => ?_) (fun c => ?_)
  · rw [if_pos c] at h
    refine V.iconst (pc := 32) (v := -1) hK (by decide) dX11_order_32 ?_
    exact V.iret (pc := 33) hO dX11_order_33 (by cases h; exact ⟨rfl, rfl, rfl, rfl⟩)
  · rw [if_neg c] at h
    refine V.iload_n (pc := 9) (i := 1) hK rfl dX11_order_9 ?_
    refine V.iconst (pc := 10) (v := 0) hK (by decide) dX11_order_10 ?_
    refine V.iconst (pc := 11) (v := 2) hK (by decide) dX11_order_11 ?_
    obtain ⟨z1, hz1, h⟩ := v_bdS h
    refine V.cS (pc := 12) hK (c_X11_within E hL N _ _ _ _ hz1) Y_X11_within cs_RX11_93 dX11_order_12 (by decide) rfl (Nat.le_of_ble_eq_true rfl) ?_
    refine V.if_eq (pc := 15) (tgt := 32) hK dX11_order_15 (by decide) (fun c => ?_) (fun c => ?_)
    · rw [if_pos c] at h
      refine V.iconst (pc := 32) (v := -1) hK (by decide) dX11_order_32 ?_
      exact V.iret (pc := 33) hO dX11_order_33 (by cases h; exact ⟨rfl, rfl, rfl, rfl⟩)
    · rw [if_neg c] at h
      refine V.iload_n (pc := 18) (i := 2) hK rfl dX11_order_18 ?_
      refine V.aload_n (pc := 19) (i := 0) hK rfl ⟨_, rfl⟩ dX11_order_19 ?_
      refine V.getI (pc := 20) hK fl_RX11_7 rfl (hL.1 0 _ ls_0) dX11_order_20 ?_
      refine V.sipush (pc := 23) (v := 9999) hK (by decide) dX11_order_23 ?_
      obtain ⟨z2, hz2, h⟩ := v_bdS h
      refine V.cS (pc := 26) hK (c_X11_within E hL N _ _ _ _ hz2) Y_X11_within cs_RX11_93 dX11_order_26 (by decide) rfl (Nat.le_of_ble_eq_true rfl) ?_
      refine V.if_ne (pc := 29) (tgt := 34) hK dX11_order_29 (by decide) (fun c => ?_) (fun c => ?_)
      · rw [if_neg c] at h
        refine V.aload_n (pc := 34) (i := 0) hK rfl ⟨_, rfl⟩ dX11_order_34 ?_
        refine V.getR (pc := 35) hK fl_RX11_47 rfl (hL.1 0 _ ls_0) (hL.2 0 6 35 rfl) dX11_order_35 ?_
        obtain ⟨z3, hz3, h⟩ := v_bdS h
        refine V.cV (pc := 38) (ci := 7) hK (c_X7_compile E hL N qo hqo hro _ hz3) Y_X7_compile cv_RX11_228 (by decide) rfl (hL.1 35 _ ls_35) dX11_order_38 (by decide) rfl (Nat.le_of_ble_eq_true rfl) ?_
        refine V.istore_n (pc := 41) (i := 3) (lv' := [(0, _), (1, _), (2, _), (3, _)]) hK (by decide) rfl dX11_order_41 ?_
        refine V.aload_n (pc := 42) (i := 0) hK rfl ⟨_, rfl⟩ dX11_order_42 ?_
        refine V.getR (pc := 43) hK fl_RX11_47 rfl (hL.1 0 _ ls_0) (hL.2 0 6 35 rfl) dX11_order_43 ?_
        refine V.getR (pc := 46) hK fl_RX11_216 rfl (hL.1 35 _ ls_35) (hL.2 35 0 36 rfl) dX11_order_46 ?_
        refine V.iconst (pc := 49) (v := 0) hK (by decide) dX11_order_49 ?_
        refine V.putI (pc := 50) hK fl_RX11_220 rfl rfl ⟨rfl, rfl⟩ (hL.1 36 _ ls_36) dX11_order_50 ?_
        refine V.nmM (fun M4 eM4 => ?_)
        have h := v_lt eM4 h
        refine V.iload_n (pc := 53) (i := 3) hK rfl dX11_order_53 ?_
        refine V.if_eq (pc := 54) (tgt := 62) hK dX11_order_54 (by decide) (fun c => ?_) (fun c => ?_)
        · rw [if_pos c] at h
          refine V.aload_n (pc := 62) (i := 0) hK rfl ⟨_, rfl⟩ dX11_order_62 ?_
          refine V.getR (pc := 63) hK fl_RX11_47 rfl (hL.1 0 _ ls_0) (hL.2 0 6 35 rfl) dX11_order_63 ?_
          refine V.callV (pc := 66) (ci := 7) (mc := 7) (ms := 470) (rest := []) hK (c_X7_handOver E hL M4 qo hro) Y_X7_handOver cv_RX11_231 (by decide) rfl (hL.1 35 _ ls_35) dX11_order_66 (by decide) rfl (Nat.le_of_ble_eq_true rfl) (by decide) (fun v s p mm hv => ?_)
          obtain ⟨rfl, rfl, rfl, rfl⟩ := hv
          have hL2 := v_Lay_over hL M4
          have hs0 : (h_over sh P M4).1[qo]? = some (0, 5) := v_sh_over P M4 (hqo.1 0 _ rfl)
          show V E X (0, 0) 69 _ [v_rf E qo] _ _ _
          refine V.astore (pc := 69) (i := 4) (lv' := [(0, _), (1, _), (2, _), (3, _), (4, _)]) hK ⟨_, rfl⟩ (by decide) rfl dX11_order_69 ?_
          refine V.aload (pc := 71) (i := 4) hK rfl ⟨_, rfl⟩ dX11_order_71 ?_
          refine V.iload_n (pc := 73) (i := 1) hK rfl dX11_order_73 ?_
          refine V.putI (pc := 74) hK fl_RX11_235 rfl rfl ⟨rfl, rfl⟩ hs0 dX11_order_74 ?_
          refine V.nmM (fun M5 eM5 => ?_)
          have h := v_lt eM5 h
          refine V.aload (pc := 77) (i := 4) hK rfl ⟨_, rfl⟩ dX11_order_77 ?_
          refine V.iload_n (pc := 79) (i := 2) hK rfl dX11_order_79 ?_
          refine V.putI (pc := 80) hK fl_RX11_237 rfl rfl ⟨rfl, rfl⟩ hs0 dX11_order_80 ?_
          refine V.nmM (fun M6 eM6 => ?_)
          have h := v_lt eM6 h
          refine V.aload_n (pc := 83) (i := 0) hK rfl ⟨_, rfl⟩ dX11_order_83 ?_
          refine V.getR (pc := 84) hK fl_RX11_53 rfl (hL2.1 0 _ ls_0) (hL2.2 0 7 48 rfl) dX11_order_84 ?_
          refine V.aload_n (pc := 87) (i := 0) hK rfl ⟨_, rfl⟩ dX11_order_87 ?_
          refine V.getI (pc := 88) hK fl_RX11_13 rfl (hL2.1 0 _ ls_0) dX11_order_88 ?_
          refine V.aload (pc := 91) (i := 4) hK rfl ⟨_, rfl⟩ dX11_order_91 ?_
          obtain ⟨hb, h⟩ := v_ckS h
          refine V.aastO (pc := 93) hK (hL2.1 48 _ ls_48) hs0 (v_ibS hb) dX11_order_93 ?_
          refine V.aload_n (pc := 94) (i := 0) hK rfl ⟨_, rfl⟩ dX11_order_94 ?_
          refine V.dup (pc := 95) hK rfl dX11_order_95 ?_
          refine V.getI (pc := 96) hK fl_RX11_13 rfl (hL2.1 0 _ ls_0) dX11_order_96 ?_
          refine V.iconst (pc := 99) (v := 1) hK (by decide) dX11_order_99 ?_
          refine V.iadd (pc := 100) hK dX11_order_100 ?_
          refine V.putI (pc := 101) hK fl_RX11_13 rfl rfl ⟨rfl, rfl⟩ (hL2.1 0 _ ls_0) dX11_order_101 ?_
          refine V.nmM (fun M7 eM7 => ?_)
          have h := v_lt eM7 h
          refine V.aload_n (pc := 104) (i := 0) hK rfl ⟨_, rfl⟩ dX11_order_104 ?_
          refine V.getI (pc := 105) hK fl_RX11_13 rfl (hL2.1 0 _ ls_0) dX11_order_105 ?_
          refine V.iconst (pc := 108) (v := 1) hK (by decide) dX11_order_108 ?_
          refine V.isub (pc := 109) hK dX11_order_109 ?_
          exact V.iret (pc := 110) hO dX11_order_110 (by cases h; exact ⟨rfl, rfl, rfl, rfl⟩)
        · rw [if_neg c] at h
          refine V.bipush (pc := 57) (v := -2) hK (by decide) dX11_order_57 ?_
          refine V.iload_n (pc := 59) (i := 3) hK rfl dX11_order_59 ?_
          refine V.isub (pc := 60) hK dX11_order_60 ?_
          obtain ⟨z, ez⟩ : ∃ z : Int32, z = -2 - z3.1 := ⟨_, rfl⟩
          rw [← ez] at h ⊢
          exact V.iret (pc := 61) hO dX11_order_61 (by cases h; exact ⟨rfl, rfl, rfl, rfl⟩)
      · rw [if_pos c] at h
        refine V.iconst (pc := 32) (v := -1) hK (by decide) dX11_order_32 ?_
        exact V.iret (pc := 33) hO dX11_order_33 (by cases h; exact ⟨rfl, rfl, rfl, rfl⟩)
