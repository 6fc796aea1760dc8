/-! the Reader's new order: cells and references -/
theorem ho_P (sh : v_S) (P : v_P) (M : v_M) (h35 : 35 < sh.length) {c : Nat} (hc : c < sh.length) (j : Nat) : (h_over sh P M).2.1 c j = if c = 35 ∧ j = 1 then some sh.length else P c j := by
  unfold h_over g_X5 z_put z_new z_int v_wp v_pN
  by_cases q : c = 35
  · subst q
    by_cases w : j = 1
    · simp [w]
    · simp [w, show ¬ 35 = sh.length by omega, show ¬ 35 = sh.length + 1 by omega, show ¬ 35 = sh.length + 1 + 1 by omega, show ¬ 35 = sh.length + 1 + 2 by omega, show ¬ 35 = sh.length + 1 + 3 by omega, show ¬ 35 = sh.length + 1 + 4 by omega, show ¬ 35 = sh.length + 1 + 5 by omega]
  · simp [q, show ¬ c = sh.length by omega, show ¬ c = sh.length + 1 by omega, show ¬ c = sh.length + 1 + 1 by omega, show ¬ c = sh.length + 1 + 2 by omega, show ¬ c = sh.length + 1 + 3 by omega, show ¬ c = sh.length + 1 + 4 by omega, show ¬ c = sh.length + 1 + 5 by omega]
theorem ho_M (sh : v_S) (P : v_P) (M : v_M) {c : Nat} (hc : c < sh.length) : (h_over sh P M).2.2.1 c = M.1 c ∧ (h_over sh P M).2.2.2 c = M.2 c := by
  unfold h_over g_X5 z_put z_new z_int v_mN v_wr
  simp [show ¬ c = sh.length by omega, show ¬ c = sh.length + 1 by omega, show ¬ c = sh.length + 1 + 1 by omega, show ¬ c = sh.length + 1 + 2 by omega, show ¬ c = sh.length + 1 + 3 by omega, show ¬ c = sh.length + 1 + 4 by omega, show ¬ c = sh.length + 1 + 5 by omega]
theorem v_Or_X5 {q : Nat} {z : v_Z} (hq : z.1[q]? = some (0, 5)) (hn : z.1.length = q + 1) : v_Or (g_X5 q (q + 1) z).1 (g_X5 q (q + 1) z).2.1 q := by
  refine ⟨fun j s hj => ?_, fun j r hj => ?_⟩
  · rw [a_X5]
    match j, hj with
    | 0, hj => cases hj; exact v_apl hq
    | 1, hj => cases hj; rw [List.getElem?_append_right (by omega), show q + 1 - z.1.length = 0 by omega]; rfl
    | 2, hj => cases hj; rw [List.getElem?_append_right (by omega), show q + 2 - z.1.length = 1 by omega]; rfl
    | 3, hj => cases hj; rw [List.getElem?_append_right (by omega), show q + 3 - z.1.length = 2 by omega]; rfl
    | 4, hj => cases hj; rw [List.getElem?_append_right (by omega), show q + 4 - z.1.length = 3 by omega]; rfl
    | 5, hj => cases hj; rw [List.getElem?_append_right (by omega), show q + 5 - z.1.length = 4 by omega]; rfl
    | 6, hj => cases hj; rw [List.getElem?_append_right (by omega), show q + 6 - z.1.length = 5 by omega]; rfl
    | j + 7, hj => cases hj
  · match j, hj with
    | 0, hj => cases hj
    | 1, hj => cases hj
    | 2, hj => cases hj
    | 3, hj => cases hj
    | 4, hj => cases hj; simp [g_X5, z_put, z_new, z_int, v_wp, v_pN, show ¬ q = q + 1 + 5 by omega, show ¬ q = q + 1 + 4 by omega, show ¬ q = q + 1 + 3 by omega, show ¬ q = q + 1 + 2 by omega, show ¬ q = q + 1 + 1 by omega]
    | 5, hj => cases hj; simp [g_X5, z_put, z_new, z_int, v_wp, v_pN, show ¬ q = q + 1 + 5 by omega, show ¬ q = q + 1 + 4 by omega, show ¬ q = q + 1 + 3 by omega, show ¬ q = q + 1 + 2 by omega, show ¬ q = q + 1 + 1 by omega]
    | 6, hj => cases hj; simp [g_X5, z_put, z_new, z_int, v_wp, v_pN, show ¬ q = q + 1 + 5 by omega, show ¬ q = q + 1 + 4 by omega, show ¬ q = q + 1 + 3 by omega, show ¬ q = q + 1 + 2 by omega, show ¬ q = q + 1 + 1 by omega]
    | 7, hj => cases hj; simp [g_X5, z_put, z_new, z_int, v_wp, v_pN, show ¬ q = q + 1 + 5 by omega, show ¬ q = q + 1 + 4 by omega, show ¬ q = q + 1 + 3 by omega, show ¬ q = q + 1 + 2 by omega, show ¬ q = q + 1 + 1 by omega]
    | 8, hj => cases hj; simp [g_X5, z_put, z_new, z_int, v_wp, v_pN, show ¬ q = q + 1 + 5 by omega, show ¬ q = q + 1 + 4 by omega, show ¬ q = q + 1 + 3 by omega, show ¬ q = q + 1 + 2 by omega, show ¬ q = q + 1 + 1 by omega]
    | 9, hj => cases hj; simp [g_X5, z_put, z_new, z_int, v_wp, v_pN, show ¬ q = q + 1 + 5 by omega, show ¬ q = q + 1 + 4 by omega, show ¬ q = q + 1 + 3 by omega, show ¬ q = q + 1 + 2 by omega, show ¬ q = q + 1 + 1 by omega]
    | j + 10, hj => cases hj
theorem v_Or_put {sh : v_S} {P : v_P} {k j q : Nat} {r : Option Nat} (h : v_Or sh P q) (hk : q ≠ k) : v_Or sh (v_wp P k j r) q := by
  refine ⟨h.1, fun i s hi => ?_⟩
  rw [v_wp_n hk]; exact h.2 i s hi
theorem v_Or_over {sh : v_S} {P : v_P} (hL : v_Lay sh P) (M : v_M) : v_Or (h_over sh P M).1 (h_over sh P M).2.1 sh.length := by
  have h := v_Lay_len hL
  exact v_Or_put (v_Or_X5 (z := z_new 0 5 sh.length (sh, P, M)) (v_apn rfl) (v_al (n := sh.length) (c := 0) rfl)) (by omega)
/-- shapes, references behind an order -/
def oP (sh : v_S) (P : v_P) (M : v_M) (no qo : Nat) : v_P := v_wp (h_over sh P M).2.1 48 no (some qo)
theorem oP_o {sh : v_S} {P : v_P} (M : v_M) {no qo c : Nat} (h : 150 ≤ sh.length) (hc : c < sh.length) (j : Nat) : oP sh P M no qo c j = if c = 48 ∧ j = no then some qo else if c = 35 ∧ j = 1 then some sh.length else P c j := by
  unfold oP v_wp
  by_cases q : c = 48
  · subst q
    rw [if_pos rfl]
    by_cases w : j = no
    · rw [if_pos w, if_pos ⟨rfl, w⟩]
    · rw [if_neg w, if_neg (fun z => w z.2), ho_P sh P M (by omega) hc]
  · rw [if_neg q, if_neg (fun z => q z.1), ho_P sh P M (by omega) hc]
theorem ls_n {sh : v_S} {P : v_P} (hL : v_Lay sh P) {k t : Nat} {s : Nat × Nat} (h : v_ls[k]? = some s) {q : Nat} (hq : sh[q]? = some (0, t)) (hs : s ≠ (0, t)) : q ≠ k := by
  intro e
  rw [e, hL.1 k s h] at hq
  exact hs (Option.some.inj hq)
theorem Or_oP {sh : v_S} {P : v_P} (hL : v_Lay sh P) (M : v_M) (no qo : Nat) {q : Nat} (h : v_Or sh P q) : v_Or (h_over sh P M).1 (oP sh P M no qo) q := by
  have l := Or_len h
  have l2 := v_Lay_len hL
  have n35 : q ≠ 35 := ls_n hL ls_35 (h.1 0 _ rfl) (by decide)
  have n48 : q ≠ 48 := ls_n hL ls_48 (h.1 0 _ rfl) (by decide)
  refine ⟨fun j s hj => v_sh_over P M (h.1 j s hj), fun j r hj => ?_⟩
  rw [oP_o M l2 (by omega), if_neg (fun z => n48 z.1), if_neg (fun z => n35 z.1)]
  exact h.2 j r hj
theorem Fl_oP {sh : v_S} {P : v_P} (hL : v_Lay sh P) (M : v_M) (no qo : Nat) {q : Nat} (h : v_Fl sh P q) : v_Fl (h_over sh P M).1 (oP sh P M no qo) q := by
  have l := Fl_len h
  have l2 := v_Lay_len hL
  have n35 : q ≠ 35 := ls_n hL ls_35 (h.1 0 _ rfl) (by decide)
  have n48 : q ≠ 48 := ls_n hL ls_48 (h.1 0 _ rfl) (by decide)
  refine ⟨fun j s hj => v_sh_over P M (h.1 j s hj), fun j r hj => ?_⟩
  rw [oP_o M l2 (by omega), if_neg (fun z => n48 z.1), if_neg (fun z => n35 z.1)]
  exact h.2 j r hj
theorem PO_oP {sh : v_S} {P : v_P} (hL : v_Lay sh P) (hPO : v_PO sh P) (M : v_M) (no : Nat) {qo : Nat} (hor : v_Or sh P qo) : v_PO (h_over sh P M).1 (oP sh P M no qo) := by
  have l2 := v_Lay_len hL
  refine ⟨fun i q h => ?_, fun i q h => ?_⟩
  · rw [oP_o M l2 (by omega)] at h
    by_cases w : i = no
    · rw [if_pos ⟨rfl, w⟩] at h
      rw [← Option.some.inj h]
      exact Or_oP hL M no qo hor
    · rw [if_neg (fun z => w z.2), if_neg (fun z => absurd z.1 (by decide))] at h
      exact Or_oP hL M no qo (hPO.1 i q h)
  · rw [oP_o M l2 (by omega), if_neg (fun z => absurd z.1 (by decide)), if_neg (fun z => absurd z.1 (by decide))] at h
    exact Fl_oP hL M no qo (hPO.2 i q h)
theorem Lay_oP {sh : v_S} {P : v_P} (hL : v_Lay sh P) (M : v_M) (no qo : Nat) : v_Lay (h_over sh P M).1 (oP sh P M no qo) := v_Lay_put (z := h_over sh P M) (v_Lay_over hL M) (show v_lp 48 no = none from rfl)
theorem New_oP {sh : v_S} {P : v_P} (hL : v_Lay sh P) (M : v_M) (no qo : Nat) : v_Or (h_over sh P M).1 (oP sh P M no qo) sh.length := v_Or_put (v_Or_over hL M) (by have := v_Lay_len hL; omega)
