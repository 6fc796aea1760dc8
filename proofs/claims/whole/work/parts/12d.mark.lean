/-! mark: with its shapes -/
def clip (A B : v_M) : v_M := (fun k => if k < 150 then A.1 k else B.1 k, fun k => if k < 150 then A.2 k else B.2 k)
theorem hm_sh (sh : v_S) (P : v_P) (M : v_M) (k : Nat) {i : Nat} {s : Nat × Nat} (h : sh[i]? = some s) : (h_mark sh P M k).1[i]? = some s := k_X4 (v_ap (z := (sh, P, M)) h)
theorem hm_P (sh : v_S) (P : v_P) (M : v_M) (k : Nat) (h77 : 77 < sh.length) {c : Nat} (hc : c < sh.length) (j : Nat) : (h_mark sh P M k).2.1 c j = if c = 77 ∧ j = k then some sh.length else P c j := by
  unfold h_mark g_X4 z_put z_new z_int v_wp v_pN
  by_cases q : c = 77
  · subst q
    by_cases w : j = k
    · simp [w]
    · simp [w, show ¬ 77 = sh.length by omega, show ¬ 77 = sh.length + 1 by omega, show ¬ 77 = sh.length + 1 + 1 by omega, show ¬ 77 = sh.length + 1 + 2 by omega, show ¬ 77 = sh.length + 1 + 3 by omega, show ¬ 77 = sh.length + 1 + 4 by omega, show ¬ 77 = sh.length + 1 + 5 by omega]
  · simp [q, show ¬ c = sh.length by omega, show ¬ c = sh.length + 1 by omega, show ¬ c = sh.length + 1 + 1 by omega, show ¬ c = sh.length + 1 + 2 by omega, show ¬ c = sh.length + 1 + 3 by omega, show ¬ c = sh.length + 1 + 4 by omega, show ¬ c = sh.length + 1 + 5 by omega]
theorem hm_M (sh : v_S) (P : v_P) (M : v_M) (k : Nat) {c : Nat} (hc : c < sh.length) : (h_mark sh P M k).2.2.1 c = M.1 c ∧ (h_mark sh P M k).2.2.2 c = M.2 c := by
  unfold h_mark g_X4 z_put z_new z_int v_mN v_wr
  simp [show ¬ c = sh.length by omega, show ¬ c = sh.length + 1 by omega, show ¬ c = sh.length + 1 + 1 by omega, show ¬ c = sh.length + 1 + 2 by omega, show ¬ c = sh.length + 1 + 3 by omega, show ¬ c = sh.length + 1 + 4 by omega, show ¬ c = sh.length + 1 + 5 by omega]
theorem Or_len {sh : v_S} {P : v_P} {q : Nat} (h : v_Or sh P q) : q + 6 < sh.length := (List.getElem?_eq_some_iff.mp (h.1 6 _ rfl)).1
theorem Fl_len {sh : v_S} {P : v_P} {q : Nat} (h : v_Fl sh P q) : q + 6 < sh.length := (List.getElem?_eq_some_iff.mp (h.1 6 _ rfl)).1
theorem sh_o {sh : v_S} {P : v_P} {q j : Nat} (h : v_Or sh P q) (h1 : 1 ≤ j) (h6 : j ≤ 6) : ∃ n, sh[q + j]? = some (1, n) := by
  match j, h1, h6 with
  | 1, _, _ => exact ⟨_, h.1 1 _ rfl⟩
  | 2, _, _ => exact ⟨_, h.1 2 _ rfl⟩
  | 3, _, _ => exact ⟨_, h.1 3 _ rfl⟩
  | 4, _, _ => exact ⟨_, h.1 4 _ rfl⟩
  | 5, _, _ => exact ⟨_, h.1 5 _ rfl⟩
  | 6, _, _ => exact ⟨_, h.1 6 _ rfl⟩
theorem sh_f {sh : v_S} {P : v_P} {q j : Nat} (h : v_Fl sh P q) (h1 : 1 ≤ j) (h6 : j ≤ 6) : ∃ n, sh[q + j]? = some (1, n) := by
  match j, h1, h6 with
  | 1, _, _ => exact ⟨_, h.1 1 _ rfl⟩
  | 2, _, _ => exact ⟨_, h.1 2 _ rfl⟩
  | 3, _, _ => exact ⟨_, h.1 3 _ rfl⟩
  | 4, _, _ => exact ⟨_, h.1 4 _ rfl⟩
  | 5, _, _ => exact ⟨_, h.1 5 _ rfl⟩
  | 6, _, _ => exact ⟨_, h.1 6 _ rfl⟩
theorem ap_of {sh : v_S} {q q' t t' : Nat} (h0 : sh[q]? = some (0, t)) (h0' : sh[q']? = some (0, t')) (a : ∀ j, 1 ≤ j → j ≤ 6 → ∃ n, sh[q + j]? = some (1, n)) (b : ∀ j, 1 ≤ j → j ≤ 6 → ∃ n, sh[q' + j]? = some (1, n)) (hn : q ≠ q') : q + 6 < q' ∨ q' + 6 < q := by
  by_cases c : q < q'
  · left
    by_cases d : q' ≤ q + 6
    · obtain ⟨n, e⟩ := a (q' - q) (by omega) (by omega)
      rw [show q + (q' - q) = q' by omega, h0'] at e
      exact absurd e (by simp)
    · omega
  · right
    by_cases d : q ≤ q' + 6
    · obtain ⟨n, e⟩ := b (q - q') (by omega) (by omega)
      rw [show q' + (q - q') = q by omega, h0] at e
      exact absurd e (by simp)
    · omega
theorem ap_ff {sh : v_S} {P : v_P} {q q' : Nat} (h : v_Fl sh P q) (h' : v_Fl sh P q') (hn : q ≠ q') : q + 6 < q' ∨ q' + 6 < q := ap_of (h.1 0 _ rfl) (h'.1 0 _ rfl) (fun j a b => sh_f h a b) (fun j a b => sh_f h' a b) hn
theorem ap_fo {sh : v_S} {P : v_P} {q q' : Nat} (h : v_Fl sh P q) (h' : v_Or sh P q') : q + 6 < q' ∨ q' + 6 < q := ap_of (h.1 0 _ rfl) (h'.1 0 _ rfl) (fun j a b => sh_f h a b) (fun j a b => sh_o h' a b) (fun z => by
  have e1 := h.1 0 _ rfl
  have e2 := h'.1 0 _ rfl
  rw [Nat.add_zero] at e1 e2
  rw [z, e2] at e1
  exact absurd e1 (by decide))
theorem ap_oo {sh : v_S} {P : v_P} {q q' : Nat} (h : v_Or sh P q) (h' : v_Or sh P q') (hn : q ≠ q') : q + 6 < q' ∨ q' + 6 < q := ap_of (h.1 0 _ rfl) (h'.1 0 _ rfl) (fun j a b => sh_o h a b) (fun j a b => sh_o h' a b) hn
theorem Or_hm {sh : v_S} {P : v_P} (hL : v_Lay sh P) (M : v_M) (k : Nat) {q : Nat} (h : v_Or sh P q) : v_Or (h_mark sh P M k).1 (h_mark sh P M k).2.1 q := by
  have l := Or_len h
  have l2 := v_Lay_len hL
  refine ⟨fun j s hj => hm_sh sh P M k (h.1 j s hj), fun j r hj => ?_⟩
  rw [hm_P sh P M k (by omega) (by omega), if_neg (fun z => ?_)]
  · exact h.2 j r hj
  · have e := h.1 0 _ rfl
    rw [Nat.add_zero, z.1, v_ls_77 hL] at e
    exact absurd e (by decide)
theorem Fl_hm {sh : v_S} {P : v_P} (hL : v_Lay sh P) (M : v_M) (k : Nat) {q : Nat} (h : v_Fl sh P q) : v_Fl (h_mark sh P M k).1 (h_mark sh P M k).2.1 q := by
  have l := Fl_len h
  have l2 := v_Lay_len hL
  refine ⟨fun j s hj => hm_sh sh P M k (h.1 j s hj), fun j r hj => ?_⟩
  rw [hm_P sh P M k (by omega) (by omega), if_neg (fun z => ?_)]
  · exact h.2 j r hj
  · have e := h.1 0 _ rfl
    rw [Nat.add_zero, z.1, v_ls_77 hL] at e
    exact absurd e (by decide)
theorem PO_hm {sh : v_S} {P : v_P} (hL : v_Lay sh P) (hPO : v_PO sh P) (M : v_M) (k : Nat) : v_PO (h_mark sh P M k).1 (h_mark sh P M k).2.1 := by
  have l2 := v_Lay_len hL
  refine ⟨fun i q h => ?_, fun i q h => ?_⟩
  · rw [hm_P sh P M k (by omega) (by omega), if_neg (fun z => absurd z.1 (by decide))] at h
    exact Or_hm hL M k (hPO.1 i q h)
  · rw [hm_P sh P M k (by omega) (by omega)] at h
    by_cases z : i = k
    · rw [if_pos ⟨rfl, z⟩] at h
      rw [← Option.some.inj h]
      exact v_Fl_mark hL M k
    · rw [if_neg (fun y => z y.2)] at h
      exact Fl_hm hL M k (hPO.2 i q h)
theorem mkd_c {A B : v_M} {q k npk nmk dk : Nat} (h : mkd B q k npk nmk dk) (e1 : A.1 78 k = B.1 78 k ∧ A.1 146 k = B.1 146 k ∧ A.1 147 k = B.1 147 k ∧ A.1 148 k = B.1 148 k ∧ A.1 149 k = B.1 149 k) (e2 : ∀ j, j ≤ 6 → A.1 (q + j) = B.1 (q + j)) (e3 : ∀ j, 2000 * k ≤ j → j < 2000 * k + 1960 → A.1 145 j = B.1 145 j) : mkd A q k npk nmk dk := by
  obtain ⟨⟨h1, h2, h3, h4, h5, h6⟩, h7, h8⟩ := h
  have e20 := e2 0 (by omega)
  rw [Nat.add_zero] at e20
  have n20 := h7.1
  refine ⟨⟨by rw [e1.2.2.2.2]; exact h1, by rw [e1.1]; exact h2, by rw [e1.2.2.2.1]; exact h3, by rw [e1.2.1]; exact h4, by rw [e1.2.2.1]; exact h5, by rw [e20]; exact h6⟩, ?_, ?_⟩
  · rw [e2 1 (by omega), e2 2 (by omega), e2 3 (by omega), e2 4 (by omega), e2 5 (by omega), e2 6 (by omega)]
    exact h7
  · rw [e2 1 (by omega), e2 2 (by omega), e2 3 (by omega), e2 4 (by omega), e2 5 (by omega), e2 6 (by omega)]
    refine JFb_c n20 h8 (fun i _ => ⟨rfl, rfl, rfl, rfl⟩) (fun i _ => ⟨rfl, rfl⟩) (fun i hi => ?_) (fun i hi => ?_)
    · unfold mkr
      rw [e3 _ (by omega) (by omega), e3 _ (by omega) (by omega), e3 _ (by omega) (by omega), e3 _ (by omega) (by omega)]
      exact ⟨rfl, rfl, rfl, rfl⟩
    · unfold mkr
      rw [e3 _ (by omega) (by omega), e3 _ (by omega) (by omega)]
      exact ⟨rfl, rfl⟩
def mkOut (sh : v_S) (P : v_P) (M : v_M) (np : Nat) (sh2 : v_S) (P2 : v_P) (M2 : v_M) : Prop := J_mrk P2 M2 np ∧ v_Lay sh2 P2 ∧ v_PO sh2 P2 ∧ (∀ c j, c < sh.length → c ≠ 77 → P2 c j = P c j) ∧ (∀ q, v_Or sh P q → v_Or sh2 P2 q) ∧ v_fr [78, 145, 146, 147, 148, 149] [(79, 91), (79, 92)] M (clip M2 M) ∧ ∀ q, 41 ≤ q → v_Or sh P q → ∀ j, j ≤ 6 → (q + j < 48 ∨ 150 ≤ q + j) → M2.1 (q + j) = M.1 (q + j)
theorem st_mark {N : Nat} (hN : 1000 ≤ N) {sh : v_S} {P : v_P} (hL : v_Lay sh P) (hPO : v_PO sh P) (x1 : Int32) {M : v_M} {np nm : Nat} (ht : J_time M) (hd : J_drawc M np) (hf : J_fleetc M np nm) (hm : J_mrk P M np) : ∃ (r : Int32) (sh2 : v_S) (P2 : v_P) (M1 M2 : v_M), f_X11_mark N sh P x1 M = some (r, (sh2, P2, M1)) ∧ f_X12_mark N x1 M1 = some (r, M2) ∧ mkOut sh P M np sh2 P2 M2 := by
  obtain ⟨d, hd9, t1, t2⟩ := ht
  have l2 := v_Lay_len hL
  unfold f_X11_mark
  rw [e_within, Option.bind_some]
  by_cases a : 0 ≤ x1 ∧ x1 ≤ 3
  rotate_left
  · rw [v_wiFe a]
    refine ⟨_, _, _, _, M, rfl, ?_, hm, hL, hPO, fun c j _ _ => rfl, fun q h => h, ?_, fun q _ h j hj _ => rfl⟩
    · unfold f_X12_mark
      rw [show (0 : Int64) = (0 : Int32).toInt64 from rfl, show (3 : Int64) = (3 : Int32).toInt64 from rfl, e_in2, Option.bind_some, v_wiFe a]
    · exact ⟨fun c j _ _ => by show (if c < 150 then M.1 c else M.1 c) j = M.1 c j; rw [ite_self], fun c _ => by show (if c < 150 then M.2 c else M.2 c) = M.2 c; rw [ite_self]⟩
  rw [v_wiTe a]
  obtain ⟨k, hk, rfl⟩ := i_idx (c := 4) (by omega) (show 0 ≤ x1 ∧ x1 ≤ nI 4 - 1 from a)
  simp only [v_ibN hk (show 4 < 2 ^ 31 by omega), nI_clamp (show k < 2 ^ 31 by omega), v_ckT]
  have frc : ∀ (q : Nat) (B M2 : v_M), 150 ≤ q → (∀ c, c < 150 → B.1 c = M.1 c ∧ B.2 c = M.2 c) → (∀ c j, (c < q ∨ q + 6 < c) → c ∉ [78, 145, 146, 147, 148, 149] → (c, j) ∉ [(79, 91), (79, 92)] → M2.1 c j = B.1 c j) → (∀ c, c ∉ [78, 145, 146, 147, 148, 149] → M2.2 c = B.2 c) → v_fr [78, 145, 146, 147, 148, 149] [(79, 91), (79, 92)] M (clip M2 M) := fun q B M2 hq hb h1 h2 => ⟨fun c j z1 z2 => by
      show (if c < 150 then M2.1 c else M.1 c) j = M.1 c j
      by_cases y : c < 150
      · rw [if_pos y, h1 c j (by omega) z1 z2, (hb c y).1]
      · rw [if_neg y], fun c z1 => by
      show (if c < 150 then M2.2 c else M.2 c) = M.2 c
      by_cases y : c < 150
      · rw [if_pos y, h2 c z1, (hb c y).2]
      · rw [if_neg y]⟩
  cases hP : P 77 k with
  | none =>
    have hb : ∀ c, c < sh.length → (h_mark sh P M k).2.2.1 c = M.1 c ∧ (h_mark sh P M k).2.2.2 c = M.2 c := fun c hc => hm_M sh P M k hc
    obtain ⟨A, M2, a1, a2, a3, a4, a5, a6, a7, a8⟩ := mark_core hN hk (M := M) (B := (h_mark sh P M k).2.2) (q := sh.length) (by omega) (fun c hc => (hb c (by omega)).1) hd9 t1 t2 hd hf
    refine ⟨A.1 0 0, (h_mark sh P M k).1, (h_mark sh P M k).2.1, v_wr A 78 k (A.1 0 0), M2, ?_, a2, ⟨fun k' hk' => ?_, fun k1 k2 q h1 h2 e1 e2 => ?_⟩, v_Lay_mark hL M k, PO_hm hL hPO M k, fun c j hc h7 => ?_, fun q h => Or_hm hL M k h, frc sh.length _ M2 (by omega) (fun c hc => hb c (by omega)) a5 a6, fun q hq h j hj hr => ?_⟩
    · unfold v_opt
      show (f_X4_become N sh.length 11 (h_mark sh P M k).2.2).bind _ = _
      rw [a1]
      rfl
    · unfold J_mk
      rw [hm_P sh P M k (by omega) (by omega)]
      by_cases z : k' = k
      · rw [if_pos ⟨rfl, z⟩, z]
        exact Or.inr ⟨sh.length, np, nm, d, rfl, by omega, Nat.le_refl _, hd9, a4⟩
      · rw [if_neg (fun y => z y.2)]
        have e1 := a7 k' z
        rw [(hb 78 (by omega)).1, (hb 146 (by omega)).1, (hb 147 (by omega)).1, (hb 148 (by omega)).1, (hb 149 (by omega)).1] at e1
        rcases hm.1 k' hk' with ⟨u1, u2⟩ | ⟨q, npk, nmk, dk, u1, u2, u3, u4, u5⟩
        · exact Or.inl ⟨u1, by rw [e1.2.2.2.2]; exact u2⟩
        · have fl := Fl_len (hPO.2 k' q u1)
          refine Or.inr ⟨q, npk, nmk, dk, u1, u2, u3, u4, mkd_c u5 e1 (fun j hj => ?_) (fun j h1 h2 => ?_)⟩
          · funext i
            rw [a5 (q + j) i (by omega) (by simp; omega) (by simp; omega), (hb (q + j) (by omega)).1]
          · rw [a8 j (by omega), (hb 145 (by omega)).1]
    · rw [hm_P sh P M k (by omega) (by omega)] at e1 e2
      by_cases z1 : k1 = k
      · by_cases z2 : k2 = k
        · rw [z1, z2]
        · rw [if_pos ⟨rfl, z1⟩] at e1
          rw [if_neg (fun y => z2 y.2)] at e2
          have := Fl_len (hPO.2 k2 q e2)
          have := Option.some.inj e1
          omega
      · by_cases z2 : k2 = k
        · rw [if_pos ⟨rfl, z2⟩] at e2
          rw [if_neg (fun y => z1 y.2)] at e1
          have := Fl_len (hPO.2 k1 q e1)
          have := Option.some.inj e2
          omega
        · rw [if_neg (fun y => z1 y.2)] at e1
          rw [if_neg (fun y => z2 y.2)] at e2
          exact hm.2 k1 k2 q h1 h2 e1 e2
    · rw [hm_P sh P M k (by omega) hc, if_neg (fun z => h7 z.1)]
    · have := Or_len h
      funext i
      rw [a5 (q + j) i (by omega) (by simp; omega) (by simp; omega), (hb (q + j) (by omega)).1]
  | some q =>
    have fl := hPO.2 k q hP
    obtain ⟨q1, npk1, nmk1, dk1, u1, u2, u3, u4, u5⟩ : ∃ q npk nmk dk : Nat, P 77 k = some q ∧ 150 ≤ q ∧ npk ≤ np ∧ dk ≤ 9999 ∧ mkd M q k npk nmk dk := by
      rcases hm.1 k hk with ⟨w, _⟩ | w
      · rw [hP] at w; exact nomatch w
      · exact w
    have : q1 = q := by rw [hP] at u1; exact (Option.some.inj u1).symm
    subst this
    obtain ⟨A, M2, a1, a2, a3, a4, a5, a6, a7, a8⟩ := mark_core hN hk (M := M) (B := M) (q := q1) u2 (fun c hc => rfl) hd9 t1 t2 hd hf
    refine ⟨A.1 0 0, sh, P, v_wr A 78 k (A.1 0 0), M2, ?_, a2, ⟨fun k' hk' => ?_, hm.2⟩, hL, hPO, fun c j _ _ => rfl, fun q h => h, frc q1 M M2 u2 (fun c hc => ⟨rfl, rfl⟩) a5 a6, fun q hq h j hj hr => ?_⟩
    · unfold v_opt
      show (f_X4_become N q1 11 M).bind _ = _
      rw [a1]
      rfl
    · by_cases z : k' = k
      · rw [z]
        exact Or.inr ⟨q1, np, nm, d, hP, u2, Nat.le_refl _, hd9, a4⟩
      · have e1 := a7 k' z
        rcases hm.1 k' hk' with ⟨w1, w2⟩ | ⟨q', npk, nmk, dk, w1, w2, w3, w4, w5⟩
        · exact Or.inl ⟨w1, by rw [e1.2.2.2.2]; exact w2⟩
        · have ne : q1 ≠ q' := fun y => z (hm.2 k' k q1 hk' hk (by rw [y]; exact w1) hP)
          have ap := ap_ff fl (hPO.2 k' q' w1) ne
          refine Or.inr ⟨q', npk, nmk, dk, w1, w2, w3, w4, mkd_c w5 e1 (fun j hj => ?_) (fun j h1 h2 => ?_)⟩
          · funext i
            rw [a5 (q' + j) i (by omega) (by simp; omega) (by simp; omega)]
          · rw [a8 j (by omega)]
    · have ap := ap_fo fl h
      funext i
      rw [a5 (q + j) i (by omega) (by simp; omega) (by simp; omega)]
