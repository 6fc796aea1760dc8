/-! wears, change, end, floor -/
def J_chgc (M : v_M) (np nc : Nat) : Prop := nc ≤ 8 ∧ M.1 29 0 = nI nc ∧ M.1 79 25 = nI nc ∧ ∀ i, i < nc → (M.1 101 i = M.1 30 i ∧ M.1 102 i = M.1 31 i ∧ M.1 103 i = M.1 32 i ∧ M.1 104 i = M.1 33 i ∧ M.1 105 i = M.1 34 i) ∧ (∃ j : Nat, j < np ∧ M.1 30 i = nI j) ∧ v_bt (M.1 31 i) 0 99 ∧ v_bt (M.1 32 i) (-99) 99 ∧ v_bt (M.1 33 i) 0 999 ∧ v_bt (M.1 34 i) 0 999
theorem J_chgc.more {M : v_M} {np np' nc : Nat} (h : J_chgc M np nc) (hn : np ≤ np') : J_chgc M np' nc := by
  obtain ⟨h1, h2, h3, h4⟩ := h
  refine ⟨h1, h2, h3, fun i hi => ?_⟩
  obtain ⟨a, ⟨j, hj, b⟩, c⟩ := h4 i hi
  exact ⟨a, ⟨j, by omega, b⟩, c⟩
theorem J_chgc.keep {W : List Nat} {O : List (Nat × Nat)} {M M' : v_M} {np nc : Nat} (hf : v_fr W O M M') (hk : ([30, 31, 32, 33, 34, 101, 102, 103, 104, 105].all (fun k => !(W.contains k || O.any (fun q => q.1 == k)))) = true) (h1 : (W.contains 29 || O.contains (29, 0)) = false) (h2 : (W.contains 79 || O.contains (79, 25)) = false) (h : J_chgc M np nc) : J_chgc M' np nc := by
  have e : ∀ k ∈ [30, 31, 32, 33, 34, 101, 102, 103, 104, 105], M'.1 k = M.1 k := fun k hm => v_keepR hf k (by have := List.all_eq_true.mp hk k hm; simpa using this)
  unfold J_chgc at h ⊢
  rw [v_keepC hf 29 0 h1, v_keepC hf 79 25 h2, e 30 (by decide), e 31 (by decide), e 32 (by decide), e 33 (by decide), e 34 (by decide), e 101 (by decide), e 102 (by decide), e 103 (by decide), e 104 (by decide), e 105 (by decide)]
  exact h
theorem v_btI {x lo hi : Int32} {a b : Int} (h1 : lo.toInt = a) (h2 : hi.toInt = b) (h : lo ≤ x ∧ x ≤ hi) : v_bt x a b := ⟨h1 ▸ i_le.mp h.1, h2 ▸ i_le.mp h.2⟩
def c_ok (np nc : Nat) (x1 x2 x3 x4 x5 : Int32) : Prop := (0 ≤ x1 ∧ x1 ≤ nI np - 1) ∧ (0 ≤ x2 ∧ x2 ≤ 99) ∧ (-99 ≤ x3 ∧ x3 ≤ 99) ∧ (0 ≤ x4 ∧ x4 ≤ 999) ∧ (0 ≤ x5 ∧ x5 ≤ 999) ∧ nc < 8
def c_M1 (M : v_M) (c : Nat) (x1 x2 x3 x4 x5 : Int32) : v_M := v_wr (v_wr (v_wr (v_wr (v_wr (v_wr M 30 c x1) 31 c x2) 32 c x3) 33 c x4) 34 c x5) 29 0 (nI c + 1)
def c_M2 (M : v_M) (c : Nat) (x1 x2 x3 x4 x5 : Int32) : v_M := v_wr (v_wr (v_wr (v_wr (v_wr (v_wr M 101 c x1) 102 c x2) 103 c x3) 104 c x4) 105 c x5) 79 25 (nI c + 1)
theorem c_25 (N : Nat) (x1 x2 x3 x4 x5 : Int32) (M : v_M) : f_X11_change_L25 N x1 x2 x3 x4 x5 M = some (-1, M) := by
  unfold f_X11_change_L25 f_X11_change_L26
  simp only [e_hasPart, Option.bind_some, if_true]
  by_cases h : v_wi x1 0 (M.1 1 0 - 1) = 0
  · rw [if_pos h]
  · rw [if_neg h]
theorem c_class (N : Nat) (x1 x2 x3 x4 x5 : Int32) {M : v_M} {np nc : Nat} (e1 : M.1 1 0 = nI np) (hc : nc ≤ 8) (e2 : M.1 29 0 = nI nc) : (c_ok np nc x1 x2 x3 x4 x5 → f_X11_change N x1 x2 x3 x4 x5 M = some (nI nc, c_M1 M nc x1 x2 x3 x4 x5)) ∧ (¬ c_ok np nc x1 x2 x3 x4 x5 → f_X11_change N x1 x2 x3 x4 x5 M = some (-1, M)) := by
  unfold f_X11_change
  simp only [e_within, Option.bind_some, c_25]
  by_cases a2 : 0 ≤ x2 ∧ x2 ≤ 99
  rotate_left
  · rw [v_wiFe a2]; exact ⟨fun q => absurd q.2.1 a2, fun _ => rfl⟩
  rw [v_wiTe a2]
  by_cases a3 : -99 ≤ x3 ∧ x3 ≤ 99
  rotate_left
  · rw [v_wiFe a3]; exact ⟨fun q => absurd q.2.2.1 a3, fun _ => rfl⟩
  rw [v_wiTe a3]
  unfold f_X11_change_L26
  simp only [e_hasPart, e_within, Option.bind_some, e1]
  by_cases a1 : 0 ≤ x1 ∧ x1 ≤ nI np - 1
  rotate_left
  · rw [v_wiFe a1]; exact ⟨fun q => absurd q.1 a1, fun _ => rfl⟩
  rw [v_wiTe a1, if_neg (show ¬ (1 : Int32) = 0 by decide)]
  by_cases a4 : 0 ≤ x4 ∧ x4 ≤ 999
  rotate_left
  · rw [v_wiFe a4]; exact ⟨fun q => absurd q.2.2.2.1 a4, fun _ => rfl⟩
  rw [v_wiTe a4]
  by_cases a5 : 0 ≤ x5 ∧ x5 ≤ 999
  rotate_left
  · rw [v_wiFe a5]; exact ⟨fun q => absurd q.2.2.2.2.1 a5, fun _ => rfl⟩
  rw [v_wiTe a5]
  unfold f_X1_add
  by_cases c8 : nc < 8
  · rw [e2, if_pos (show nI nc < 8 from nI_lt (b := 8) c8 (by omega))]
    refine ⟨fun _ => ?_, fun q => absurd ⟨a1, a2, a3, a4, a5, c8⟩ q⟩
    simp only [v_letE, v_ibN c8 (show 8 < 2 ^ 31 by omega), v_ckT, nI_clamp (show nc < 2 ^ 31 by omega), Option.bind_some]
    rfl
  · rw [e2, if_neg (show ¬ nI nc < 8 from nI_nlt (b := 8) (by omega) (by omega))]
    exact ⟨fun q => absurd q.2.2.2.2.2 c8, fun _ => rfl⟩
theorem c_model (N : Nat) (x1 x2 x3 x4 x5 : Int32) {M : v_M} {np nc : Nat} (e1 : M.1 79 2 = nI np) (hc : nc ≤ 8) (e2 : M.1 79 25 = nI nc) : (c_ok np nc x1 x2 x3 x4 x5 → f_X12_change N x1 x2 x3 x4 x5 M = some (nI nc, c_M2 M nc x1 x2 x3 x4 x5)) ∧ (¬ c_ok np nc x1 x2 x3 x4 x5 → f_X12_change N x1 x2 x3 x4 x5 M = some (-1, M)) := by
  unfold f_X12_change
  rw [l_m99]
  simp only [l_0, l_99, l_999, e_isPart, e_in2, Option.bind_some, e1]
  by_cases c8 : nc = 8
  · subst c8
    rw [e2, if_pos (show nI 8 = 8 from rfl)]; exact ⟨fun q => absurd q.2.2.2.2.2 (by omega), fun _ => rfl⟩
  rw [if_neg (show ¬ M.1 79 25 = 8 from fun q => c8 ((nI_eq (by omega) (by omega)).mp (show nI nc = nI 8 from e2 ▸ q)))]
  by_cases a1 : 0 ≤ x1 ∧ x1 ≤ nI np - 1
  rotate_left
  · rw [v_wiFe a1]; exact ⟨fun q => absurd q.1 a1, fun _ => rfl⟩
  rw [v_wiTe a1]
  by_cases a2 : 0 ≤ x2 ∧ x2 ≤ 99
  rotate_left
  · rw [v_wiFe a2]; exact ⟨fun q => absurd q.2.1 a2, fun _ => rfl⟩
  rw [v_wiTe a2]
  by_cases a3 : -99 ≤ x3 ∧ x3 ≤ 99
  rotate_left
  · rw [v_wiFe a3]; exact ⟨fun q => absurd q.2.2.1 a3, fun _ => rfl⟩
  rw [v_wiTe a3]
  by_cases a4 : 0 ≤ x4 ∧ x4 ≤ 999
  rotate_left
  · rw [v_wiFe a4]; exact ⟨fun q => absurd q.2.2.2.1 a4, fun _ => rfl⟩
  rw [v_wiTe a4]
  by_cases a5 : 0 ≤ x5 ∧ x5 ≤ 999
  rotate_left
  · rw [v_wiFe a5]; exact ⟨fun q => absurd q.2.2.2.2.1 a5, fun _ => rfl⟩
  rw [v_wiTe a5]
  refine ⟨fun _ => ?_, fun q => absurd ⟨a1, a2, a3, a4, a5, by omega⟩ q⟩
  simp only [v_letE, v_rdn, ne_eq, Nat.reduceEqDiff, not_false_eq_true, e2, v_ibN (show nc < 8 by omega) (show 8 < 2 ^ 31 by omega), v_ckT, nI_clamp (show nc < 2 ^ 31 by omega)]
  have e : (v_wr (v_wr (v_wr (v_wr (v_wr (v_wr M 101 nc x1) 102 nc x2) 103 nc x3) 104 nc x4) 105 nc x5) 79 25 (nI nc + 1)).1 79 25 - 1 = nI nc := by
    rw [v_rd, if_pos ⟨rfl, rfl⟩, ← nI_succ, nI_pred]
  rw [e]; rfl
theorem st_change (N : Nat) (x1 x2 x3 x4 x5 : Int32) {M : v_M} {np nc : Nat} (hd : J_drawc M np) (h : J_chgc M np nc) : ∃ (r : Int32) (M1 M2 : v_M), f_X11_change N x1 x2 x3 x4 x5 M = some (r, M1) ∧ f_X12_change N x1 x2 x3 x4 x5 M1 = some (r, M2) ∧ (∃ nc' : Nat, J_chgc M2 np nc') ∧ v_fr [30, 31, 32, 33, 34, 101, 102, 103, 104, 105] [(29, 0), (79, 25)] M M2 := by
  obtain ⟨hnp, d1, d2, -, -⟩ := hd
  obtain ⟨hc, e1, e2, hp⟩ := id h
  by_cases ok : c_ok np nc x1 x2 x3 x4 x5
  rotate_left
  · exact ⟨-1, M, M, (c_class N x1 x2 x3 x4 x5 d1 hc e1).2 ok, (c_model N x1 x2 x3 x4 x5 d2 hc e2).2 ok, ⟨nc, h⟩, v_frR⟩
  refine ⟨nI nc, _, _, (c_class N x1 x2 x3 x4 x5 d1 hc e1).1 ok, (c_model N x1 x2 x3 x4 x5 (np := np) (nc := nc) ?_ hc ?_).1 ok, ⟨nc + 1, ?_⟩, ?_⟩
  · unfold c_M1; simp only [v_rdn, ne_eq, Nat.reduceEqDiff, not_false_eq_true, d2]
  · unfold c_M1; simp only [v_rdn, ne_eq, Nat.reduceEqDiff, not_false_eq_true, e2]
  · obtain ⟨a1, a2, a3, a4, a5, c8⟩ := ok
    have old : ∀ i, i ≠ nc → ∀ kk ∈ [30, 31, 32, 33, 34, 101, 102, 103, 104, 105], (c_M2 (c_M1 M nc x1 x2 x3 x4 x5) nc x1 x2 x3 x4 x5).1 kk i = M.1 kk i := by
      intro i hi kk hk
      have q1 : kk ≠ 29 := fun e => by subst e; revert hk; decide
      have q2 : kk ≠ 79 := fun e => by subst e; revert hk; decide
      unfold c_M1 c_M2
      simp only [v_rd, hi, and_false, if_false, q1, q2, false_and]
    generalize hA : c_M2 (c_M1 M nc x1 x2 x3 x4 x5) nc x1 x2 x3 x4 x5 = A at old ⊢
    have nw : A.1 30 nc = x1 ∧ A.1 31 nc = x2 ∧ A.1 32 nc = x3 ∧ A.1 33 nc = x4 ∧ A.1 34 nc = x5 ∧ A.1 101 nc = x1 ∧ A.1 102 nc = x2 ∧ A.1 103 nc = x3 ∧ A.1 104 nc = x4 ∧ A.1 105 nc = x5 ∧ A.1 29 0 = nI (nc + 1) ∧ A.1 79 25 = nI (nc + 1) := by
      rw [← hA]
      unfold c_M1 c_M2
      simp [v_rd, nI_succ]
    obtain ⟨n1, n2, n3, n4, n5, m1, m2, m3, m4, m5, k1, k2⟩ := nw
    refine ⟨by omega, k1, k2, fun i hi => ?_⟩
    by_cases hic : i = nc
    · subst hic
      rw [n1, n2, n3, n4, n5, m1, m2, m3, m4, m5]
      obtain ⟨j, hj, rfl⟩ := i_idx (by omega) a1
      exact ⟨⟨rfl, rfl, rfl, rfl, rfl⟩, ⟨j, hj, rfl⟩, v_btI rfl rfl a2, v_btI rfl rfl a3, v_btI rfl rfl a4, v_btI rfl rfl a5⟩
    · have o := old i hic
      rw [o 30 (by decide), o 31 (by decide), o 32 (by decide), o 33 (by decide), o 34 (by decide), o 101 (by decide), o 102 (by decide), o 103 (by decide), o 104 (by decide), o 105 (by decide)]
      exact hp i (by omega)
  · unfold c_M1 c_M2
    exact v_fro (by decide) (v_frw (by decide) (v_frw (by decide) (v_frw (by decide) (v_frw (by decide) (v_frw (by decide) (v_fro (by decide) (v_frw (by decide) (v_frw (by decide) (v_frw (by decide) (v_frw (by decide) (v_frw (by decide) v_frR)))))))))))
theorem st_wears (N : Nat) (x1 x2 : Int32) {M : v_M} {np : Nat} (h : J_drawc M np) : ∃ (r : Int32) (M1 M2 : v_M), f_X11_wears N x1 x2 M = some (r, M1) ∧ f_X12_wears N x1 x2 M1 = some (r, M2) ∧ J_drawc M2 np ∧ v_fr [10, 87] [] M M2 := by
  obtain ⟨hc, d1, d2, dp, dw⟩ := id h
  unfold f_X11_wears f_X12_wears
  simp only [e_hasPart, e_within, e_isPart, l_0, l_9999, e_in2, Option.bind_some, d1]
  by_cases a1 : 0 ≤ x1 ∧ x1 ≤ nI np - 1
  rotate_left
  · rw [v_wiFe a1]
    refine ⟨-1, M, M, rfl, ?_, h, v_frR⟩
    rw [d2, v_wiFe a1]
  rw [v_wiTe a1]
  by_cases a2 : 0 ≤ x2 ∧ x2 ≤ 9999
  rotate_left
  · rw [v_wiFe a2]
    refine ⟨-1, M, M, rfl, ?_, h, v_frR⟩
    rw [d2, v_wiTe a1, v_wiFe a2]
  rw [v_wiTe a2]
  obtain ⟨p, hp, rfl⟩ := i_idx (by omega) a1
  rw [e_swap N 10 (show p < 24 by omega) (show 24 < 2 ^ 31 by omega)]
  refine ⟨M.1 10 p, v_wr M 10 p x2, v_wr (v_wr M 10 p x2) 87 p x2, rfl, ?_, ?_, v_frw (by decide) (v_frw (by decide) v_frR)⟩
  · simp only [v_rdn, ne_eq, Nat.reduceEqDiff, not_false_eq_true, d2]
    rw [v_wiTe a1, v_wiTe a2]
    simp only [v_ibN (show p < 24 by omega) (show 24 < 2 ^ 31 by omega), v_ckT, nI_clamp (show p < 2 ^ 31 by omega), v_letE, v_rdn, ne_eq, Nat.reduceEqDiff, not_false_eq_true, (dp p hp).1.2.2.2.2.2.2.2]
  · have o : ∀ k, k ≠ 10 → k ≠ 87 → (v_wr (v_wr M 10 p x2) 87 p x2).1 k = M.1 k := fun k a b => by rw [v_wr_n b, v_wr_n a]
    have o10 : ∀ j, (v_wr (v_wr M 10 p x2) 87 p x2).1 10 j = if j = p then x2 else M.1 10 j := fun j => by rw [v_rdn (by decide), v_rd]; simp
    have o87 : ∀ j, (v_wr (v_wr M 10 p x2) 87 p x2).1 87 j = if j = p then x2 else M.1 87 j := fun j => by rw [v_rd, v_rdn (by decide)]; simp
    generalize v_wr (v_wr M 10 p x2) 87 p x2 = A at o o10 o87
    unfold J_drawc J_part
    rw [o 1 (by decide) (by decide), o 79 (by decide) (by decide), o 2 (by decide) (by decide), o 3 (by decide) (by decide), o 4 (by decide) (by decide), o 5 (by decide) (by decide), o 6 (by decide) (by decide), o 7 (by decide) (by decide), o 8 (by decide) (by decide), o 9 (by decide) (by decide), o 80 (by decide) (by decide), o 81 (by decide) (by decide), o 82 (by decide) (by decide), o 83 (by decide) (by decide), o 84 (by decide) (by decide), o 85 (by decide) (by decide), o 86 (by decide) (by decide)]
    refine ⟨hc, d1, d2, fun i hi => ?_, fun i h1 h2 => ?_⟩
    · obtain ⟨⟨q1, q2, q3, q4, q5, q6, q7, q8⟩, ⟨r1, r2, r3, r4, r5, r6, r7, r8⟩, s⟩ := dp i hi
      rw [o10, o87]
      by_cases e : i = p
      · rw [if_pos e, if_pos e]
        exact ⟨⟨q1, q2, q3, q4, q5, q6, q7, rfl⟩, ⟨r1, r2, r3, r4, r5, r6, r7, v_btI rfl rfl a2⟩, s⟩
      · rw [if_neg e, if_neg e]
        exact ⟨⟨q1, q2, q3, q4, q5, q6, q7, q8⟩, ⟨r1, r2, r3, r4, r5, r6, r7, r8⟩, s⟩
    · rw [o10, if_neg (by omega)]
      exact dw i h1 h2
def J_tapec (M : v_M) (n : Nat) : Prop := n ≤ 400 ∧ M.1 36 0 = nI n ∧ M.1 79 32 = nI n ∧ ∀ i, i < n → M.1 107 i = (M.1 37 i).toInt8.toInt32 ∧ v_bt (M.1 37 i) 0 255
theorem st_end (N : Nat) (x : Int32) {M : v_M} {n : Nat} (h : J_tapec M n) : ∃ (r : Int32) (M1 M2 : v_M), f_X11_end N x M = some (r, M1) ∧ f_X12_end N x M1 = some (r, M2) ∧ (∃ n' : Nat, J_tapec M2 n') ∧ v_fr [] [(36, 0), (79, 32)] M M2 := by
  obtain ⟨hn, e1, e2, hb⟩ := id h
  unfold f_X11_end f_X12_end
  simp only [e_within, Option.bind_some, e1]
  by_cases a : 0 ≤ x ∧ x ≤ nI n
  · rw [v_wiTe a]
    have nx : ¬ x < 0 := fun q => by have u := i_le.mp a.1; rw [i_lt] at q; omega
    obtain ⟨j, hj, rfl⟩ := nI_of2 (x := x) (M := nI n) (n := n) (nI_toInt (by omega)) nx a.2
    refine ⟨nI j, v_wr M 36 0 (nI j), v_wr (v_wr M 36 0 (nI j)) 79 32 (nI j), rfl, ?_, ⟨j, by omega, ?_, ?_, fun i hi => ?_⟩, v_fro (by decide) (v_fro (by decide) v_frR)⟩
    · rw [if_neg nx, if_pos (by rw [v_rdn (by decide), e2]; exact a.2)]
      rfl
    · rw [v_rdn (by decide), v_rd]; simp
    · rw [v_rd]; simp
    · rw [v_rdn (by decide), v_rdn (by decide), v_rdn (by decide), v_rdn (by decide)]
      exact hb i (by omega)
  · rw [v_wiFe a]
    refine ⟨-1, M, M, rfl, ?_, ⟨n, h⟩, v_frR⟩
    by_cases nx : x < 0
    · rw [if_pos nx]
    · rw [if_neg nx, if_neg (by rw [e2]; exact fun q => a ⟨by rw [i_lt] at nx; rw [i_le]; omega, q⟩)]
