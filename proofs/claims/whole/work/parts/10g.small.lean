/-! floor, see -/
theorem g_66 (N : Nat) (x1 x2 x3 x4 x5 x6 x7 t : Int32) (M : v_M) : f_X11_floor_L66 N x1 x2 x3 x4 x5 x6 x7 0 t M = some (-1, M) := by unfold f_X11_floor_L66; rfl
theorem g_65 (N : Nat) (x1 x2 x3 x4 x5 x6 x7 x8 : Int32) (M : v_M) : f_X11_floor_L65 N x1 x2 x3 x4 x5 x6 x7 x8 M = some (-1, M) := by
  unfold f_X11_floor_L65 f_X11_floor_L66
  by_cases h : x8 = 0
  · rw [if_pos h]
  · rw [if_neg h]; rfl
theorem g_25 (N : Nat) (x1 x2 x3 x4 x5 x6 x7 : Int32) (M : v_M) : f_X11_floor_L25 N x1 x2 x3 x4 x5 x6 x7 M = some (-1, M) := by
  unfold f_X11_floor_L25 f_X11_floor_L26
  simp only [e_within, Option.bind_some, g_65, g_66, ite_self]
theorem st_floor (N : Nat) (x1 x2 x3 x4 x5 x6 x7 : Int32) (M : v_M) : ∃ r : Int32, f_X11_floor N x1 x2 x3 x4 x5 x6 x7 M = some (r, M) ∧ f_X12_floor N x1 x2 x3 x4 x5 x6 x7 M = some (r, M) := by
  unfold f_X11_floor f_X12_floor
  simp only [l_0, l_1, l_40, l_99, l_400, l_99999, e_in2, e_within, Option.bind_some, g_25]
  by_cases a1 : 0 ≤ x1 ∧ x1 ≤ 400
  rotate_left
  · rw [v_wiFe a1, v_wiFe a1]; exact ⟨-1, rfl, rfl⟩
  rw [v_wiTe a1, v_wiTe a1]
  by_cases a2 : 1 ≤ x2 ∧ x2 ≤ 99
  rotate_left
  · rw [v_wiFe a2, v_wiFe a2]; exact ⟨-1, rfl, rfl⟩
  rw [v_wiTe a2, v_wiTe a2]
  unfold f_X11_floor_L26
  simp only [e_within, Option.bind_some, g_65]
  by_cases a3 : 0 ≤ x3 ∧ x3 ≤ 99999
  rotate_left
  · rw [v_wiFe a3, v_wiFe a3]; exact ⟨-1, rfl, rfl⟩
  rw [v_wiTe a3, v_wiTe a3]
  by_cases a4 : 0 ≤ x4 ∧ x4 ≤ 99
  rotate_left
  · rw [v_wiFe a4, v_wiFe a4]; exact ⟨-1, rfl, rfl⟩
  rw [v_wiTe a4, v_wiTe a4]
  by_cases a5 : 0 ≤ x5 ∧ x5 ≤ 400
  rotate_left
  · rw [v_wiFe a5, v_wiFe a5]; exact ⟨-1, rfl, rfl⟩
  rw [v_wiTe a5, v_wiTe a5]
  unfold f_X11_floor_L66
  simp only [e_within, Option.bind_some]
  rw [if_neg (show ¬ (1 : Int32) = 0 by decide), if_neg (show ¬ (1 : Int32) = 0 by decide)]
  by_cases a6 : 0 ≤ x6 ∧ x6 ≤ 40
  rotate_left
  · rw [v_wiFe a6, v_wiFe a6]; exact ⟨-1, rfl, rfl⟩
  rw [v_wiTe a6, v_wiTe a6]
  by_cases a7 : 0 ≤ x7 ∧ x7 ≤ 1
  rotate_left
  · rw [v_wiFe a7, v_wiFe a7]; exact ⟨-1, rfl, rfl⟩
  rw [v_wiTe a7, v_wiTe a7, Int32.mul_comm x2 x1]
  simp only [v_letE, show v_nz (100 : Int32) = true by decide, v_ckT]
  generalize x1 * x2 * 10 - (x3 + 50 * x4 - 20 * x5) = y
  unfold f_X12_floor_L143
  by_cases p : 0 < y
  · have p' : ¬ y ≤ 0 := fun q => by rw [i_le] at q; rw [i_lt] at p; omega
    rw [if_pos p, if_neg p', if_neg p']
    by_cases w : x7 = 0
    · rw [if_pos w, if_pos w]; exact ⟨1, rfl, rfl⟩
    · rw [if_neg w, if_neg w]
      refine ⟨_, rfl, ?_⟩
      unfold v_mn
      by_cases k : (y + 99) / 100 < x6
      · rw [if_pos k, if_neg (fun q => by rw [i_le] at q; rw [i_lt] at k; omega)]
      · rw [if_neg k, if_pos (by rw [i_lt] at k; rw [i_le]; omega)]
  · have p' : y ≤ 0 := by rw [i_lt] at p; rw [i_le]; omega
    rw [if_neg p, if_pos p', if_pos p']
    refine ⟨0, rfl, ?_⟩
    by_cases w : x7 = 0
    · rw [if_pos w]
    · rw [if_neg w]
      by_cases k : x6 ≤ 0
      · rw [if_pos k]
        have : x6 = 0 := i_eq.mpr (by have u := i_le.mp k; have v := i_le.mp a6.1; omega)
        rw [this]
      · rw [if_neg k]
def J_seenc (M : v_M) (nm n : Nat) : Prop := n ≤ 100 ∧ M.1 52 9 = nI n ∧ M.1 79 61 = nI n ∧ ∀ i, i < n → ∃ m t d : Nat, m < nm ∧ t < 10 ∧ d ≤ 9999 ∧ M.1 61 i = nI (10 * m + t) ∧ M.1 128 i = nI m ∧ M.1 129 i = nI t ∧ M.1 62 i = nI d ∧ M.1 130 i = nI d ∧ M.1 131 i = M.1 63 i ∧ (M.1 63 i = 0 ∨ M.1 63 i = 1)
theorem nI_work (m t : Nat) : nI m * 10 + nI t = nI (10 * m + t) := by
  rw [show (10 : Int32) = nI 10 from rfl, nI_mul, nI_add, Nat.mul_comm]
theorem e_canBe (N : Nat) (x1 x2 x3 : Int32) (M : v_M) : ((0 ≤ x1 ∧ x1 ≤ M.1 11 0 - 1) ∧ (0 ≤ x2 ∧ x2 ≤ 9) ∧ (0 ≤ x3 ∧ x3 ≤ M.1 0 0) → f_X11_canBeDone N x1 x2 x3 M = some (1, M)) ∧ (¬ ((0 ≤ x1 ∧ x1 ≤ M.1 11 0 - 1) ∧ (0 ≤ x2 ∧ x2 ≤ 9) ∧ (0 ≤ x3 ∧ x3 ≤ M.1 0 0)) → f_X11_canBeDone N x1 x2 x3 M = some (0, M)) := by
  unfold f_X11_canBeDone
  simp only [e_hasMachine, e_within, Option.bind_some, v_b0, v_b1, v_ckT]
  by_cases a : 0 ≤ x1 ∧ x1 ≤ M.1 11 0 - 1
  rotate_left
  · rw [v_wiFe a]; exact ⟨fun q => absurd q.1 a, fun _ => rfl⟩
  rw [v_wiTe a]
  by_cases b : 0 ≤ x2 ∧ x2 ≤ 9
  rotate_left
  · rw [v_wiFe b]; exact ⟨fun q => absurd q.2.1 b, fun _ => rfl⟩
  rw [v_wiTe b]
  by_cases c : 0 ≤ x3 ∧ x3 ≤ M.1 0 0
  rotate_left
  · rw [v_wiFe c]; exact ⟨fun q => absurd q.2.2 c, fun _ => rfl⟩
  rw [v_wiTe c]
  exact ⟨fun _ => rfl, fun q => absurd ⟨a, b, c⟩ q⟩
def s_M1 (M : v_M) (n : Nat) (w x3 x4 : Int32) : v_M := v_wr (v_wr (v_wr (v_wr M 61 n w) 62 n x3) 63 n x4) 52 9 (nI n + 1)
def s_M2 (M : v_M) (n : Nat) (x1 x2 x3 x4 : Int32) : v_M := v_wr (v_wr (v_wr (v_wr (v_wr M 128 n x1) 129 n x2) 130 n x3) 131 n x4) 79 61 (nI n + 1)
theorem v_nar01 {x : Int32} (h : x = 0 ∨ x = 1) : vp_nar .boolean x = x := by rcases h with h | h <;> subst h <;> rfl
theorem st_see (N : Nat) (x1 x2 x3 x4 : Int32) (h4 : x4 = 0 ∨ x4 = 1) {M : v_M} {np nm n : Nat} (ht : J_time M) (hf : J_fleetc M np nm) (h : J_seenc M nm n) : ∃ (r : Int32) (M1 M2 : v_M), f_X11_see N x1 x2 x3 x4 M = some (r, M1) ∧ f_X12_see N x1 x2 x3 x4 M1 = some (r, M2) ∧ (∃ n' : Nat, J_seenc M2 nm n') ∧ v_fr [61, 62, 63, 128, 129, 130, 131] [(52, 9), (79, 61)] M M2 := by
  obtain ⟨d, hd, t1, t2⟩ := ht
  obtain ⟨f1, f2, ⟨f3, -⟩, -⟩ := hf
  obtain ⟨hn, e1, e2, hp⟩ := id h
  unfold f_X11_see f_X12_see
  by_cases a : (0 ≤ x1 ∧ x1 ≤ M.1 11 0 - 1) ∧ (0 ≤ x2 ∧ x2 ≤ 9) ∧ (0 ≤ x3 ∧ x3 ≤ M.1 0 0)
  · rw [(e_canBe N x1 x2 x3 M).1 a]
    simp only [Option.bind_some]
    rw [if_neg (show ¬ (1 : Int32) = 0 by decide), e1]
    rw [f1, t1] at a
    obtain ⟨a1, a2, a3⟩ := a
    by_cases c : n < 100
    · rw [if_pos (show nI n < 100 from nI_lt (b := 100) c (by omega))]
      unfold f_X8_putSeen
      obtain ⟨m, hm, rfl⟩ := i_idx (by omega) a1
      obtain ⟨t, ht, rfl⟩ := i_idx (c := 10) (by omega) (show 0 ≤ x2 ∧ x2 ≤ nI 10 - 1 from a2)
      have nx : ¬ x3 < 0 := fun q => by have u := i_le.mp a3.1; rw [i_lt] at q; omega
      obtain ⟨dd, hdd, rfl⟩ := nI_of2 (x := x3) (M := nI d) (n := d) (nI_toInt (by omega)) nx a3.2
      refine ⟨nI (n + 1), s_M1 M n (nI (10 * m + t)) (nI dd) x4, s_M2 (s_M1 M n (nI (10 * m + t)) (nI dd) x4) n (nI m) (nI t) (nI dd) x4, ?_, ?_, ⟨n + 1, ?_⟩, ?_⟩
      · rw [e1, if_pos (show nI n < 100 from nI_lt (b := 100) c (by omega))]
        simp only [v_letE, v_rdn, ne_eq, Nat.reduceEqDiff, not_false_eq_true, e1, v_ibN c (show 100 < 2 ^ 31 by omega), v_ckT, nI_clamp (show n < 2 ^ 31 by omega), v_nar01 h4, Option.bind_some, nI_work]
        rw [v_rd, if_pos ⟨rfl, rfl⟩, nI_succ]
        rfl
      · have q1 : (s_M1 M n (nI (10 * m + t)) (nI dd) x4).1 79 61 = nI n := by unfold s_M1; simp only [v_rdn, ne_eq, Nat.reduceEqDiff, not_false_eq_true, e2]
        have q2 : (s_M1 M n (nI (10 * m + t)) (nI dd) x4).1 79 3 = nI nm := by unfold s_M1; simp only [v_rdn, ne_eq, Nat.reduceEqDiff, not_false_eq_true, f2]
        have q3 : (s_M1 M n (nI (10 * m + t)) (nI dd) x4).1 79 1 = nI d := by unfold s_M1; simp only [v_rdn, ne_eq, Nat.reduceEqDiff, not_false_eq_true, t2]
        generalize s_M1 M n (nI (10 * m + t)) (nI dd) x4 = A at q1 q2 q3
        simp only [l_0, l_9, e_isMachine, e_in2, Option.bind_some, q2, q3]
        rw [if_neg (show ¬ A.1 79 61 = 100 from fun q => by rw [q1] at q; exact absurd ((nI_eq (by omega) (by omega)).mp (show nI n = nI 100 from q)) (by omega)), v_wiTe a1, v_wiTe a2, v_wiTe a3]
        simp only [v_letE, v_rdn, ne_eq, Nat.reduceEqDiff, not_false_eq_true, q1, v_ibN c (show 100 < 2 ^ 31 by omega), v_ckT, nI_clamp (show n < 2 ^ 31 by omega), v_nar01 h4]
        rw [v_rd, if_pos ⟨rfl, rfl⟩, nI_succ]
        rfl
      · have old : ∀ i, i ≠ n → ∀ kk ∈ [61, 62, 63, 128, 129, 130, 131], (s_M2 (s_M1 M n (nI (10 * m + t)) (nI dd) x4) n (nI m) (nI t) (nI dd) x4).1 kk i = M.1 kk i := by
          intro i hi kk hk
          have q1 : kk ≠ 52 := fun e => by subst e; revert hk; decide
          have q2 : kk ≠ 79 := fun e => by subst e; revert hk; decide
          unfold s_M1 s_M2
          simp only [v_rd, hi, and_false, if_false, q1, q2, false_and]
        generalize hA : s_M2 (s_M1 M n (nI (10 * m + t)) (nI dd) x4) n (nI m) (nI t) (nI dd) x4 = A at old ⊢
        have nw : A.1 61 n = nI (10 * m + t) ∧ A.1 62 n = nI dd ∧ A.1 63 n = x4 ∧ A.1 128 n = nI m ∧ A.1 129 n = nI t ∧ A.1 130 n = nI dd ∧ A.1 131 n = x4 ∧ A.1 52 9 = nI (n + 1) ∧ A.1 79 61 = nI (n + 1) := by
          rw [← hA]
          unfold s_M1 s_M2
          simp [v_rd, nI_succ]
        obtain ⟨n1, n2, n3, m1, m2, m3, m4, k1, k2⟩ := nw
        refine ⟨by omega, k1, k2, fun i hi => ?_⟩
        by_cases hic : i = n
        · subst hic
          rw [n1, n2, n3, m1, m2, m3, m4]
          exact ⟨m, t, dd, hm, ht, by omega, rfl, rfl, rfl, rfl, rfl, rfl, h4⟩
        · have o := old i hic
          rw [o 61 (by decide), o 62 (by decide), o 63 (by decide), o 128 (by decide), o 129 (by decide), o 130 (by decide), o 131 (by decide)]
          exact hp i (by omega)
      · unfold s_M1 s_M2
        exact v_fro (by decide) (v_frw (by decide) (v_frw (by decide) (v_frw (by decide) (v_frw (by decide) (v_fro (by decide) (v_frw (by decide) (v_frw (by decide) (v_frw (by decide) v_frR))))))))
    · have c1 : n = 100 := by omega
      subst c1
      rw [if_neg (show ¬ nI 100 < 100 by decide)]
      refine ⟨-1, M, M, rfl, ?_, ⟨100, h⟩, v_frR⟩
      rw [if_pos (show M.1 79 61 = 100 from e2)]
  · rw [(e_canBe N x1 x2 x3 M).2 a]
    simp only [Option.bind_some]
    refine ⟨-1, M, M, rfl, ?_, ⟨n, h⟩, v_frR⟩
    rw [f1, t1] at a
    simp only [l_0, l_9, e_isMachine, e_in2, Option.bind_some, f2, t2]
    by_cases c : M.1 79 61 = 100
    · rw [if_pos c]
    rw [if_neg c]
    by_cases a1 : 0 ≤ x1 ∧ x1 ≤ nI nm - 1
    rotate_left
    · rw [v_wiFe a1]
    rw [v_wiTe a1]
    by_cases a2 : 0 ≤ x2 ∧ x2 ≤ 9
    rotate_left
    · rw [v_wiFe a2]
    rw [v_wiTe a2, v_wiFe (fun q => a ⟨a1, a2, q⟩)]
