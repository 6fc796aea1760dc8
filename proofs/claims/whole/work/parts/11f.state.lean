/-! state, judged -/
theorem asN (N : Nat) (b : Bool) (M : v_M) : f_X11_asNumber N (v01 b) M = some (v01 b, M) := by
  unfold f_X11_asNumber
  cases b <;> rfl
theorem st_state {N : Nat} (hN : 100 ≤ N) (x1 x2 x3 : Int32) {M : v_M} {np nm : Nat} (hd : J_drawc M np) (hf : J_fleetc M np nm) : ∃ (r : Int32) (M1 M2 : v_M), f_X11_state N x1 x2 x3 M = some (r, M1) ∧ f_X12_state N x1 x2 x3 M1 = some (r, M2) ∧ v_fr [19, 20, 21, 22, 23, 24, 25, 94, 95, 96, 97, 98, 99] [] M M2 := by
  have e1 := hd.2.1
  have e2 := hd.2.2.1
  have f1 := hf.1
  have f2 := hf.2.1
  have h20 : nm ≤ 20 := hf.2.2.1.1
  have h24 := hd.1
  obtain ⟨hp1, hp2⟩ := e_hasPartOf N x1 x2 M
  rw [e1, f1] at hp1 hp2
  unfold f_X11_state f_X12_state
  simp only [e_isMachine, e_isPart, Option.bind_some]
  by_cases a : (0 ≤ x1 ∧ x1 ≤ nI nm - 1) ∧ (0 ≤ x2 ∧ x2 ≤ nI np - 1)
  rotate_left
  · rw [hp2 a, Option.bind_some]
    refine ⟨-1000, M, M, rfl, ?_, v_frR⟩
    rw [f2, e2]
    by_cases a1 : 0 ≤ x1 ∧ x1 ≤ nI nm - 1
    · rw [v_wiTe a1, v_wiFe (fun z => a ⟨a1, z⟩)]
    · rw [v_wiFe a1]
  rw [hp1 a, Option.bind_some, if_neg (show ¬ (1 : Int32) = 0 by decide), e_spot, Option.bind_some, v_letE]
  obtain ⟨a1, a2⟩ := a
  obtain ⟨m, hm, rfl⟩ := i_idx (by omega) a1
  obtain ⟨k, hk, rfl⟩ := i_idx (by omega) a2
  simp only [nI_spot, nI_spot', v_ibN (show 24 * m + k < 480 by omega) (show 480 < 2 ^ 31 by omega), nI_clamp (show 24 * m + k < 2 ^ 31 by omega), v_ckT, v_letE]
  obtain ⟨w1, w2, w3, w4⟩ := hf.2.2.2.1 (24 * m + k) (by omega)
  by_cases z0 : x3 = 0
  · rw [if_pos z0]
    refine ⟨_, M, M, rfl, ?_, v_frR⟩
    rw [f2, e2, v_wiTe a1, v_wiTe a2, if_pos z0, w4]
  rw [if_neg z0]
  by_cases z1 : x3 = 1
  · rw [if_pos z1]
    refine ⟨_, M, M, rfl, ?_, v_frR⟩
    rw [f2, e2, v_wiTe a1, v_wiTe a2, if_neg z0, if_pos z1, w1]
  rw [if_neg z1]
  by_cases z2 : x3 = 2
  · rw [if_pos z2]
    refine ⟨_, M, M, rfl, ?_, v_frR⟩
    rw [f2, e2, v_wiTe a1, v_wiTe a2, if_neg z0, if_neg z1, if_pos z2, w2]
  rw [if_neg z2]
  by_cases z3 : x3 = 3
  · rw [if_pos z3]
    refine ⟨_, M, M, rfl, ?_, v_frR⟩
    rw [f2, e2, v_wiTe a1, v_wiTe a2, if_neg z0, if_neg z1, if_neg z2, if_pos z3, w3]
  rw [if_neg z3]
  by_cases z4 : x3 = 4
  rotate_left
  · rw [if_neg z4]
    refine ⟨_, M, M, rfl, ?_, v_frR⟩
    rw [f2, e2, v_wiTe a1, v_wiTe a2, if_neg z0, if_neg z1, if_neg z2, if_neg z3, if_neg z4]
  obtain ⟨hD, hC, hR, hK⟩ := hd.dw
  obtain ⟨A, p1, p2, p3, p4, p5, p6⟩ := J_load (N := N) hd hf hm
  obtain ⟨B, q1, q2, q3, q4, q5⟩ := J_take hN hd hf hm p2 (by decide)
  refine ⟨v01 (ovr (M.1 2) (dwO M).dv (pO M m) (mO M m) k), A, B, ?_, ?_, v_frT (v_frt (W := [19, 20, 21, 22, 23, 24, 25, 94, 95, 96, 97, 98, 99]) (O := []) (by decide) (by decide) v_frR p2) (v_frt (W := [19, 20, 21, 22, 23, 24, 25, 94, 95, 96, 97, 98, 99]) (O := []) (by decide) (by decide) v_frR q2)⟩
  · rw [if_pos z4, p1, Option.bind_some, e_over1 N hD hK hk p3 p4 p5, Option.bind_some, asN, Option.bind_some]
  · rw [v_keepC p2 79 3 (by decide), v_keepC p2 79 2 (by decide), f2, e2, v_wiTe a1, v_wiTe a2, if_neg z0, if_neg z1, if_neg z2, if_neg z3, if_pos z4, q1, Option.bind_some, e_over2 N hD hK hk q3 q4 q5, Option.bind_some, v01_0]
    cases ovr (M.1 2) (dwO M).dv (pO M m) (mO M m) k <;> rfl
theorem st_judged {N : Nat} (hN : 100 ≤ N) (x1 x2 x3 : Int32) {M : v_M} {np nm : Nat} (hd : J_drawc M np) (hf : J_fleetc M np nm) : ∃ (r : Int32) (M1 M2 : v_M), f_X11_judged N x1 x2 x3 M = some (r, M1) ∧ f_X12_judged N x1 x2 x3 M1 = some (r, M2) ∧ v_fr [19, 20, 21, 22, 23, 24, 25, 94, 95, 96, 97, 98, 99] [] M M2 := by
  have f1 := hf.1
  have f2 := hf.2.1
  have h20 : nm ≤ 20 := hf.2.2.1.1
  have h24 := hd.1
  unfold f_X11_judged f_X12_judged
  simp only [e_hasMachine, e_isMachine, e_within, l_0, l_2, l_15, e_in2, Option.bind_some, f1]
  by_cases a1 : 0 ≤ x1 ∧ x1 ≤ nI nm - 1
  rotate_left
  · rw [v_wiFe a1]
    refine ⟨_, M, M, rfl, ?_, v_frR⟩
    rw [f2, v_wiFe a1]
  rw [v_wiTe a1]
  by_cases a3 : 0 ≤ x3 ∧ x3 ≤ 15
  rotate_left
  · rw [v_wiFe a3]
    refine ⟨_, M, M, rfl, ?_, v_frR⟩
    rw [f2, v_wiTe a1]
    by_cases a2 : 0 ≤ x2 ∧ x2 ≤ 2
    · rw [v_wiTe a2, v_wiFe a3]
    · rw [v_wiFe a2]
  rw [v_wiTe a3]
  obtain ⟨m, hm, rfl⟩ := i_idx (by omega) a1
  obtain ⟨hD, hC, hR, hK⟩ := hd.dw
  obtain ⟨A, p1, p2, p3, p4, p5, p6⟩ := J_load (N := N) hd hf hm
  have fA : v_fr [19, 20, 21, 22, 23, 24, 25, 94, 95, 96, 97, 98, 99] [] M A := v_frt (W := [19, 20, 21, 22, 23, 24, 25, 94, 95, 96, 97, 98, 99]) (O := []) (by decide) (by decide) v_frR p2
  rw [p1, Option.bind_some]
  by_cases a2 : 0 ≤ x2 ∧ x2 ≤ 2
  rotate_left
  · rw [if_neg (fun z => a2 (by rw [z]; decide)), if_neg (fun z => a2 (by rw [z]; decide)), if_neg (fun z => a2 (by rw [z]; decide))]
    refine ⟨_, A, A, rfl, ?_, fA⟩
    rw [v_keepC p2 79 3 (by decide), f2, v_wiTe a1, v_wiFe a2]
  obtain ⟨B, q1, q2, q3, q4, q5⟩ := J_take hN hd hf hm p2 (by decide)
  have fB : v_fr [19, 20, 21, 22, 23, 24, 25, 94, 95, 96, 97, 98, 99] [] M B := v_frt (W := [19, 20, 21, 22, 23, 24, 25, 94, 95, 96, 97, 98, 99]) (O := []) (by decide) (by decide) fA q2
  have l1 := e_looks1 N x3 hD hK p3 p4 p5 np 0 N (by omega) (by omega)
  have s1 := e_shut1 N hD hK p3 p4 p5 np 0 N false (by omega) (by omega)
  have l2 := e_looks2 N x3 hD hK q3 q4 q5 np 0 N true (by omega) (by omega)
  have s2 := e_shut2 N hD hK q3 q4 q5 np 0 N false true (by omega) (by omega)
  rw [show nI 0 = 0 from rfl] at l1 s1
  rw [show nI 0 = 0 from rfl, Bool.true_and] at l2 s2
  rw [show v01 false = 0 from rfl] at s1 s2
  rw [show v01 true = 1 from rfl] at l2 s2
  have j68 : ∀ b : Bool, f_X12_judged_L68 N (v01 b) B = some (v01 b, B) := fun b => by unfold f_X12_judged_L68; cases b <;> rfl
  by_cases z0 : x2 = 0
  · refine ⟨v01 (shb (M.1 2) (ovr (M.1 2) (dwO M).dv (pO M m) (mO M m)) np 0 false), A, B, ?_, ?_, fB⟩
    · rw [if_pos z0]
      unfold f_X2_isShut
      rw [s1, Option.bind_some, asN, Option.bind_some]
    · rw [v_keepC p2 79 3 (by decide), f2, v_wiTe a1, v_wiTe a2, v_wiTe a3, q1, Option.bind_some, if_pos z0]
      unfold f_X12_isShut
      rw [s2, Option.bind_some, j68]
  by_cases z1 : x2 = 1
  · refine ⟨v01 (lkb (M.1 2) (ovr (M.1 2) (dwO M).dv (pO M m) (mO M m)) x3 np 0), A, B, ?_, ?_, fB⟩
    · rw [if_neg z0, if_pos z1]
      unfold f_X2_looksShut
      rw [l1, Option.bind_some, asN, Option.bind_some]
    · rw [v_keepC p2 79 3 (by decide), f2, v_wiTe a1, v_wiTe a2, v_wiTe a3, q1, Option.bind_some, if_neg z0, if_pos z1]
      unfold f_X12_looksSo
      rw [l2, Option.bind_some, j68]
  have z2 : x2 = 2 := by
    obtain ⟨j, hj, rfl⟩ := i_idx (c := 3) (by omega) (show 0 ≤ x2 ∧ x2 ≤ nI 3 - 1 from a2)
    have : j = 2 := by
      rcases Nat.lt_or_ge j 2 with h | h
      · rcases Nat.lt_or_ge j 1 with h' | h'
        · exact absurd (by rw [show j = 0 by omega]; rfl) z0
        · exact absurd (by rw [show j = 1 by omega]; rfl) z1
      · omega
    rw [this]; rfl
  refine ⟨v01 (unl (M.1 2) (dwO M).dv (pO M m) (mO M m) np x3), A, B, ?_, ?_, fB⟩
  · rw [if_neg z0, if_neg z1, if_pos z2, e_unl1 hN x3 hD hK p3 p4 p5, Option.bind_some, asN, Option.bind_some]
  · rw [v_keepC p2 79 3 (by decide), f2, v_wiTe a1, v_wiTe a2, v_wiTe a3, q1, Option.bind_some, if_neg z0, if_neg z1, e_unl2 hN x3 hD hK q3 q4 q5, Option.bind_some, j68]
