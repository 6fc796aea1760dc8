/-! turn, anew, wears -/
theorem e_hasPart (N : Nat) (x : Int32) (M : v_M) : f_X11_hasPart N x M = some (v_wi x 0 (M.1 1 0 - 1), M) := by
  unfold f_X11_hasPart
  simp only [e_within, Option.bind_some, v_wi01, v_ckT]
theorem e_hasMachine (N : Nat) (x : Int32) (M : v_M) : f_X11_hasMachine N x M = some (v_wi x 0 (M.1 11 0 - 1), M) := by
  unfold f_X11_hasMachine
  simp only [e_within, Option.bind_some, v_wi01, v_ckT]
theorem e_hasPartOf (N : Nat) (x y : Int32) (M : v_M) : ((0 ≤ x ∧ x ≤ M.1 11 0 - 1) ∧ (0 ≤ y ∧ y ≤ M.1 1 0 - 1) → f_X11_hasPartOf N x y M = some (1, M)) ∧ (¬ ((0 ≤ x ∧ x ≤ M.1 11 0 - 1) ∧ (0 ≤ y ∧ y ≤ M.1 1 0 - 1)) → f_X11_hasPartOf N x y M = some (0, M)) := by
  unfold f_X11_hasPartOf
  simp only [e_hasMachine, e_hasPart, Option.bind_some, v_b0, v_b1, v_ckT]
  by_cases a : 0 ≤ x ∧ x ≤ M.1 11 0 - 1
  · rw [v_wiTe a]
    by_cases b : 0 ≤ y ∧ y ≤ M.1 1 0 - 1
    · rw [v_wiTe b]; exact ⟨fun _ => rfl, fun q => absurd ⟨a, b⟩ q⟩
    · rw [v_wiFe b]; exact ⟨fun q => absurd q.2 b, fun _ => rfl⟩
  · rw [v_wiFe a]; exact ⟨fun q => absurd q.1 a, fun _ => rfl⟩
theorem e_spot (N : Nat) (x y : Int32) (M : v_M) : f_X4_spot N x y M = some (x * 24 + y, M) := rfl
theorem e_swap (N r : Nat) {n i : Nat} (hi : i < n) (hn : n < 2 ^ 31) (v : Int32) (M : v_M) : f_X11_swap N r n (nI i) v M = some (M.1 r i, v_wr M r i v) := by
  unfold f_X11_swap
  simp only [e_within, Option.bind_some]
  rw [show Int32.ofNat n = nI n from rfl, v_wiTe (i_idx' hn hi)]
  simp only [v_letE, v_ibN hi hn, v_ckT, nI_clamp (show i < 2 ^ 31 by omega)]
theorem J_fleetc.put12 {M : v_M} {np nm i : Nat} {v : Int32} (h : J_fleetc M np nm) (hi : i < 480) (hn : ¬ (24 * nm ≤ i ∨ np ≤ i % 24)) (hb : v_bt v (0) 99) : J_fleetc (v_wr (v_wr M 12 i v) 88 i v) np nm ∧ v_fr [12, 88] [] M (v_wr (v_wr M 12 i v) 88 i v) := by
  refine ⟨?_, v_frw (by decide) (v_frw (by decide) v_frR)⟩
  obtain ⟨e1, e2, ⟨h3, h4, h5, h6⟩, h7, h8⟩ := h
  have o : ∀ k, k ≠ 12 → k ≠ 88 → (v_wr (v_wr M 12 i v) 88 i v).1 k = M.1 k := fun k a b => by rw [v_wr_n b, v_wr_n a]
  have o12 : ∀ j, (v_wr (v_wr M 12 i v) 88 i v).1 12 j = if j = i then v else M.1 12 j := fun j => by rw [v_rdn (by decide), v_rd]; simp
  have o88 : ∀ j, (v_wr (v_wr M 12 i v) 88 i v).1 88 j = if j = i then v else M.1 88 j := fun j => by rw [v_rd, v_rdn (by decide)]; simp
  generalize v_wr (v_wr M 12 i v) 88 i v = A at o o12 o88
  unfold J_fleetc
  rw [o 11 (by decide) (by decide), o 79 (by decide) (by decide), o 13 (by decide) (by decide), o 14 (by decide) (by decide), o 15 (by decide) (by decide), o 16 (by decide) (by decide), o 17 (by decide) (by decide), o 89 (by decide) (by decide), o 90 (by decide) (by decide), o 91 (by decide) (by decide), o 92 (by decide) (by decide), o 93 (by decide) (by decide)]
  refine ⟨e1, e2, ⟨h3, fun j hj hc => ?_, fun j hj => ?_, h6⟩, fun j hj => ?_, h8⟩
  · have ne : ¬ j = i := fun e => hn (e ▸ hc)
    rw [o12, if_neg ne]
    exact h4 j hj hc
  · rw [o12]
    by_cases e : j = i
    · rw [if_pos e]
      obtain ⟨b0, b1, b2, b3, b4⟩ := h5 j hj
      exact ⟨hb, b1, b2, b3, b4⟩
    · rw [if_neg e]
      exact h5 j hj
  · rw [o12, o88]
    by_cases e : j = i
    · rw [if_pos e, if_pos e]
      obtain ⟨b0, b1, b2, b3⟩ := h7 j hj
      exact ⟨rfl, b1, b2, b3⟩
    · rw [if_neg e, if_neg e]
      exact h7 j hj
theorem J_fleetc.put13 {M : v_M} {np nm i : Nat} {v : Int32} (h : J_fleetc M np nm) (hi : i < 480) (hn : ¬ (24 * nm ≤ i ∨ np ≤ i % 24)) (hb : v_bt v (-99) 99) : J_fleetc (v_wr (v_wr M 13 i v) 89 i v) np nm ∧ v_fr [13, 89] [] M (v_wr (v_wr M 13 i v) 89 i v) := by
  refine ⟨?_, v_frw (by decide) (v_frw (by decide) v_frR)⟩
  obtain ⟨e1, e2, ⟨h3, h4, h5, h6⟩, h7, h8⟩ := h
  have o : ∀ k, k ≠ 13 → k ≠ 89 → (v_wr (v_wr M 13 i v) 89 i v).1 k = M.1 k := fun k a b => by rw [v_wr_n b, v_wr_n a]
  have o13 : ∀ j, (v_wr (v_wr M 13 i v) 89 i v).1 13 j = if j = i then v else M.1 13 j := fun j => by rw [v_rdn (by decide), v_rd]; simp
  have o89 : ∀ j, (v_wr (v_wr M 13 i v) 89 i v).1 89 j = if j = i then v else M.1 89 j := fun j => by rw [v_rd, v_rdn (by decide)]; simp
  generalize v_wr (v_wr M 13 i v) 89 i v = A at o o13 o89
  unfold J_fleetc
  rw [o 11 (by decide) (by decide), o 79 (by decide) (by decide), o 12 (by decide) (by decide), o 14 (by decide) (by decide), o 15 (by decide) (by decide), o 16 (by decide) (by decide), o 17 (by decide) (by decide), o 88 (by decide) (by decide), o 90 (by decide) (by decide), o 91 (by decide) (by decide), o 92 (by decide) (by decide), o 93 (by decide) (by decide)]
  refine ⟨e1, e2, ⟨h3, fun j hj hc => ?_, fun j hj => ?_, h6⟩, fun j hj => ?_, h8⟩
  · have ne : ¬ j = i := fun e => hn (e ▸ hc)
    rw [o13, if_neg ne]
    exact h4 j hj hc
  · rw [o13]
    by_cases e : j = i
    · rw [if_pos e]
      obtain ⟨b0, b1, b2, b3, b4⟩ := h5 j hj
      exact ⟨b0, hb, b2, b3, b4⟩
    · rw [if_neg e]
      exact h5 j hj
  · rw [o13, o89]
    by_cases e : j = i
    · rw [if_pos e, if_pos e]
      obtain ⟨b0, b1, b2, b3⟩ := h7 j hj
      exact ⟨b0, rfl, b2, b3⟩
    · rw [if_neg e, if_neg e]
      exact h7 j hj
theorem J_fleetc.put14 {M : v_M} {np nm i : Nat} {v : Int32} (h : J_fleetc M np nm) (hi : i < 480) (hn : ¬ (24 * nm ≤ i ∨ np ≤ i % 24)) (hb : v_bt v 0 9999) (hz : i % 24 = 0 → v = 0) : J_fleetc (v_wr (v_wr M 14 i v) 90 i v) np nm ∧ v_fr [14, 90] [] M (v_wr (v_wr M 14 i v) 90 i v) := by
  refine ⟨?_, v_frw (by decide) (v_frw (by decide) v_frR)⟩
  obtain ⟨e1, e2, ⟨h3, h4, h5, h6⟩, h7, h8⟩ := h
  have o : ∀ k, k ≠ 14 → k ≠ 90 → (v_wr (v_wr M 14 i v) 90 i v).1 k = M.1 k := fun k a b => by rw [v_wr_n b, v_wr_n a]
  have o14 : ∀ j, (v_wr (v_wr M 14 i v) 90 i v).1 14 j = if j = i then v else M.1 14 j := fun j => by rw [v_rdn (by decide), v_rd]; simp
  have o90 : ∀ j, (v_wr (v_wr M 14 i v) 90 i v).1 90 j = if j = i then v else M.1 90 j := fun j => by rw [v_rd, v_rdn (by decide)]; simp
  generalize v_wr (v_wr M 14 i v) 90 i v = A at o o14 o90
  unfold J_fleetc
  rw [o 11 (by decide) (by decide), o 79 (by decide) (by decide), o 12 (by decide) (by decide), o 13 (by decide) (by decide), o 15 (by decide) (by decide), o 16 (by decide) (by decide), o 17 (by decide) (by decide), o 88 (by decide) (by decide), o 89 (by decide) (by decide), o 91 (by decide) (by decide), o 92 (by decide) (by decide), o 93 (by decide) (by decide)]
  refine ⟨e1, e2, ⟨h3, fun j hj hc => ?_, fun j hj => ?_, h6⟩, fun j hj => ?_, h8⟩
  · have ne : ¬ j = i := fun e => hn (e ▸ hc)
    rw [o14, if_neg ne]
    exact h4 j hj hc
  · rw [o14]
    by_cases e : j = i
    · rw [if_pos e]
      obtain ⟨b0, b1, b2, b3, b4⟩ := h5 j hj
      exact ⟨b0, b1, hb, b3, fun q => hz (e ▸ q)⟩
    · rw [if_neg e]
      exact h5 j hj
  · rw [o14, o90]
    by_cases e : j = i
    · rw [if_pos e, if_pos e]
      obtain ⟨b0, b1, b2, b3⟩ := h7 j hj
      exact ⟨b0, b1, rfl, b3⟩
    · rw [if_neg e, if_neg e]
      exact h7 j hj
theorem J_fleetc.put15 {M : v_M} {np nm i : Nat} {v : Int32} (h : J_fleetc M np nm) (hi : i < 480) (hn : ¬ (24 * nm ≤ i ∨ np ≤ i % 24)) (hb : v_bt v 0 999) : J_fleetc (v_wr (v_wr M 15 i v) 91 i v) np nm ∧ v_fr [15, 91] [] M (v_wr (v_wr M 15 i v) 91 i v) := by
  refine ⟨?_, v_frw (by decide) (v_frw (by decide) v_frR)⟩
  obtain ⟨e1, e2, ⟨h3, h4, h5, h6⟩, h7, h8⟩ := h
  have o : ∀ k, k ≠ 15 → k ≠ 91 → (v_wr (v_wr M 15 i v) 91 i v).1 k = M.1 k := fun k a b => by rw [v_wr_n b, v_wr_n a]
  have o15 : ∀ j, (v_wr (v_wr M 15 i v) 91 i v).1 15 j = if j = i then v else M.1 15 j := fun j => by rw [v_rdn (by decide), v_rd]; simp
  have o91 : ∀ j, (v_wr (v_wr M 15 i v) 91 i v).1 91 j = if j = i then v else M.1 91 j := fun j => by rw [v_rd, v_rdn (by decide)]; simp
  generalize v_wr (v_wr M 15 i v) 91 i v = A at o o15 o91
  unfold J_fleetc
  rw [o 11 (by decide) (by decide), o 79 (by decide) (by decide), o 12 (by decide) (by decide), o 13 (by decide) (by decide), o 14 (by decide) (by decide), o 16 (by decide) (by decide), o 17 (by decide) (by decide), o 88 (by decide) (by decide), o 89 (by decide) (by decide), o 90 (by decide) (by decide), o 92 (by decide) (by decide), o 93 (by decide) (by decide)]
  refine ⟨e1, e2, ⟨h3, fun j hj hc => ?_, fun j hj => ?_, h6⟩, fun j hj => ?_, h8⟩
  · have ne : ¬ j = i := fun e => hn (e ▸ hc)
    rw [o15, if_neg ne]
    exact h4 j hj hc
  · rw [o15]
    by_cases e : j = i
    · rw [if_pos e]
      obtain ⟨b0, b1, b2, b3, b4⟩ := h5 j hj
      exact ⟨b0, b1, b2, hb, b4⟩
    · rw [if_neg e]
      exact h5 j hj
  · rw [o15, o91]
    by_cases e : j = i
    · rw [if_pos e, if_pos e]
      obtain ⟨b0, b1, b2, b3⟩ := h7 j hj
      exact ⟨b0, b1, b2, rfl⟩
    · rw [if_neg e, if_neg e]
      exact h7 j hj
theorem st_turn (N : Nat) (x1 x2 x3 x4 : Int32) {M : v_M} {np nm : Nat} (hd : J_drawc M np) (h : J_fleetc M np nm) : ∃ (r : Int32) (M1 M2 : v_M), f_X11_turn N x1 x2 x3 x4 M = some (r, M1) ∧ f_X12_turn N x1 x2 x3 x4 M1 = some (r, M2) ∧ J_fleetc M2 np nm ∧ v_fr [12, 13, 88, 89] [] M M2 := by
  obtain ⟨e1, e2, ⟨h3, h4, h5, h6⟩, h7, h8⟩ := id h
  obtain ⟨hc, d1, d2, -, -⟩ := hd
  unfold f_X11_turn f_X12_turn
  simp only [e_isMachine, e_isPart, l_0, l_1, e_in2, Option.bind_some]
  by_cases a : (0 ≤ x1 ∧ x1 ≤ M.1 11 0 - 1) ∧ (0 ≤ x2 ∧ x2 ≤ M.1 1 0 - 1)
  · rw [(e_hasPartOf N x1 x2 M).1 a]
    have a1 := a.1
    have a2 := a.2
    rw [e1] at a1
    rw [d1] at a2
    simp only [Option.bind_some, e_within]
    rw [if_neg (show ¬ (1 : Int32) = 0 by decide)]
    obtain ⟨m, hm, rfl⟩ := i_idx (by omega) a1
    obtain ⟨p, hp, rfl⟩ := i_idx (by omega) a2
    have hn : ¬ (24 * nm ≤ 24 * m + p ∨ np ≤ (24 * m + p) % 24) := by omega
    have hi : 24 * m + p < 480 := by omega
    have ib := v_ibN hi (show 480 < 2 ^ 31 by omega)
    have cl := nI_clamp (show 24 * m + p < 2 ^ 31 by omega)
    have t99 : (99 : Int32).toInt = 99 := rfl
    have tm99 : (-99 : Int32).toInt = -99 := rfl
    unfold f_X11_turn_L46
    simp only [e_within, Option.bind_some, e_spot, nI_spot, e_swap N 12 hi (show 480 < 2 ^ 31 by omega), e_swap N 13 hi (show 480 < 2 ^ 31 by omega)]
    by_cases w0 : x3 = 0
    · subst w0
      rw [if_pos rfl, if_neg (show ¬ (0 : Int32) = 1 by decide)]
      by_cases b : 0 ≤ x4 ∧ x4 ≤ 99
      · rw [v_wiTe b]
        have b' : v_bt x4 0 99 := by have u := i_le.mp b.1; have v := i_le.mp b.2; rw [i0] at u; rw [t99] at v; exact ⟨u, v⟩
        obtain ⟨g1, g2⟩ := h.put12 hi hn b'
        refine ⟨M.1 12 (24 * m + p), v_wr M 12 (24 * m + p) x4, _, rfl, ?_, g1, v_frt (W := [12, 13, 88, 89]) (O := []) (by decide) (by decide) v_frR g2⟩
        simp only [v_rdn, ne_eq, Nat.reduceEqDiff, not_false_eq_true, e2, d2]
        rw [v_wiTe a1, v_wiTe a2, v_wiTe (show (0 : Int32) ≤ 0 ∧ (0 : Int32) ≤ 1 by decide)]
        first | rw [if_pos rfl] | rw [if_pos trivial]
        unfold f_X12_turn_L40 f_X12_turn_L82
        simp only [l_99, e_in2, Option.bind_some, v_letE, nI_spot']
        rw [v_wiTe b]
        first | rw [if_pos rfl] | rw [if_pos trivial]
        first | rw [if_pos rfl] | rw [if_pos trivial]
        simp only [ib, v_ckT, cl, v_rdn, ne_eq, Nat.reduceEqDiff, not_false_eq_true, (h7 (24 * m + p) (by omega)).1]
      · rw [v_wiFe b]
        refine ⟨-1000, M, M, rfl, ?_, h, v_frR⟩
        rw [e2, d2, v_wiTe a1, v_wiTe a2, v_wiTe (show (0 : Int32) ≤ 0 ∧ (0 : Int32) ≤ 1 by decide), if_pos rfl]
        unfold f_X12_turn_L40
        simp only [l_99, e_in2, Option.bind_some]
        rw [v_wiFe b]
    · rw [if_neg w0]
      by_cases w1 : x3 = 1
      · subst w1
        rw [if_pos rfl]
        by_cases b : -99 ≤ x4 ∧ x4 ≤ 99
        · rw [v_wiTe b]
          have b' : v_bt x4 (-99) 99 := by have u := i_le.mp b.1; have v := i_le.mp b.2; rw [tm99] at u; rw [t99] at v; exact ⟨u, v⟩
          obtain ⟨g1, g2⟩ := h.put13 hi hn b'
          refine ⟨M.1 13 (24 * m + p), v_wr M 13 (24 * m + p) x4, _, rfl, ?_, g1, v_frt (W := [12, 13, 88, 89]) (O := []) (by decide) (by decide) v_frR g2⟩
          simp only [v_rdn, ne_eq, Nat.reduceEqDiff, not_false_eq_true, e2, d2]
          rw [v_wiTe a1, v_wiTe a2, v_wiTe (show (0 : Int32) ≤ 1 ∧ (1 : Int32) ≤ 1 by decide), if_neg w0]
          rw [l_m99]
          unfold f_X12_turn_L40 f_X12_turn_L82
          simp only [l_99, e_in2, Option.bind_some, v_letE, nI_spot']
          rw [v_wiTe b, if_neg w0, if_neg w0]
          simp only [ib, v_ckT, cl, v_rdn, ne_eq, Nat.reduceEqDiff, not_false_eq_true, (h7 (24 * m + p) (by omega)).2.1]
        · rw [v_wiFe b]
          refine ⟨-1000, M, M, rfl, ?_, h, v_frR⟩
          rw [e2, d2, v_wiTe a1, v_wiTe a2, v_wiTe (show (0 : Int32) ≤ 1 ∧ (1 : Int32) ≤ 1 by decide), if_neg w0]
          rw [l_m99]
          unfold f_X12_turn_L40
          simp only [l_99, e_in2, Option.bind_some]
          rw [v_wiFe b]
      · rw [if_neg w1]
        refine ⟨-1000, M, M, rfl, ?_, h, v_frR⟩
        have nw : ¬ (0 ≤ x3 ∧ x3 ≤ 1) := fun q => by
          have u := i_le.mp q.1
          have v := i_le.mp q.2
          rw [i0] at u; rw [i1] at v
          rcases (by omega : x3.toInt = 0 ∨ x3.toInt = 1) with k | k
          · exact w0 (i_eq.mpr (by rw [k, i0]))
          · exact w1 (i_eq.mpr (by rw [k, i1]))
        rw [e2, d2, v_wiTe a1, v_wiTe a2, v_wiFe nw]
  · rw [(e_hasPartOf N x1 x2 M).2 a]
    simp only [Option.bind_some]
    refine ⟨-1000, M, M, rfl, ?_, h, v_frR⟩
    rw [e2, d2]
    rw [e1, d1] at a
    by_cases a1 : 0 ≤ x1 ∧ x1 ≤ nI nm - 1
    · rw [v_wiTe a1, v_wiFe (fun q => a ⟨a1, q⟩)]
    · rw [v_wiFe a1]
theorem st_anew (N : Nat) (x1 x2 : Int32) {M : v_M} {np nm : Nat} (hd : J_drawc M np) (h : J_fleetc M np nm) : ∃ (r : Int32) (M1 M2 : v_M), f_X11_anew N x1 x2 M = some (r, M1) ∧ f_X12_anew N x1 x2 M1 = some (r, M2) ∧ J_fleetc M2 np nm ∧ v_fr [14, 90] [] M M2 := by
  obtain ⟨e1, e2, ⟨h3, h4, h5, h6⟩, h7, h8⟩ := id h
  obtain ⟨hc, d1, d2, dp, -⟩ := hd
  unfold f_X11_anew f_X12_anew
  simp only [e_isMachine, e_isPart, Option.bind_some]
  by_cases a : (0 ≤ x1 ∧ x1 ≤ M.1 11 0 - 1) ∧ (0 ≤ x2 ∧ x2 ≤ M.1 1 0 - 1)
  · rw [(e_hasPartOf N x1 x2 M).1 a]
    have a1 := a.1
    have a2 := a.2
    rw [e1] at a1
    rw [d1] at a2
    simp only [Option.bind_some]
    rw [if_neg (show ¬ (1 : Int32) = 0 by decide)]
    obtain ⟨m, hm, rfl⟩ := i_idx (by omega) a1
    obtain ⟨p, hp, rfl⟩ := i_idx (by omega) a2
    have hn : ¬ (24 * nm ≤ 24 * m + p ∨ np ≤ (24 * m + p) % 24) := by omega
    have hi : 24 * m + p < 480 := by omega
    have ib := v_ibN hi (show 480 < 2 ^ 31 by omega)
    have cl := nI_clamp (show 24 * m + p < 2 ^ 31 by omega)
    have ib2 := v_ibN (show p < 24 by omega) (show 24 < 2 ^ 31 by omega)
    have cl2 := nI_clamp (show p < 2 ^ 31 by omega)
    simp only [e_spot, nI_spot, Option.bind_some, e_swap N 14 hi (show 480 < 2 ^ 31 by omega), ib2, cl2, v_ckT]
    by_cases k1 : M.1 2 p = 1
    · rw [if_pos k1]
      obtain ⟨g1, g2⟩ := h.put14 (v := 0) hi hn ⟨by decide, by decide⟩ (fun _ => rfl)
      refine ⟨M.1 14 (24 * m + p), v_wr M 14 (24 * m + p) 0, _, rfl, ?_, g1, g2⟩
      simp only [v_rdn, ne_eq, Nat.reduceEqDiff, not_false_eq_true, e2, d2]
      rw [v_wiTe a1, v_wiTe a2, (dp p hp).1.1, if_pos k1]
      simp only [nI_spot', ib, v_ckT, cl, v_letE, v_rdn, ne_eq, Nat.reduceEqDiff, not_false_eq_true, (h7 (24 * m + p) (by omega)).2.2.1]
    · rw [if_neg k1]
      refine ⟨-1, M, M, rfl, ?_, h, v_frR⟩
      rw [e2, d2, v_wiTe a1, v_wiTe a2, (dp p hp).1.1, if_neg k1]
  · rw [(e_hasPartOf N x1 x2 M).2 a]
    simp only [Option.bind_some]
    refine ⟨-1, M, M, rfl, ?_, h, v_frR⟩
    rw [e2, d2]
    rw [e1, d1] at a
    by_cases a1 : 0 ≤ x1 ∧ x1 ≤ nI nm - 1
    · rw [v_wiTe a1, v_wiFe (fun q => a ⟨a1, q⟩)]
    · rw [v_wiFe a1]
