/-! release, count -/
theorem e_fill2 (N r n0 : Nat) (v : Int32) {i n : Nat} (hi : i ≤ n) (hn : n ≤ n0) (h0 : n0 < 2 ^ 31) (hN : n - i < N) (M : v_M) : ∃ M' : v_M, f_J7_fill_fda19 N r n0 (nI i) (nI n) v M = some (0, M') ∧ v_fr [r] [] M M' ∧ ∀ j, M'.1 r j = if i ≤ j ∧ j < n then v else M.1 r j := by
  unfold f_J7_fill_fda19 f_J7_rangeCheck_23922
  rw [if_pos (nI_le hi (by omega)), if_pos (nI_pos' (by omega)), if_pos (show nI n ≤ Int32.ofNat n0 from nI_le hn h0)]
  exact e_fillR N r n0 v hn h0 N i M hi hN
theorem e_rel (N : Nat) {m : Nat} (hm : m < 20) : ∀ (f p : Nat) (M : v_M), p ≤ 24 → 24 - p < f → ∃ M' : v_M, f_X12_release_L12 N f (nI m) (nI p) M = some (1, M') ∧ v_fr [91] [] M M' ∧ ∀ j, M'.1 91 j = if 24 * m + p ≤ j ∧ j < 24 * m + 24 then 0 else M.1 91 j := by
  intro f
  induction f with
  | zero => intro p M _ h; omega
  | succ f ih =>
    intro p M hp hf
    unfold f_X12_release_L12
    by_cases c : p = 24
    · subst c
      rw [if_pos (show (24 : Int32) ≤ nI 24 by decide)]
      exact ⟨M, rfl, v_frR, fun j => by rw [if_neg (by omega)]⟩
    · rw [if_neg (show ¬ (24 : Int32) ≤ nI p from nI_ge (b := 24) (by omega) (by omega))]
      obtain ⟨M', g1, g2, g3⟩ := ih (p + 1) (v_wr M 91 (24 * m + p) 0) (by omega) (by omega)
      refine ⟨M', ?_, v_frT (v_frw (List.mem_singleton.mpr rfl) v_frR) g2, fun j => ?_⟩
      · simp only [nI_spot', v_ibN (show 24 * m + p < 480 by omega) (show 480 < 2 ^ 31 by omega), v_ckT, v_letE, nI_clamp (show 24 * m + p < 2 ^ 31 by omega), nI_1]
        exact g1
      · rw [g3, v_rd]
        by_cases q : j = 24 * m + p
        · subst q
          rw [if_neg (by omega), if_pos ⟨rfl, rfl⟩, if_pos (by omega)]
        · rw [if_neg (show ¬ (91 = 91 ∧ j = 24 * m + p) from fun z => q z.2)]
          by_cases w : 24 * m + (p + 1) ≤ j ∧ j < 24 * m + 24
          · rw [if_pos w, if_pos (by omega)]
          · rw [if_neg w, if_neg (by omega)]
theorem st_release {N : Nat} (hN : 1000 ≤ N) (x : Int32) {M : v_M} {np nm : Nat} (h : J_fleetc M np nm) : ∃ (r : Int32) (M1 M2 : v_M), f_X11_release N x M = some (r, M1) ∧ f_X12_release N x M1 = some (r, M2) ∧ J_fleetc M2 np nm ∧ v_fr [15, 91] [] M M2 := by
  obtain ⟨e1, e2, ⟨h3, h4, h5, h6⟩, h7, h8⟩ := id h
  unfold f_X11_release f_X12_release
  simp only [e_hasMachine, e_isMachine, Option.bind_some, e1, v_b0, v_b1, v_ckT]
  by_cases a : 0 ≤ x ∧ x ≤ nI nm - 1
  rotate_left
  · rw [v_wiFe a]
    refine ⟨0, M, M, rfl, ?_, h, v_frR⟩
    rw [e2, v_wiFe a]
  rw [v_wiTe a]
  obtain ⟨m, hm, rfl⟩ := i_idx (by omega) a
  obtain ⟨A, g1, g2, g3⟩ := e_fill2 N 15 480 0 (i := 24 * m) (n := 24 * m + 24) (by omega) (by omega) (by omega) (by omega) M
  obtain ⟨B, k1, k2, k3⟩ := e_rel N (show m < 20 by omega) N 0 A (by omega) (by omega)
  have sA : nI m * 24 + 0 = nI (24 * m) := nI_spot m 0
  have sB : nI (m + 1) * 24 + 0 = nI (24 * m + 24) := nI_spot (m + 1) 0
  refine ⟨1, A, B, ?_, ?_, ?_, ?_⟩
  · unfold f_X4_letGo
    simp only [e_within, Option.bind_some, e1, e_spot, nI_1, sA, sB]
    rw [v_wiTe a, g1]
    rfl
  · rw [v_keepC g2 79 3 (by decide), e2, v_wiTe a]
    exact k1
  · have o : ∀ k, k ≠ 15 → k ≠ 91 → B.1 k = M.1 k := fun k c d => by
      rw [v_keepR k2 k (by simpa using d), v_keepR g2 k (by simpa using c)]
    have o15 : ∀ j, B.1 15 j = if 24 * m ≤ j ∧ j < 24 * m + 24 then 0 else M.1 15 j := fun j => by rw [v_keepR k2 15 (by decide), g3]
    have o91 : ∀ j, B.1 91 j = if 24 * m ≤ j ∧ j < 24 * m + 24 then 0 else M.1 91 j := fun j => by rw [k3, v_keepR g2 91 (by decide)]; rfl
    unfold J_fleetc
    rw [o 11 (by decide) (by decide), o 79 (by decide) (by decide), o 12 (by decide) (by decide), o 13 (by decide) (by decide), o 14 (by decide) (by decide), o 16 (by decide) (by decide), o 17 (by decide) (by decide), o 88 (by decide) (by decide), o 89 (by decide) (by decide), o 90 (by decide) (by decide), o 92 (by decide) (by decide), o 93 (by decide) (by decide)]
    refine ⟨e1, e2, ⟨h3, fun j hj hc => ?_, fun j hj => ?_, h6⟩, fun j hj => ?_, h8⟩
    · obtain ⟨z1, z2, z3, z4⟩ := h4 j hj hc
      refine ⟨z1, z2, z3, ?_⟩
      rw [o15, z4, ite_self]
    · obtain ⟨b0, b1, b2, b3, b4⟩ := h5 j hj
      refine ⟨b0, b1, b2, ?_, b4⟩
      rw [o15]
      by_cases q : 24 * m ≤ j ∧ j < 24 * m + 24
      · rw [if_pos q]; exact ⟨by decide, by decide⟩
      · rw [if_neg q]; exact b3
    · obtain ⟨b0, b1, b2, b3⟩ := h7 j hj
      refine ⟨b0, b1, b2, ?_⟩
      rw [o15, o91, b3]
  · exact v_frt (W := [15, 91]) (O := []) (by decide) (by decide) (v_frt (W := [15, 91]) (O := []) (by decide) (by decide) v_frR g2) k2
theorem st_count (N : Nat) (x : Int32) {M : v_M} (h0 : M.1 79 1 = M.1 0 0) (h1 : M.1 79 2 = M.1 1 0) (h2 : M.1 79 3 = M.1 11 0) (h3 : M.1 79 25 = M.1 29 0) (h4 : M.1 79 35 = M.1 0 1) (h5 : M.1 79 60 = M.1 52 0) (h6 : M.1 79 61 = M.1 52 9) (h7 : M.1 79 80 = M.1 71 0) (h8 : M.1 79 32 = M.1 36 0) : ∃ r : Int32, f_X11_count N x M = some (r, M) ∧ f_X12_count N x M = some (r, M) := by
  unfold f_X11_count f_X12_count
  rw [h0, h1, h2, h3, h4, h5, h6, h7, h8]
  refine Exists.imp (fun r hr => ⟨hr, hr⟩) ?_
  by_cases c0 : x = 0
  · rw [if_pos c0]; exact ⟨_, rfl⟩
  rw [if_neg c0]
  by_cases c1 : x = 1
  · rw [if_pos c1]; exact ⟨_, rfl⟩
  rw [if_neg c1]
  by_cases c2 : x = 2
  · rw [if_pos c2]; exact ⟨_, rfl⟩
  rw [if_neg c2]
  by_cases c3 : x = 3
  · rw [if_pos c3]; exact ⟨_, rfl⟩
  rw [if_neg c3]
  by_cases c4 : x = 4
  · rw [if_pos c4]; exact ⟨_, rfl⟩
  rw [if_neg c4]
  by_cases c5 : x = 5
  · rw [if_pos c5]; exact ⟨_, rfl⟩
  rw [if_neg c5]
  by_cases c6 : x = 6
  · rw [if_pos c6]; exact ⟨_, rfl⟩
  rw [if_neg c6]
  by_cases c7 : x = 7
  · rw [if_pos c7]; exact ⟨_, rfl⟩
  rw [if_neg c7]
  by_cases c8 : x = 8
  · rw [if_pos c8]; exact ⟨_, rfl⟩
  rw [if_neg c8]; exact ⟨_, rfl⟩
