theorem st_fly {N : Nat} (hN : 100 ≤ N) (x1 x2 : Int32) {M : v_M} {np nm : Nat} (hd : J_drawc M np) (h : J_fleetc M np nm) : ∃ (r : Int32) (M1 M2 : v_M), f_X11_fly N x1 x2 M = some (r, M1) ∧ f_X12_fly N x1 x2 M1 = some (r, M2) ∧ J_fleetc M2 np nm ∧ v_fr [12, 16, 88, 92] [] M M2 := by
  obtain ⟨e1, e2, ⟨h3, h4, h5, h6⟩, h7, h8⟩ := id h
  obtain ⟨hc, d1, d2, dp, -⟩ := hd
  unfold f_X11_fly f_X12_fly
  simp only [e_hasMachine, e_within, e_isMachine, l_0, l_9999, e_in2, Option.bind_some, e1]
  by_cases a1 : 0 ≤ x1 ∧ x1 ≤ nI nm - 1
  rotate_left
  · rw [v_wiFe a1]
    refine ⟨-1, M, M, rfl, ?_, h, v_frR⟩
    rw [e2, v_wiFe a1]
  rw [v_wiTe a1]
  by_cases a2 : 0 ≤ x2 ∧ x2 ≤ 9999
  rotate_left
  · rw [v_wiFe a2]
    refine ⟨-1, M, M, rfl, ?_, h, v_frR⟩
    rw [e2, v_wiTe a1, v_wiFe a2]
  rw [v_wiTe a2]
  obtain ⟨m, hm, rfl⟩ := i_idx (by omega) a1
  obtain ⟨n, hn, rfl⟩ := i_idx (c := 10000) (by omega) (show 0 ≤ x2 ∧ x2 ≤ nI 10000 - 1 from a2)
  obtain ⟨a, ha, ea⟩ : ∃ a : Nat, a ≤ 999999 ∧ M.1 16 m = nI a := by
    obtain ⟨q1, q2⟩ := v_btN (n := 999999) (h6 m (by omega)).2
    exact ⟨_, q2, q1⟩
  let b : Nat := min (a + n) 999999
  have hab : a ≤ b := by show a ≤ min (a + n) 999999; omega
  have hb : b ≤ 999999 := by show min (a + n) 999999 ≤ 999999; omega
  have eb : v_mn (nI a + nI n) 999999 = nI b := by
    show v_mn (nI a + nI n) 999999 = nI (min (a + n) 999999)
    unfold v_mn
    rw [nI_add]
    by_cases q : 999999 < a + n
    · rw [if_pos (show (999999 : Int32) < nI (a + n) from nI_lt (a := 999999) q (by omega)), Nat.min_eq_right (by omega)]; rfl
    · rw [if_neg (show ¬ (999999 : Int32) < nI (a + n) from nI_nlt (a := 999999) (by omega) (by omega)), Nat.min_eq_left (by omega)]
  have ibm := v_ibN (show m < 20 by omega) (show 20 < 2 ^ 31 by omega)
  have clm := nI_clamp (show m < 2 ^ 31 by omega)
  obtain ⟨A, p1, p2, p3, p4⟩ := e_fly1 N (m := m) (np := np) (a := a) (b := b) (w := fun i => (M.1 12 (24 * m + i)).toInt.toNat) (c := fun i => (M.1 10 i).toInt.toNat) (by omega) hc hab hb N 0 M (by omega) (by omega) d1 (fun i hi => v_btN (n := 9999) (dp i hi).2.1.2.2.2.2.2.2.2) (fun i _ hi => v_btN (n := 99) (h5 (24 * m + i) (by omega)).1)
  obtain ⟨B, q1, q2, q3⟩ := e_fly2 N (m := m) (np := np) (a := a) (b := b) (w := fun i => (M.1 12 (24 * m + i)).toInt.toNat) (c := fun i => (M.1 10 i).toInt.toNat) (by omega) hc hab hb N 0 (v_wr A 92 m (nI b)) (by omega) (by omega) (by rw [v_rdn (by decide), v_keepC p2 79 2 (by decide), d2]) (by rw [v_rd, if_pos ⟨rfl, rfl⟩]) (fun i hi => by rw [v_rdn (by decide), v_keepR p2 87 (by decide), (dp i hi).1.2.2.2.2.2.2.2]; exact v_btN (n := 9999) (dp i hi).2.1.2.2.2.2.2.2.2) (fun i _ hi => by rw [v_rdn (by decide), v_keepR p2 88 (by decide), (h7 (24 * m + i) (by omega)).1]; exact v_btN (n := 99) (h5 (24 * m + i) (by omega)).1)
  have fr : v_fr [12, 16, 88, 92] [] M B := v_frT (v_frt (W := [12, 16, 88, 92]) (O := []) (by decide) (by decide) v_frR p2) (v_frT (v_frw (by decide) v_frR) (v_frt (W := [12, 16, 88, 92]) (O := []) (by decide) (by decide) v_frR q2))
  refine ⟨nI b, A, B, ?_, ?_, ?_, fr⟩
  · unfold f_X4_addFlights
    simp only [e_within, Option.bind_some, e1]
    rw [v_wiTe a1]
    simp only [ibm, clm, v_ckT, v_letE, Nat.reduceAdd, ea, eb]
    rw [show (0 : Int32) = nI 0 from rfl, p1]
    simp only [Option.bind_some, p4]
    rw [if_pos trivial]
  · rw [v_keepC p2 79 3 (by decide), e2, v_wiTe a1, v_wiTe a2]
    simp only [ibm, clm, v_ckT, v_letE, v_keepR p2 92 (by decide), (h8 m hm).1, ea]
    have key : f_X12_fly_L52 N (nI m) (nI a) (nI b) (nI m) A = some (nI b, B) := by
      unfold f_X12_fly_L52
      simp only [ibm, clm, v_ckT, v_letE]
      exact q1
    have eb2 : (nI a + nI n ≤ 999999 → nI a + nI n = nI b) ∧ (¬ nI a + nI n ≤ 999999 → 999999 = nI b) := by
      rw [nI_add]
      refine ⟨fun q => ?_, fun q => ?_⟩
      · have q' := (nI_leI (a := a + n) (b := 999999) (by omega) (by omega)).mp q
        show nI (a + n) = nI (min (a + n) 999999)
        rw [Nat.min_eq_left q']
      · have q' : ¬ a + n ≤ 999999 := fun z => q ((nI_leI (a := a + n) (b := 999999) (by omega) (by omega)).mpr z)
        show nI 999999 = nI (min (a + n) 999999)
        rw [Nat.min_eq_right (by omega)]
    by_cases q : nI a + nI n ≤ 999999
    · rw [if_pos q, eb2.1 q]; exact key
    · rw [if_neg q, eb2.2 q]; exact key
  · have o : ∀ k ∈ [11, 79, 13, 14, 15, 17, 89, 90, 91, 93], B.1 k = M.1 k := fun k hk => v_keepR fr k (by revert k; decide)
    have o12 : ∀ j, B.1 12 j = if 24 * m + 0 ≤ j ∧ j < 24 * m + np then nI (fw (M.1 12 (24 * m + (j - 24 * m))).toInt.toNat a b (M.1 10 (j - 24 * m)).toInt.toNat) else M.1 12 j := fun j => by rw [v_keepR q2 12 (by decide), v_rdn (by decide), p3]
    have o88 : ∀ j, B.1 88 j = if 24 * m + 0 ≤ j ∧ j < 24 * m + np then nI (fw (M.1 12 (24 * m + (j - 24 * m))).toInt.toNat a b (M.1 10 (j - 24 * m)).toInt.toNat) else M.1 88 j := fun j => by rw [q3, v_rdn (by decide), v_keepR p2 88 (by decide)]
    have o16 : ∀ j, B.1 16 j = if j = m then nI b else M.1 16 j := fun j => by rw [v_keepR q2 16 (by decide), v_rdn (by decide), p4]
    have o92 : ∀ j, B.1 92 j = if j = m then nI b else M.1 92 j := fun j => by rw [v_keepR q2 92 (by decide), v_rd, v_keepR p2 92 (by decide)]; simp
    have ba : ∀ j, j < 480 → v_bt (B.1 12 j) 0 99 := fun j hj => by
      rw [o12]
      by_cases q : 24 * m + 0 ≤ j ∧ j < 24 * m + np
      · rw [if_pos q]
        exact v_Nbt (k := 99) (fw_le (v_btN (n := 99) (h5 (24 * m + (j - 24 * m)) (by omega)).1).2) (by omega)
      · rw [if_neg q]; exact (h5 j hj).1
    unfold J_fleetc
    rw [o 11 (by decide), o 79 (by decide), o 13 (by decide), o 14 (by decide), o 15 (by decide), o 17 (by decide), o 89 (by decide), o 90 (by decide), o 91 (by decide), o 93 (by decide)]
    refine ⟨e1, e2, ⟨h3, fun j hj hz => ?_, fun j hj => ⟨ba j hj, (h5 j hj).2⟩, fun k hk => ?_⟩, fun j hj => ?_, fun k hk => ?_⟩
    · rw [o12, if_neg (by omega)]; exact h4 j hj hz
    · rw [o16]
      by_cases q : k = m
      · rw [if_pos q]; exact ⟨fun z => by omega, v_Nbt (k := 999999) hb (by omega)⟩
      · rw [if_neg q]; exact h6 k hk
    · rw [o12, o88]
      by_cases q : 24 * m + 0 ≤ j ∧ j < 24 * m + np
      · rw [if_pos q, if_pos q]; exact ⟨rfl, (h7 j hj).2⟩
      · rw [if_neg q, if_neg q]; exact h7 j hj
    · rw [o16, o92]
      by_cases q : k = m
      · rw [if_pos q, if_pos q]; exact ⟨rfl, (h8 k hk).2⟩
      · rw [if_neg q, if_neg q]; exact h8 k hk
