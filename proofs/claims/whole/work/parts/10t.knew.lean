theorem st_knew {N : Nat} (hN : 100 ≤ N) (x1 x2 : Int32) {M : v_M} {nm n : Nat} (ht : J_time M) (h : J_papc M nm n) : ∃ (r : Int32) (M1 M2 : v_M), f_X11_knew N x1 x2 M = some (r, M1) ∧ f_X12_knew N x1 x2 M1 = some (r, M2) ∧ v_fr [74, 144] [] M M2 := by
  obtain ⟨d, hd, t1, t2⟩ := ht
  obtain ⟨hn, e1, e2, hp, hr⟩ := id h
  unfold f_X11_knew f_X12_knew
  simp only [l_0, l_15, e_within, e_in2, Option.bind_some, e1]
  by_cases a1 : 0 ≤ x1 ∧ x1 ≤ 15
  rotate_left
  · rw [v_wiFe a1]
    refine ⟨-1, M, M, rfl, ?_, v_frR⟩
    rw [v_wiFe a1]
  rw [v_wiTe a1]
  by_cases a2 : 0 ≤ x2 ∧ x2 ≤ nI n - 1
  rotate_left
  · rw [v_wiFe a2]
    refine ⟨-1, M, M, rfl, ?_, v_frR⟩
    rw [v_wiTe a1, e2, v_wiFe a2]
  rw [v_wiTe a2]
  obtain ⟨m, hm, rfl⟩ := i_idx (c := 16) (by omega) (show 0 ≤ x1 ∧ x1 ≤ nI 16 - 1 from a1)
  obtain ⟨k, hk, rfl⟩ := i_idx (by omega) a2
  have rr : ∀ i, i < n → ∃ q : Nat, q ≤ 10000 ∧ M.1 76 (30 * m + i) = nI q ∧ M.1 143 (30 * m + i) = enc q := fun i hi => by
    rcases hr (30 * m + i) (by omega) with ⟨w1, w2⟩ | ⟨q, hq, w1, w2⟩
    · exact ⟨10000, by omega, w1, w2⟩
    · exact ⟨q, by omega, w1, by rw [enc_n (by omega)]; exact w2⟩
  have rr' : ∀ i, ∃ q : Nat, i < n → q ≤ 10000 ∧ M.1 76 (30 * m + i) = nI q ∧ M.1 143 (30 * m + i) = enc q := fun i => by
    by_cases hi : i < n
    · obtain ⟨q, hq⟩ := rr i hi; exact ⟨q, fun _ => hq⟩
    · exact ⟨0, fun z => absurd z hi⟩
  obtain ⟨r, hrr⟩ := Classical.axiomOfChoice rr'
  obtain ⟨A, p1, p2, p3⟩ := e_know1 hN (man := m) (n := n) (nds := M.1 75) (r := r) (by omega) hn n 0 N M (by omega) (by omega) e1 (fun i _ => rfl) (fun i hi => ⟨(hrr i hi).2.1, (hrr i hi).1⟩) (fun i hi => absurd hi (by omega))
  obtain ⟨B, q1, q2, q3⟩ := e_know2 hN (man := m) (n := n) (nds := M.1 75) (r := r) (by omega) hn n 0 N A (by omega) (by omega) (by rw [v_keepC p2 79 80 (by decide), e2]) (fun i hi => by rw [v_keepR p2 142 (by decide)]; exact (hp i hi).1.2.2) (fun i hi => by rw [v_keepR p2 143 (by decide)]; exact ⟨(hrr i hi).2.2, (hrr i hi).1⟩) (fun i hi => absurd hi (by omega))
  have gl : kgr (M.1 75) r n k ≤ 10000 := kgr_le _ n (fun i hi => (hrr i hi).1) k
  have g1 : f_X6_gatherKnowing N (nI m) M = some (0, A) := by
    unfold f_X6_gatherKnowing
    simp only [e_within, Option.bind_some]
    rw [v_wiTe a1]
    exact p1
  have g2 : f_X12_knows N (nI m) A = some (0, B) := by unfold f_X12_knows; exact q1
  have ib := v_ibN (show k < 30 by omega) (show 30 < 2 ^ 31 by omega)
  have cl := nI_clamp (show k < 2 ^ 31 by omega)
  have fr : v_fr [74, 144] [] M B := v_frT (v_frt (W := [74, 144]) (O := []) (by decide) (by decide) v_frR p2) (v_frt (W := [74, 144]) (O := []) (by decide) (by decide) v_frR q2)
  refine ⟨if nI d < nI (kgr (M.1 75) r n k) then -2 else nI (kgr (M.1 75) r n k), A, B, ?_, ?_, fr⟩
  · rw [g1]
    simp only [Option.bind_some, ib, cl, v_ckT, v_letE, p3 k hk, v_keepC p2 0 0 (by decide), t1]
    by_cases z : nI d < nI (kgr (M.1 75) r n k)
    · rw [if_pos z, if_pos z]
    · rw [if_neg z, if_neg z]
  · rw [v_wiTe a1, v_keepC p2 79 80 (by decide), e2, v_wiTe a2, g2]
    simp only [Option.bind_some, ib, cl, v_ckT, q3 k hk, v_keepC fr 79 1 (by decide), t2]
    by_cases y : kgr (M.1 75) r n k = 10000
    · rw [if_pos ((enc_m1 gl).mpr y), y, if_pos (nI_lt (by omega) (by omega))]
    · rw [if_neg (fun z => y ((enc_m1 gl).mp z)), enc_n y]
      by_cases z : d < kgr (M.1 75) r n k
      · rw [if_pos (nI_lt z (by omega)), if_neg (nI_ge z (by omega))]
      · rw [if_neg (nI_nlt (by omega) (by omega)), if_pos (nI_le (by omega) (by omega))]
