/-! takes; become; carry -/
theorem J_fleetc.put17 {M : v_M} {np nm i : Nat} {v : Int32} (h : J_fleetc M np nm) (hi : i < nm) : J_fleetc (v_wr (v_wr M 17 i v) 93 i v) np nm := by
  obtain ⟨e1, e2, ⟨h3, h4, h5, h6⟩, h7, h8⟩ := h
  have o : ∀ k, k ≠ 17 → k ≠ 93 → (v_wr (v_wr M 17 i v) 93 i v).1 k = M.1 k := fun k a b => by rw [v_wr_n b, v_wr_n a]
  unfold J_fleetc JFa JFb
  rw [o 11 (by decide) (by decide), o 12 (by decide) (by decide), o 13 (by decide) (by decide), o 14 (by decide) (by decide), o 15 (by decide) (by decide), o 16 (by decide) (by decide), o 79 (by decide) (by decide), o 88 (by decide) (by decide), o 89 (by decide) (by decide), o 90 (by decide) (by decide), o 91 (by decide) (by decide), o 92 (by decide) (by decide)]
  refine ⟨e1, e2, ⟨h3, h4, h5, fun m hm => ⟨fun z => ?_, (h6 m hm).2⟩⟩, h7, fun m hm => ?_⟩
  · rw [v_rdn (by decide), v_rd, if_neg (fun y => by omega)]
    exact (h6 m hm).1 z
  · simp only [v_rd, Nat.reduceEqDiff, false_and, if_false, true_and]
    by_cases q : m = i
    · rw [if_pos q, if_pos q]
      exact ⟨(h8 m hm).1, rfl⟩
    · rw [if_neg q, if_neg q]
      exact h8 m hm
theorem st_takes (N : Nat) {P : v_P} (x1 x2 x3 : Int32) {M : v_M} {np nm no : Nat} (hf : J_fleetc M np nm) (h12 : no ≤ 12) (o1 : M.1 0 1 = nI no) (o2 : M.1 79 35 = nI no) (ho : ∀ o, o < no → ∃ q : Nat, P 48 o = some q ∧ M.1 110 o = M.1 q 0) : ∃ (r : Int32) (M1 M2 : v_M), f_X11_takes N P x1 x2 x3 M = some (r, M1) ∧ f_X12_takes__ N x1 x2 x3 M1 = some (r, M2) ∧ J_fleetc M2 np nm ∧ v_fr [17, 93] [] M M2 := by
  have f1 := hf.1
  have f2 := hf.2.1
  have h20 : nm ≤ 20 := hf.2.2.1.1
  unfold f_X11_takes f_X12_takes__
  simp only [e_hasMachine, e_isMachine, e_within, l_0, e_in2, Option.bind_some, f1, o1, v_b0, v_b1, v_ckT]
  by_cases a1 : 0 ≤ x1 ∧ x1 ≤ nI nm - 1
  rotate_left
  · rw [v_wiFe a1]
    refine ⟨_, M, M, rfl, ?_, hf, v_frR⟩
    rw [f2, v_wiFe a1]
  rw [v_wiTe a1]
  by_cases a2 : 0 ≤ x2 ∧ x2 ≤ nI no - 1
  rotate_left
  · rw [v_wiFe a2]
    refine ⟨_, M, M, rfl, ?_, hf, v_frR⟩
    rw [f2, o2, v_wiTe a1, v_wiFe a2]
  rw [v_wiTe a2]
  obtain ⟨m, hm, rfl⟩ := i_idx (by omega) a1
  obtain ⟨o, hoo, rfl⟩ := i_idx (by omega) a2
  obtain ⟨q, q1, q2⟩ := ho o hoo
  simp only [v_ibN (show o < 12 by omega) (show 12 < 2 ^ 31 by omega), nI_clamp (show o < 2 ^ 31 by omega), v_ckT, q1, v_opt]
  by_cases c : M.1 q 0 = 1
  rotate_left
  · rw [if_neg c]
    refine ⟨_, M, M, rfl, ?_, hf, v_frR⟩
    rw [f2, o2, v_wiTe a1, v_wiTe a2, q2, if_neg c]
  rw [if_pos c]
  unfold f_X4_hasTaken f_X12_takes___L53
  simp only [e_within, Option.bind_some, f1, v_b0, v_b1, v_ckT, v_ibN (show m < 20 by omega) (show 20 < 2 ^ 31 by omega), nI_clamp (show m < 2 ^ 31 by omega), Nat.reduceAdd, v_letE]
  rw [v_wiTe a1]
  have eq := (hf.2.2.2.2 m hm).2
  have key : ∀ b : Int32, ∃ (r : Int32) (M1 M2 : v_M), (if b = x3 then some ((0 : Int32), M) else some (1, v_wr M 17 m (M.1 17 m ^^^ (1 : Int32) <<< (nI o &&& 31)))) = some (r, M1) ∧ (if b = x3 then some ((0 : Int32), M1) else some (1, v_wr M1 93 m (M1.1 93 m ^^^ (1 : Int32) <<< (nI o &&& 31)))) = some (r, M2) ∧ J_fleetc M2 np nm ∧ v_fr [17, 93] [] M M2 ∧ v_fr [17, 93] [] M M1 ∧ M1.1 93 = M.1 93 := fun b => by
    by_cases z : b = x3
    · exact ⟨0, M, M, by rw [if_pos z], by rw [if_pos z], hf, v_frR, v_frR, rfl⟩
    · refine ⟨1, v_wr M 17 m (M.1 17 m ^^^ (1 : Int32) <<< (nI o &&& 31)), v_wr (v_wr M 17 m (M.1 17 m ^^^ (1 : Int32) <<< (nI o &&& 31))) 93 m (M.1 17 m ^^^ (1 : Int32) <<< (nI o &&& 31)), by rw [if_neg z], ?_, hf.put17 hm, v_frw (by decide) (v_frw (by decide) v_frR), v_frw (by decide) v_frR, by rw [v_wr_n (by decide)]⟩
      rw [if_neg z, v_rdn (by decide), eq]
  by_cases y : (M.1 17 m >>> (nI o &&& 31)) &&& 1 = 1
  · rw [if_pos y]
    obtain ⟨r, M1, M2, k1, k2, k3, k4, k5, k6⟩ := key 1
    refine ⟨r, M1, M2, k1, ?_, k3, k4⟩
    rw [v_keepR k5 79 (by decide), v_keepR k5 110 (by decide), k6, f2, o2, v_wiTe a1, v_wiTe a2, q2, if_pos c, eq, if_pos y]
    rw [k6, eq] at k2
    exact k2
  · rw [if_neg y]
    obtain ⟨r, M1, M2, k1, k2, k3, k4, k5, k6⟩ := key 0
    refine ⟨r, M1, M2, k1, ?_, k3, k4⟩
    rw [v_keepR k5 79 (by decide), v_keepR k5 110 (by decide), k6, f2, o2, v_wiTe a1, v_wiTe a2, q2, if_pos c, eq, if_neg y]
    rw [k6, eq] at k2
    exact k2
theorem e_become (N q0 q1 : Nat) (h : q1 + 6 < q0 ∨ q0 + 6 < q1) (M : v_M) : ∃ M' : v_M, f_X4_become N q0 q1 M = some (0, M') ∧ M'.1 q0 0 = M.1 q1 0 ∧ (∀ i, i < 480 → M'.1 (q0 + 1) i = M.1 (q1 + 1) i ∧ M'.1 (q0 + 2) i = M.1 (q1 + 2) i ∧ M'.1 (q0 + 3) i = M.1 (q1 + 3) i ∧ M'.1 (q0 + 4) i = M.1 (q1 + 4) i) ∧ (∀ i, i < 20 → M'.1 (q0 + 5) i = M.1 (q1 + 5) i ∧ M'.1 (q0 + 6) i = M.1 (q1 + 6) i) ∧ (∀ k, k < q0 ∨ q0 + 6 < k → M'.1 k = M.1 k) ∧ M'.2 = M.2 ∧ ∀ j, j ≠ 0 → M'.1 q0 j = M.1 q0 j := by
  have c1 : v_cpk (0 : Int32) (0 : Int32) (480 : Int32) 480 480 = true := cpkT (a := 0) (b := 0) (n := 480) (by omega) (by omega) (by omega) (by omega)
  have c2 : v_cpk (0 : Int32) (0 : Int32) (20 : Int32) 20 20 = true := cpkT (a := 0) (b := 0) (n := 20) (by omega) (by omega) (by omega) (by omega)
  have w : ∀ j, 1 ≤ j → j ≤ 6 → (v_wr M q0 0 (M.1 q1 0)).1 (q1 + j) = M.1 (q1 + j) := fun j a b => by rw [v_wr_n (by omega)]
  unfold f_X4_become
  simp only [c1, c2, v_ckT, v_letE, show (0 : Int32).toNatClampNeg = 0 from rfl, show (480 : Int32).toNatClampNeg = 480 from rfl, show (20 : Int32).toNatClampNeg = 20 from rfl]
  refine ⟨_, rfl, ?_, fun i hi => ?_, fun i hi => ?_, fun k hk => ?_, rfl, fun j hj => ?_⟩
  · rw [rr_n (by omega), rr_n (by omega), rr_n (by omega), rr_n (by omega), rr_n (by omega), rr_n (by omega), v_rd, if_pos ⟨rfl, rfl⟩]
  · refine ⟨?_, ?_, ?_, ?_⟩
    · rw [rr_n (by omega), rr_n (by omega), rr_n (by omega), rr_n (by omega), rr_n (by omega), rr_s, cpy0 _ _ _ _ hi, Nat.zero_add, w 1 (by omega) (by omega)]
    · rw [rr_n (by omega), rr_n (by omega), rr_n (by omega), rr_n (by omega), rr_s, cpy0 _ _ _ _ hi, Nat.zero_add, rr_n (by omega), w 2 (by omega) (by omega)]
    · rw [rr_n (by omega), rr_n (by omega), rr_n (by omega), rr_s, cpy0 _ _ _ _ hi, Nat.zero_add, rr_n (by omega), rr_n (by omega), w 3 (by omega) (by omega)]
    · rw [rr_n (by omega), rr_n (by omega), rr_s, cpy0 _ _ _ _ hi, Nat.zero_add, rr_n (by omega), rr_n (by omega), rr_n (by omega), w 4 (by omega) (by omega)]
  · refine ⟨?_, ?_⟩
    · rw [rr_n (by omega), rr_s, cpy0 _ _ _ _ hi, Nat.zero_add, rr_n (by omega), rr_n (by omega), rr_n (by omega), rr_n (by omega), w 5 (by omega) (by omega)]
    · rw [rr_s, cpy0 _ _ _ _ hi, Nat.zero_add, rr_n (by omega), rr_n (by omega), rr_n (by omega), rr_n (by omega), rr_n (by omega), w 6 (by omega) (by omega)]
  · rw [rr_n (by omega), rr_n (by omega), rr_n (by omega), rr_n (by omega), rr_n (by omega), rr_n (by omega), v_wr_n (by omega)]
  · rw [rr_n (by omega), rr_n (by omega), rr_n (by omega), rr_n (by omega), rr_n (by omega), rr_n (by omega), v_rd, if_neg (fun z => hj z.2)]
theorem e_carryS1 (N r1 : Nat) {n1 o : Nat} (h1 : r1 ≠ 145) (h2 : r1 ≠ 79) (hn : n1 ≤ 480) (ho : o + n1 ≤ 8000) : ∀ (s i f : Nat) (M : v_M), i + s = n1 → s < f → M.1 79 92 = 0 → M.1 79 91 = nI (o + i) → ∃ M' : v_M, f_X12_carry_L2 N r1 n1 f (nI i) M = some (0, M') ∧ v_fr [145] [(79, 91)] M M' ∧ M'.1 79 91 = nI (o + n1) ∧ ∀ j, M'.1 145 j = if o + i ≤ j ∧ j < o + n1 then M.1 r1 (j - o) else M.1 145 j := by
  intro s
  induction s with
  | zero =>
    intro i f M hi hf e1 e2
    obtain ⟨f, rfl⟩ : ∃ q, f = q + 1 := ⟨f - 1, by omega⟩
    refine ⟨M, ?_, v_frR, by rw [e2, show i = n1 by omega], fun j => by rw [if_neg (by omega)]⟩
    rw [f_X12_carry_L2, if_pos (show Int32.ofNat n1 ≤ nI i from nI_le (a := n1) (by omega) (by omega))]
  | succ s ih =>
    intro i f M hi hf e1 e2
    obtain ⟨f, rfl⟩ : ∃ q, f = q + 1 := ⟨f - 1, by omega⟩
    rw [f_X12_carry_L2, if_neg (show ¬ Int32.ofNat n1 ≤ nI i from nI_ge (b := n1) (by omega) (by omega)), if_pos e1, e2]
    simp only [v_ibN (show i < n1 by omega) (show n1 < 2 ^ 31 by omega), nI_clamp (show i < 2 ^ 31 by omega), v_ibN (show o + i < 8000 by omega) (show 8000 < 2 ^ 31 by omega), nI_clamp (show o + i < 2 ^ 31 by omega), v_ckT, v_letE, f_X12_carry_L42, nI_1]
    rw [v_rdn (show (79 : Nat) ≠ 145 by decide), e2, nI_1]
    have fr : v_fr [145] [(79, 91)] M (v_wr (v_wr M 145 (o + i) (M.1 r1 i)) 79 91 (nI (o + i + 1))) := v_fro (by decide) (v_frw (by decide) v_frR)
    obtain ⟨M', p1, p2, p3, p4⟩ := ih (i + 1) f (v_wr (v_wr M 145 (o + i) (M.1 r1 i)) 79 91 (nI (o + i + 1))) (by omega) (by omega) (by rw [v_keepC fr 79 92 (by decide), e1]) (by rw [v_rd, if_pos ⟨rfl, rfl⟩]; rfl)
    refine ⟨M', p1, v_frT fr p2, p3, fun j => ?_⟩
    rw [p4, v_rdn h2, v_rdn h1, v_rdn (by decide), v_rd]
    by_cases q : j = o + i
    · rw [if_neg (by omega), if_pos ⟨rfl, q⟩, if_pos (by omega), q, show o + i - o = i by omega]
    · rw [if_neg (show ¬ (145 = 145 ∧ j = o + i) from fun z => q z.2)]
      by_cases w : o + (i + 1) ≤ j ∧ j < o + n1
      · rw [if_pos w, if_pos (by omega)]
      · rw [if_neg w, if_neg (by omega)]
theorem e_carryS {N : Nat} (hN : 1000 ≤ N) (r1 : Nat) {n1 o : Nat} (h1 : r1 ≠ 145) (h2 : r1 ≠ 79) (hn : n1 ≤ 480) (ho : o + n1 ≤ 8000) {M : v_M} (e1 : M.1 79 92 = 0) (e2 : M.1 79 91 = nI o) : ∃ M' : v_M, f_X12_carry N r1 n1 M = some (0, M') ∧ v_fr [145] [(79, 91)] M M' ∧ M'.1 79 91 = nI (o + n1) ∧ ∀ j, M'.1 145 j = if o ≤ j ∧ j < o + n1 then M.1 r1 (j - o) else M.1 145 j := by
  unfold f_X12_carry
  exact e_carryS1 N r1 h1 h2 hn ho n1 0 N M (by omega) (by omega) e1 e2
theorem e_carryB1 (N r1 : Nat) {n1 o : Nat} (h1 : r1 ≠ 145) (h2 : r1 ≠ 79) (hn : n1 ≤ 480) (ho : o + n1 ≤ 8000) : ∀ (s i f : Nat) (M : v_M), i + s = n1 → s < f → M.1 79 92 = 1 → M.1 79 91 = nI (o + i) → ∃ M' : v_M, f_X12_carry_L2 N r1 n1 f (nI i) M = some (0, M') ∧ v_fr [r1] [(79, 91)] M M' ∧ M'.1 79 91 = nI (o + n1) ∧ ∀ j, M'.1 r1 j = if i ≤ j ∧ j < n1 then M.1 145 (o + j) else M.1 r1 j := by
  intro s
  induction s with
  | zero =>
    intro i f M hi hf e1 e2
    obtain ⟨f, rfl⟩ : ∃ q, f = q + 1 := ⟨f - 1, by omega⟩
    refine ⟨M, ?_, v_frR, by rw [e2, show i = n1 by omega], fun j => by rw [if_neg (by omega)]⟩
    rw [f_X12_carry_L2, if_pos (show Int32.ofNat n1 ≤ nI i from nI_le (a := n1) (by omega) (by omega))]
  | succ s ih =>
    intro i f M hi hf e1 e2
    obtain ⟨f, rfl⟩ : ∃ q, f = q + 1 := ⟨f - 1, by omega⟩
    rw [f_X12_carry_L2, if_neg (show ¬ Int32.ofNat n1 ≤ nI i from nI_ge (b := n1) (by omega) (by omega)), if_neg (show ¬ M.1 79 92 = 0 by rw [e1]; decide), e2]
    simp only [v_ibN (show i < n1 by omega) (show n1 < 2 ^ 31 by omega), nI_clamp (show i < 2 ^ 31 by omega), v_ibN (show o + i < 8000 by omega) (show 8000 < 2 ^ 31 by omega), nI_clamp (show o + i < 2 ^ 31 by omega), v_ckT, v_letE, f_X12_carry_L42, nI_1]
    rw [v_rdn (Ne.symm h2), e2, nI_1]
    have fr : v_fr [r1] [(79, 91)] M (v_wr (v_wr M r1 i (M.1 145 (o + i))) 79 91 (nI (o + i + 1))) := v_fro (List.mem_singleton.mpr rfl) (v_frw (List.mem_singleton.mpr rfl) v_frR)
    obtain ⟨M', p1, p2, p3, p4⟩ := ih (i + 1) f (v_wr (v_wr M r1 i (M.1 145 (o + i))) 79 91 (nI (o + i + 1))) (by omega) (by omega) (by rw [v_rd, if_neg (fun z => by simp at z), v_rdn (Ne.symm h2), e1]) (by rw [v_rd, if_pos ⟨rfl, rfl⟩]; rfl)
    refine ⟨M', p1, v_frT fr p2, p3, fun j => ?_⟩
    rw [p4, v_rdn (by decide), v_rdn (Ne.symm h1), v_rdn h2, v_rd]
    by_cases q : j = i
    · rw [if_neg (by omega), if_pos ⟨rfl, q⟩, if_pos (by omega), q]
    · rw [if_neg (show ¬ (r1 = r1 ∧ j = i) from fun z => q z.2)]
      by_cases w : i + 1 ≤ j ∧ j < n1
      · rw [if_pos w, if_pos (by omega)]
      · rw [if_neg w, if_neg (by omega)]
theorem e_carryB {N : Nat} (hN : 1000 ≤ N) (r1 : Nat) {n1 o : Nat} (h1 : r1 ≠ 145) (h2 : r1 ≠ 79) (hn : n1 ≤ 480) (ho : o + n1 ≤ 8000) {M : v_M} (e1 : M.1 79 92 = 1) (e2 : M.1 79 91 = nI o) : ∃ M' : v_M, f_X12_carry N r1 n1 M = some (0, M') ∧ v_fr [r1] [(79, 91)] M M' ∧ M'.1 79 91 = nI (o + n1) ∧ ∀ j, j < n1 → M'.1 r1 j = M.1 145 (o + j) := by
  unfold f_X12_carry
  obtain ⟨M', a, b, c, d⟩ := e_carryB1 N r1 h1 h2 hn ho n1 0 N M (by omega) (by omega) e1 e2
  exact ⟨M', a, b, c, fun j hj => by rw [d, if_pos ⟨by omega, hj⟩]⟩
