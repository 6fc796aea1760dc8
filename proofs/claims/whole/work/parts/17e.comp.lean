/-! the order as a whole: both alike -/
def B0 (X : v_M) : v_M := v_wr (v_wr (v_wr (v_wr (v_wr X 79 33 0) 79 34 0) 79 36 0) 79 37 0) 79 38 0
theorem B0_fr (X : v_M) : v_fr [] [(79, 33), (79, 34), (79, 36), (79, 37), (79, 38)] X (B0 X) := v_fro (by decide) (v_fro (by decide) (v_fro (by decide) (v_fro (by decide) (v_fro (by decide) v_frR))))
theorem e_first (N : Nat) {A : v_M} {q : Nat} {c : Nat → Nat} {T K : Nat} (hq : q = 41 ∨ 150 ≤ q) (hc : ∀ i, i < T → c i ≤ 255) (hT : T ≤ 400) (hS : TS A c T K) (e2 : A.1 35 2 = -1) (e5 : A.1 35 5 = 0) (e6 : A.1 35 6 = 0) (e3 : A.1 q 3 = 0) : ∃ A' : v_M, f_X7_step N A = some (0, A') ∧ CR A' q c T K (t_sk c T 0) 0 [] := by
  have hK := hS.1
  unfold f_X7_step
  rw [hS.2.2.2.1, e2, show (-1 : Int32) + 1 = nI 0 from rfl, if_neg (fun w => by have := (nI_leX (a := K + 1) (b := 0) (by omega) (by omega)).mp w; omega), if_neg (by decide), v_letE]
  have hS' : TS (v_wr A 35 2 (nI 0)) c T K := hS.fr (by rw [v_rdn (by omega)]) (by rw [v_wr_n (by omega)]) (by rw [v_wr_n (by omega)]) (by rw [v_wr_n (by omega)])
  obtain ⟨A', a', f, g2, g3, g4⟩ := e_step36 N hS' (Nat.zero_le K) v_rdS
  refine ⟨A', a', hq, hc, hT, ?_, ⟨0, Nat.zero_le _, g2, rfl⟩, g3, g4, ?_, ?_, ?_, fun i op w => nomatch w⟩
  · exact hS'.fr (v_keepC f 36 1 (by decide)) (v_keepR f 38 (by decide)) (v_keepR f 39 (by decide)) (v_keepR f 40 (by decide))
  · rw [v_keepC f 35 5 (by decide), v_rd, if_neg (by omega), e5]; rfl
  · rw [v_keepC f 35 6 (by decide), v_rd, if_neg (by omega), e6]
  · rw [f.1 q 3 (by simp) (by simp; omega), v_rd, if_neg (by omega), e3]; rfl
theorem s_comp {N : Nat} (hN : 1000 ≤ N) {q o : Nat} {c : Nat → Nat} {T : Nat} {M X : v_M} (hq : q = 41 ∨ 150 ≤ q) (hM : TP M c T) (hX : TR X c T) (ho : o < 12) (e5 : X.1 79 35 = nI o) : ∃ (A' B' : v_M) (F m : Nat), f_X7_compile N q M = some (nI F, A') ∧ (∀ x1 x2, f_X12_order_L69 N N x1 x2 (0 : Int32) (1 : Int32) (B0 X) = ordEnd x1 x2 (nI m) B') ∧ Z o (B0 X) B' ∧ LEn A' B' q o m F := by
  obtain ⟨K, M1, m1, f1, ts⟩ := e_split hN hM
  have fb := B0_fr X
  have pr : PR (B0 X) c T 0 := ⟨hX.fr (v_keepC fb 79 32 (by decide)) (v_keepR fb 107 (by decide)), Nat.zero_le _, by unfold B0; rw [v_rd, if_neg (by omega), v_rd, if_neg (by omega), v_rd, if_neg (by omega), v_rd, if_neg (by omega), v_rdS]; rfl⟩
  have rc : RC (B0 X) o 0 [] := by
    refine ⟨?_, ho, ?_, ?_, ?_, fun i op w => nomatch w⟩
    · unfold B0; rw [v_rd, if_neg (by omega), v_rd, if_neg (by omega), v_rd, if_neg (by omega), v_rdS]
    · rw [v_keepC fb 79 35 (by decide), e5]
    · unfold B0; rw [v_rd, if_neg (by omega), v_rd, if_neg (by omega), v_rdS]; rfl
    · unfold B0; rw [v_rdS]; rfl
  have e7 : (B0 X).1 79 37 = 0 := by unfold B0; rw [v_rd, if_neg (by omega), v_rdS]
  unfold f_X7_compile f_X5_clear
  rw [m1, Option.bind_some]
  dsimp only
  rw [v_letE, v_letE, Option.bind_some]
  dsimp only
  rw [v_letE, v_letE, v_letE]
  have ts5 : TS (v_wr (v_wr (v_wr (v_wr (v_wr M1 q 2 0) q 3 0) 35 2 (-1)) 35 5 0) 35 6 0) c T K := by
    refine ts.fr ?_ ?_ ?_ ?_
    · rw [v_rdn (by omega), v_rdn (by omega), v_rdn (by omega), v_rdn (by omega), v_rdn (by omega)]
    · rw [v_wr_n (by omega), v_wr_n (by omega), v_wr_n (by omega), v_wr_n (by omega), v_wr_n (by omega)]
    · rw [v_wr_n (by omega), v_wr_n (by omega), v_wr_n (by omega), v_wr_n (by omega), v_wr_n (by omega)]
    · rw [v_wr_n (by omega), v_wr_n (by omega), v_wr_n (by omega), v_wr_n (by omega), v_wr_n (by omega)]
  obtain ⟨A2, a2, c2⟩ := e_first N hq hM.2.1 hM.1 ts5 (by rw [v_rd, if_neg (by omega), v_rd, if_neg (by omega), v_rdS]) (by rw [v_rd, if_neg (by omega), v_rdS]) v_rdS (by rw [v_rdn (by omega), v_rdn (by omega), v_rdn (by omega), v_rdS])
  rw [a2, Option.bind_some]
  dsimp only
  obtain ⟨A', B', F, m, z, a, b, e⟩ := s_loop hN (o := o) 12 0 _ 0 [] A2 (B0 X) rfl ⟨c2, pr.pb, rc, e7, by omega, by rw [List.length_nil]; omega, fun j hj => absurd hj (by omega)⟩
  refine ⟨A', B', F, m, ?_, fun x1 x2 => ?_, z, e⟩
  · have := a (N - 13)
    rw [show N - 13 + 12 + 1 = N by omega] at this
    exact this
  · have := b (N - 14) x1 x2
    rw [show N - 14 + 12 + 2 = N by omega] at this
    exact this
