/-! the condition of a clause: both alike -/
theorem CR.q2 {A : v_M} {q : Nat} {c : Nat → Nat} {T K p v : Nat} {L : List Op} (h : CR A q c T K p v L) (x : Int32) : CR (v_wr A q 2 x) q c T K p v L := by
  obtain ⟨hq, hc, hT, hS, ⟨k, hk, ek, rfl⟩, s3, s4, e5, e6, e3, ec⟩ := h
  refine ⟨hq, hc, hT, hS.fr (by rw [v_rdn (by omega)]) (by rw [v_wr_n (by omega)]) (by rw [v_wr_n (by omega)]) (by rw [v_wr_n (by omega)]), ⟨k, hk, by rw [v_rdn (by omega), ek], rfl⟩, by rw [v_rdn (by omega), s3], fun w => by rw [v_rdn (by omega), s4 w], by rw [v_rdn (by omega), e5], by rw [v_rdn (by omega), e6], by rw [v_rd, if_neg (by omega), e3], fun i' o hi => by rw [v_rdn (by omega)]; exact ec i' o hi⟩
theorem FB1.wr {B : v_M} {c : Nat → Nat} {T F k i : Nat} {x : Int32} (h : FB1 B c T F) (h1 : k ≠ 79) (h2 : k ≠ 107) : FB1 (v_wr B k i x) c T F := by
  obtain ⟨t, f, e, p, hp, ep⟩ := h
  exact ⟨t.fr (by rw [v_rdn (by omega)]) (by rw [v_wr_n (by omega)]), f, by rw [v_rdn (by omega), e], p, hp, by rw [v_rdn (by omega), ep]⟩
def clsIf (N q : Nat) (x1 : Int32) (M : v_M) : Option (Int32 × v_M) := v_ck (v_ib x1 12) <| v_let (v_wr M (q + 4) x1.toNatClampNeg (M.1 q 3)) fun M6 => if (M6.1 35 3) = (276 : Int32) then ((f_X7_step N M6).bind fun z7 => (f_X7_readTest N q (f_fact N q 12) (0 : Int32) z7.2).bind fun z8 => if z8.1 = 0 then (v_ck (v_b01 (0 : Int32)) <| some ((0 : Int32), z8.2)) else (f_X7_readClause_L108 N q x1 z8.2)) else (f_X7_readClause_L108 N q x1 M6)
theorem cls108 (N : Nat) {q n : Nat} {c : Nat → Nat} {T K p v : Nat} {L : List Op} {A : v_M} (hc : CR A q c T K p v L) (hn : n < 12) : ∃ A' : v_M, f_X7_readClause_L108 N q (nI n) A = some (1, A') ∧ CR A' q c T K p v L ∧ A'.1 (q + 5) n = nI L.length ∧ A'.1 q 2 = nI (n + 1) ∧ KF q A A' [(4, n), (5, n)] ∧ (A'.1 (q + 4) n = A.1 (q + 4) n) := by
  unfold f_X7_readClause_L108
  rw [v_ibN (show n < 12 by omega) (by omega), v_ckT, v_letE, nI_clamp (by omega), hc.2.2.2.2.2.2.2.2.2.1, v_letE, nI_1, v_b1, v_ckT]
  refine ⟨_, rfl, (hc.row (i := 5) (by omega) (by omega) n (nI L.length)).q2 _, by rw [v_rdn (by omega), v_rdS], v_rdS, fun i j h1 h5 hw => ?_, by rw [v_rdn (by omega), v_rdn (by omega)]⟩
  rw [v_rdn (by omega)]
  exact kf_wr (i := 5) (n := n) (W := [(4, n), (5, n)]) (by simp) i j h1 h5 hw
theorem s_if {N : Nat} (hN : 1000 ≤ N) {q o n y : Nat} {c : Nat → Nat} {T K p v : Nat} {L : List Op} {A B : v_M} (hc : CR A q c T K p v L) (hp : PB B c T p) (hr : RC B o v L) (h7 : B.1 79 37 = 0) (hn : n < 12) (hy : y < 144) (hv : v ≤ 60) (hw : 3 * L.length ≤ 6 * v + p) : ∃ (b : Bool) (A' B' : v_M), clsIf N q (nI n) A = some (v01 b, A') ∧ f_X12_clause_L277 N (nI y) B = some (0, B') ∧ (b = true → ∃ (S : List Op) (a p' : Nat), CR A' q c T K p' (v + a) (L ++ S) ∧ PB B' c T p' ∧ RC B' o (v + a) (L ++ S) ∧ B'.1 79 37 = 0 ∧ v + a ≤ 60 ∧ p ≤ p' ∧ 3 * S.length ≤ 6 * a + (p' - p) ∧ A'.1 (q + 4) n = nI L.length ∧ A'.1 (q + 5) n = nI (L ++ S).length ∧ B'.1 117 y = nI L.length ∧ B'.1 118 y = nI (L ++ S).length ∧ (L.length < (L ++ S).length → TruE S a) ∧ A'.1 q 2 = nI (n + 1) ∧ KF q A A' [(4, n), (5, n)] ∧ v_fr [108, 109, 119] [(79, 33), (79, 34), (79, 36), (79, 37), (79, 38), (79, 39), (117, y), (118, y)] B B') ∧ (b = false → ∃ F : Nat, A'.1 35 6 = nI F ∧ FB1 B' c T F) := by
  have hple := hc.ple
  have hq := hc.1
  have hc1 := hc.row (i := 4) (by omega) (by omega) n (nI L.length)
  have k1 : KF q A (v_wr A (q + 4) n (nI L.length)) [(4, n), (5, n)] := kf_wr (by simp)
  have s76 := hc1.sg (j := 276) (x := 276) (by omega) rfl
  obtain ⟨p0, pp, pe⟩ := hp
  have pb1 : PB (v_wr B 117 y (nI L.length)) c T p := ⟨p0, pp.wr (by omega) (by omega), pe⟩
  have r1 : RC (v_wr B 117 y (nI L.length)) o v L := hr.wr (by omega) (by omega) (by omega)
  obtain ⟨B2, b2, f2, py, pn⟩ := y_takes hN (s := 17) (by omega) (by omega) pb1
  have r2 := r1.fp f2
  have ix : 260 + t_ix.getD 17 0 = 276 := rfl
  rw [ix] at b2 py pn
  have e7 : B2.1 79 37 = 0 := by rw [v_keepC f2 79 37 (by decide), v_rdn (by decide), h7]
  have F2 : v_fr [108, 109, 119] [(79, 33), (79, 34), (79, 36), (79, 37), (79, 38), (79, 39), (117, y), (118, y)] B B2 := v_frt (by simp) (by simp) (v_fro (by simp) v_frR) f2
  have g17 : B2.1 117 y = nI L.length := by rw [v_keepR f2 117 (by decide), v_rdS]
  have en : ∀ M : v_M, M.1 79 36 = M.1 79 36 → f_X12_clause_L309 N (nI y) M = some (0, v_wr M 118 y (M.1 79 36)) := by
    intro M _
    unfold f_X12_clause_L309
    rw [v_ibN (show y < 144 by omega) (by omega), v_ckT, v_letE, nI_clamp (by omega)]
  unfold clsIf f_X12_clause_L277
  rw [v_ibN (show n < 12 by omega) (by omega), v_ckT, v_letE, nI_clamp (show n < 2 ^ 31 by omega), hc.2.2.2.2.2.2.2.2.2.1, v_ibN (show y < 144 by omega) (by omega), v_ckT, v_letE, nI_clamp (show y < 2 ^ 31 by omega), hr.2.2.2.1, if_pos r1.1, b2, Option.bind_some]
  dsimp only
  rw [v01_0]
  by_cases k : t_tk c T p = 276
  · rw [if_pos (s76.mpr k), decide_eq_true k, if_pos rfl]
    obtain ⟨A2, a2, c2⟩ := e_step N hc1
    have hlt : p < T := by
      refine Classical.byContradiction (fun w => ?_)
      rw [t_tk_e (by omega)] at k
      omega
    have hg := t_nx_gt (c := c) hlt
    obtain ⟨b3, A3, B3, a3, b3e, ok, bad⟩ := s_tests hN c2 (py k).pb r2 hv e7 (by omega)
    have fb := fr_X12_test b3e
    rw [a2, Option.bind_some, b3e, Option.bind_some]
    dsimp only
    rw [a3, Option.bind_some]
    dsimp only
    rw [v01_0, en B3 rfl]
    cases b3 with
    | true =>
      obtain ⟨S, a, p', tr, c3, p3, r3, g7, hv3, hp3, hl3⟩ := ok rfl
      obtain ⟨A4, a4, c4, g5, gq, kf4, g4⟩ := cls108 N c3 hn
      have fa := fr_X7_readTest (fun x M out h => fr_fact 12 x M out h) a3
      rw [if_pos rfl, a4]
      have F3 : v_fr [108, 109, 119] [(79, 33), (79, 34), (79, 36), (79, 37), (79, 38), (79, 39), (117, y), (118, y)] B (v_wr B3 118 y (B3.1 79 36)) := v_fro (by simp) (v_frt (by simp) (by simp) F2 fb)
      refine ⟨true, A4, _, rfl, rfl, fun _ => ⟨S, a, p', c4, ⟨p', p3.wr (by omega) (by omega), c4.sk⟩, r3.wr (by omega) (by omega) (by omega), by rw [v_rdn (by decide), g7], hv3, by omega, by omega, ?_, g5, ?_, by rw [v_rdS, r3.2.2.2.1], fun _ => tr, gq, KF.t k1 (KF.t (kf_step hq a2) (KF.t (kf_sum hq fa) kf4)), F3⟩, (fun w => nomatch w)⟩
      · rw [g4, fa.1 (q + 4) n (by simp) (by simp; omega), (fr_X7_step a2).1 (q + 4) n (by simp) (by simp; omega), v_rdS]
      · rw [v_rdn (by decide), v_keepR fb 117 (by decide), g17]
    | false =>
      obtain ⟨F, eF, fb1⟩ := bad rfl
      rw [if_neg (by decide), v_b0, v_ckT]
      exact ⟨false, A3, _, rfl, rfl, (fun w => nomatch w), fun _ => ⟨F, eF, fb1.wr (by omega) (by omega)⟩⟩
  · rw [if_neg (fun w => k (s76.mp w)), decide_eq_false k, if_neg (by decide), en B2 rfl]
    obtain ⟨A4, a4, c4, g5, gq, kf4, g4⟩ := cls108 N hc1 hn
    rw [a4]
    have pB := pn k
    refine ⟨true, A4, _, rfl, rfl, fun _ => ⟨[], 0, p, by rw [List.append_nil]; exact c4, ⟨p, pB.wr (by omega) (by omega), c4.sk⟩, by rw [List.append_nil]; exact r2.wr (by omega) (by omega) (by omega), by rw [v_rdn (by decide), e7], hv, Nat.le_refl _, by rw [List.length_nil]; omega, by rw [g4, v_rdS], by rw [List.append_nil]; exact g5, by rw [v_rdn (by decide), g17], by rw [List.append_nil, v_rdS, r2.2.2.2.1], fun w => absurd w (by rw [List.append_nil]; omega), gq, KF.t k1 kf4, v_fro (by simp) F2⟩, (fun w => nomatch w)⟩
