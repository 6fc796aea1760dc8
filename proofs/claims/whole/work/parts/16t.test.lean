/-! the whole test of a clause -/
theorem LN_end {N : Nat} (hN : 1000 ≤ N) {B : v_M} {d p o v : Nat} {c : Nat → Nat} {T : Nat} {L : List Op} (h : RX B d []) (hr : RC B o v L) (hp : PB B c T p) (h78 : ¬ t_tk c T p = 278) (h77 : ¬ t_tk c T p = 277) : ∃ B' : v_M, (∀ n, LN N (n + 2) B = some (0, B')) ∧ PR B' c T p ∧ RC B' o v L ∧ B'.1 79 37 = nI d := by
  obtain ⟨B1, f1, p1, e1⟩ := LN_open hN h (fun w => nomatch w) hr.1 hp
  have x1 : RX B1 d [] := h.fr (v_keepC f1 79 37 (by decide)) (v_keepC f1 79 39 (by decide)) (v_keepR f1 119 (by decide))
  refine ⟨B1, fun n => ?_, p1, hr.fp f1, x1.1⟩
  have n1 : ∀ j, j < 13 → f_X12_answers N (nI j) B1 = some (0, B1) := by
    intro j hj
    obtain ⟨m, rfl⟩ : ∃ m, N = m + 1 := ⟨N - 1, by omega⟩
    exact ans_no (m + 1) m x1 (k := j) hj (fun w => nomatch w) rfl
  rw [show n + 2 = (n + 1) + 1 from rfl, e1, show (10 : Int32) = nI 10 from rfl, n1 10 (by omega), Option.bind_some]
  unfold LNk
  rw [decide_eq_false h78, decide_eq_false h77, if_pos (show v01 false = 0 from rfl), if_pos (show v01 false = 0 from rfl)]
  dsimp only
  rw [show (11 : Int32) = nI 11 from rfl, n1 11 (by omega), Option.bind_some]
  dsimp only
  rw [e_top0 N x1, Option.bind_some]
  dsimp only
  rw [if_neg (by decide)]
  unfold f_X12_test_L199
  rw [f_X12_test_L9, if_pos rfl]
theorem s_tests {N : Nat} (hN : 1000 ≤ N) {q o : Nat} {c : Nat → Nat} {T K : Nat} {p v : Nat} {L : List Op} {A B : v_M} (hc : CR A q c T K p v L) (hp : PB B c T p) (hr : RC B o v L) (hv : v ≤ 60) (h7 : B.1 79 37 = 0) (hw : 3 * L.length ≤ 6 * v + p) : ∃ (b : Bool) (A' B' : v_M), f_X7_readTest N q (f_fact N q 12) 0 A = some (v01 b, A') ∧ f_X12_test N B = some (0, B') ∧ (b = true → ∃ (S' : List Op) (a p' : Nat), TruE S' a ∧ CR A' q c T K p' (v + a) (L ++ S') ∧ PR B' c T p' ∧ RC B' o (v + a) (L ++ S') ∧ B'.1 79 37 = 0 ∧ v + a ≤ 60 ∧ p ≤ p' ∧ 3 * S'.length + 3 ≤ 6 * a + (p' - p)) ∧ (b = false → ∃ F : Nat, A'.1 35 6 = nI F ∧ FB1 B' c T F) := by
  have hple := hc.ple
  have hT := hc.2.2.1
  have f1 : v_fr [] [(79, 39)] B (v_wr B 79 39 0) := v_fro (by decide) v_frR
  obtain ⟨p0, pp, pe⟩ := hp
  have p1 : PB (v_wr B 79 39 0) c T p := ⟨p0, ⟨pp.1.fr (v_keepC f1 79 32 (by decide)) (v_keepR f1 107 (by decide)), pp.2.1, by rw [v_keepC f1 79 33 (by decide), pp.2.2]⟩, pe⟩
  have r1 : RC (v_wr B 79 39 0) o v L := hr.fr (v_keepC f1 79 34 (by decide)) (v_keepC f1 79 35 (by decide)) (v_keepC f1 79 36 (by decide)) (v_keepC f1 79 38 (by decide)) (v_keepR f1 108 (by decide)) (v_keepR f1 109 (by decide))
  have x1 : RX (v_wr B 79 39 0) 0 [] := ⟨by rw [v_rd, if_neg (by decide), h7]; rfl, v_rdS, by rw [List.length_nil]; omega, Nat.le_refl _, (fun k hk => nomatch hk), trivial⟩
  have hf : FactOK N q o c T K (f_fact N q 12) 0 := fact_ok hN 10 0 1 rfl
  obtain ⟨b, A2, a2, g1, g2⟩ := s_test hN hf (S := []) (fun w => nomatch w) (fun w => nomatch w) (fun w => nomatch w) hc p1 r1 hv x1 (by rw [List.length_nil]; omega) (by rw [Wn]; omega)
  have un : f_X12_test N B = LW N N (v_wr B 79 39 0) := rfl
  rw [un]
  cases b with
  | true =>
    obtain ⟨B3, S3, a3, p3, m3, ⟨j3, t77, t78⟩, c3, pb3, r3, x3, hv3, hp3, hl3, hm3, en3⟩ := g1 rfl
    have hple3 := c3.ple
    obtain ⟨B4, e4, p4, r4, q4⟩ := LN_end hN x3 r3 pb3 t78 t77
    refine ⟨true, A2, B4, a2, ?_, fun _ => ⟨S3, a3, p3, j3, c3, p4, r4, q4, hv3, hp3, hl3⟩, (fun w => nomatch w)⟩
    have := en3 (N - m3 - 1)
    dsimp only at this
    rw [show N - m3 - 1 + m3 + 1 = N by omega] at this
    rw [this, show N - m3 - 1 + 1 = (N - m3 - 2) + 2 by omega, e4]
  | false =>
    obtain ⟨B3, m3, F, eF, fb, hm, en⟩ := g2 rfl
    refine ⟨false, A2, B3, a2, ?_, (fun w => nomatch w), fun _ => ⟨F, eF, fb⟩⟩
    have := en (N - m3 - 1)
    dsimp only at this
    rw [show N - m3 - 1 + m3 + 1 = N by omega] at this
    exact this
