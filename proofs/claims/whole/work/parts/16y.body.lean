/-! the body of a clause: both alike -/
def bodyR (N : Nat) (x3 y4 : Int32) (M : v_M) : Option (Int32 × v_M) := if x3 = 0 then mustR N y4 M else (if x3 = (1 : Int32) then ((f_X12_sum N M).bind fun z8 => f_X12_clause_L277 N y4 z8.2) else (if x3 = (2 : Int32) then (f_X12_clause_L207 N N y4 (0 : Int32) M) else (f_X12_clause_L277 N y4 M)))
theorem kf_sum {q : Nat} {A A' : v_M} {W : List (Nat × Nat)} (hq : q = 41 ∨ 150 ≤ q) (f : v_fr [(q + 6)] [(35, 2), (35, 3), (35, 4), (35, 5), (35, 6), (q, 3)] A A') : KF q A A' W := by
  intro i j h1 h5 _
  exact f.1 (q + i) j (by simp; omega) (by simp; omega)
theorem s_body {N : Nat} (hN : 1000 ≤ N) {q o n y h : Nat} {c : Nat → Nat} {T K p v : Nat} {L : List Op} {A B : v_M} (hc : CR A q c T K p v L) (hp : PR B c T p) (hr : RC B o v L) (hn : n < 12) (hy : y < 144) (hh : h ≤ 3) (hv : v ≤ 60) (hw : 3 * L.length ≤ 6 * v + p) : ∃ (b : Bool) (A' B' : v_M), f_X7_readBody N q (nI h) (nI n) A = some (v01 b, A') ∧ bodyR N (nI h) (nI y) B = f_X12_clause_L277 N (nI y) B' ∧ (b = true → ∃ (S : List Op) (a p' : Nat), CR A' q c T K p' (v + a) (L ++ S) ∧ PB B' c T p' ∧ RC B' o (v + a) (L ++ S) ∧ v + a ≤ 60 ∧ p ≤ p' ∧ S.length ≤ 2 * a ∧ (h = 0 → ∃ k d : Nat, k < 10 ∧ d ≤ 999 ∧ A'.1 (q + 2) n = nI k ∧ B'.1 114 y = nI k ∧ A'.1 (q + 3) n = nI d ∧ B'.1 115 y = nI d) ∧ (h = 1 → SumE S a ∧ A'.1 (q + 2) n = nI L.length) ∧ (h = 2 → B'.1 114 y = A'.1 (q + 2) n) ∧ KF q A A' [(2, n), (3, n)] ∧ v_fr [108, 109] [(79, 33), (79, 34), (79, 36), (79, 38), (114, y), (115, y)] B B') ∧ (b = false → BD A' B' c T) := by
  have hq := hc.1
  unfold f_X7_readBody bodyR
  have h4 : h = 0 ∨ h = 1 ∨ h = 2 ∨ h = 3 := by omega
  rcases h4 with rfl | rfl | rfl | rfl
  · rw [if_pos (show nI 0 = 0 from rfl), if_pos (show nI 0 = 0 from rfl)]
    obtain ⟨b, A1, B1, a1, b1, ok, bad⟩ := s_must hN hc hp hr hn hy
    rw [a1, Option.bind_some, b1]
    dsimp only
    rw [v01_b, v_ckT]
    refine ⟨b, A1, B1, rfl, rfl, fun w => ?_, bad⟩
    obtain ⟨k, d, p', hk, hd, c1, pb1, r1, hpp, g2, g3, g14, g15, kf, fr⟩ := ok w
    exact ⟨[], 0, p', by rw [List.append_nil]; exact c1, pb1, by rw [List.append_nil]; exact r1, hv, by omega, Nat.le_refl _, fun _ => ⟨k, d, hk, hd, g2, g14, g3, g15⟩, (fun w => nomatch w), (fun w => nomatch w), kf, v_frt (by simp) (by simp) v_frR fr⟩
  · rw [if_neg (by decide), if_pos (show nI 1 = 1 from rfl), if_neg (by decide), if_pos (show nI 1 = 1 from rfl), v_ibN (show n < 12 by omega) (by omega), v_ckT, v_letE, nI_clamp (show n < 2 ^ 31 by omega), hc.2.2.2.2.2.2.2.2.2.1]
    have hc' := hc.row (i := 2) (by omega) (by omega) n (nI L.length)
    obtain ⟨b, A1, B1, a1, b1, ok, bad⟩ := s_sum hN hc' (⟨p, hp, hc.sk⟩ : PB B c T p) hr hv hw
    have fa := fr_X7_readSum a1
    rw [a1, Option.bind_some, b1, Option.bind_some]
    dsimp only
    rw [v01_b, v_ckT]
    refine ⟨b, A1, B1, rfl, rfl, fun w => ?_, bad⟩
    obtain ⟨S, a, p', hS, ⟨c1, p1, r1, hv1⟩, hpp, hw1, hl1⟩ := ok w
    refine ⟨S, a, p', c1, ⟨p', p1, c1.sk⟩, r1, hv1, by omega, by omega, (fun w => nomatch w), fun _ => ⟨hS, ?_⟩, (fun w => nomatch w), KF.t (kf_wr (by simp)) (kf_sum hq fa), v_frt (by simp) (by simp) v_frR (fr_X12_sum b1)⟩
    rw [fa.1 (q + 2) n (by simp) (by simp; omega), v_rdS]
  · rw [if_neg (by decide), if_neg (by decide), if_pos (show nI 2 = 2 from rfl), if_neg (by decide), if_neg (by decide), if_pos (show nI 2 = 2 from rfl)]
    obtain ⟨b, A1, B1, a1, b1, f1, ok, bad⟩ := s_look hN hc hp hr hn hy
    rw [a1, Option.bind_some, b1]
    dsimp only
    rw [v01_b, v_ckT]
    refine ⟨b, A1, B1, rfl, rfl, fun w => ?_, bad⟩
    obtain ⟨c1, p1, r1, hlt, g, kf⟩ := ok w
    have hg := t_nx_gt (c := c) hlt
    exact ⟨[], 0, t_nx c T p, by rw [List.append_nil]; exact c1, p1.pb, by rw [List.append_nil]; exact r1, hv, by omega, Nat.le_refl _, (fun w => nomatch w), (fun w => nomatch w), fun _ => g, fun i j h1 h5 hw => kf i j h1 h5 (fun z => hw (by simp at z; simp [z])), v_frt (by simp) (by simp) v_frR f1⟩
  · rw [if_neg (by decide), if_neg (by decide), if_neg (by decide), if_neg (by decide), if_neg (by decide), if_neg (by decide), v_b1, v_ckT]
    exact ⟨true, A, B, rfl, rfl, fun _ => ⟨[], 0, p, by rw [List.append_nil]; exact hc, ⟨p, hp, hc.sk⟩, by rw [List.append_nil]; exact hr, hv, Nat.le_refl _, Nat.le_refl _, (fun w => nomatch w), (fun w => nomatch w), (fun w => nomatch w), fun i j _ _ _ => rfl, v_frR⟩, (fun w => nomatch w)⟩
