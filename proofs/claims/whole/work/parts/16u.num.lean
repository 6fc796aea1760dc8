/-! a number within bounds: both alike -/
theorem s_num {N : Nat} (hN : 1000 ≤ N) {q o : Nat} {c : Nat → Nat} {T K p v m : Nat} {L : List Op} {A B : v_M} (hm : m ≤ 99999) (hc : CR A q c T K p v L) (hp : PR B c T p) (hr : RC B o v L) : ∃ (b : Bool) (A' : v_M) (r : Int32) (B' : v_M), f_X7_isNumberTo N (nI m) A = some (v01 b, A') ∧ f_X12_digits N (nI m) B = some (r, B') ∧ (b = true → ∃ w : Nat, w ≤ m ∧ A' = A ∧ A.1 35 4 = nI w ∧ r = nI w ∧ PR B' c T (t_te c T p) ∧ RC B' o v L ∧ p < T) ∧ (b = false → BD A' B' c T) := by
  have hple := hc.ple
  have hT := hc.2.2.1
  have s56 := hc.sg (j := 256) (x := 256) (by omega) rfl
  have hd := e_digits hN hm hp
  unfold f_X7_isNumberTo
  by_cases k : t_tk c T p = 256
  · obtain ⟨w, B2, b2, f2, q2, hw, g4, gv⟩ := hd.1 k
    have e4 := hc.2.2.2.2.2.2.1 k
    have te := t_te_le (c := c) hple
    rw [if_pos (s56.mpr k), e_within, Option.bind_some, e4, b2]
    dsimp only
    have bad : 5 < t_eD c T p - p ∨ m < w → v_wi (t_nI c T p) 0 (nI m) = 0 := by
      intro h
      rw [v_wi0]
      intro z
      by_cases h5 : 5 < t_eD c T p - p
      · rw [show t_nI c T p = -1 from if_pos h5] at z
        exact absurd z.1 (by decide)
      · rw [gv (by omega)] at z
        have := (nI_leX (a := w) (b := m) (by omega) (by omega)).mp z.2
        omega
    by_cases h : 5 < t_eD c T p - p ∨ m < w
    · rw [if_pos (bad h)]
      obtain ⟨A1, a1, g1⟩ := e_fail N hc 1 (x := 1) rfl
      rw [a1, Option.bind_some]
      dsimp only
      rw [if_pos rfl, v_b0, v_ckT]
      exact ⟨false, A1, nI w, B2, rfl, rfl, (fun w => nomatch w), fun _ => ⟨_, g1, FB.at hp.1 (v_keepC f2 79 32 (by decide)) (v_keepR f2 107 (by decide)) (by omega) (by rw [g4, if_pos h, hr.1, t_ft_0]) te q2⟩⟩
    · have gw := gv (by omega)
      have one : v_wi (t_nI c T p) 0 (nI m) = 1 := by
        rw [gw]
        exact v_wiT ⟨(nI_leX (a := 0) (b := w) (by omega) (by omega)).mpr (by omega), (nI_leX (a := w) (b := m) (by omega) (by omega)).mpr (by omega)⟩
      rw [one, if_neg (by decide), v_b1, v_ckT]
      exact ⟨true, A, nI w, B2, rfl, rfl, fun _ => ⟨w, by omega, rfl, gw, rfl, ⟨hp.1.fr (v_keepC f2 79 32 (by decide)) (v_keepR f2 107 (by decide)), te, q2⟩, hr.fr (by rw [g4, if_neg h]) (v_keepC f2 79 35 (by decide)) (v_keepC f2 79 36 (by decide)) (v_keepC f2 79 38 (by decide)) (v_keepR f2 108 (by decide)) (v_keepR f2 109 (by decide)), (t_256 hc.2.1 k).1⟩, (fun w => nomatch w)⟩
  · rw [if_neg (fun w => k (s56.mp w)), hd.2 k]
    obtain ⟨A1, a1, g1⟩ := e_fail N hc 0 (x := 0) rfl
    rw [a1, Option.bind_some]
    dsimp only
    rw [v_b0, v_ckT]
    exact ⟨false, A1, 0, _, rfl, rfl, (fun w => nomatch w), fun _ => ⟨_, g1, FB.at hp.1 (by rw [v_rd, if_neg (by decide)]) (by rw [v_wr_n (by decide)]) (by omega) (by rw [v_rdS, hr.1, t_ft_0]) hple (by rw [v_rd, if_neg (by decide), hp.2.2])⟩⟩
/-- a word is taken where it stands -/
theorem y_takes {N : Nat} (hN : 1000 ≤ N) {B : v_M} {c : Nat → Nat} {T p s : Nat} (hs : 1 ≤ s) (hs2 : s < 21) (hp : PB B c T p) : ∃ B' : v_M, f_X12_takes_ N s B = some (v01 (decide (t_tk c T p = 260 + t_ix.getD s 0)), B') ∧ v_fr [] [(79, 33)] B B' ∧ (t_tk c T p = 260 + t_ix.getD s 0 → PR B' c T (t_te c T p)) ∧ (¬ t_tk c T p = 260 + t_ix.getD s 0 → PR B' c T p) := by
  obtain ⟨B1, b1, f1, p1⟩ := s_blanks hN hp
  have hT := p1.1.1
  have st := t_stand (c := c) (T := T) (p := p) p1.1.2.1 hs hs2
  unfold f_X12_takes_
  rw [b1, Option.bind_some]
  dsimp only
  rw [e_stands hN p1.1 hs hs2 p1.2.1 p1.2.2, Option.bind_some]
  dsimp only
  rw [v_letE, v01_0, e_len N hs2, Option.bind_some, p1.2.2]
  unfold f_X12_takes__L27
  by_cases k : t_tk c T p = 260 + t_ix.getD s 0
  · rw [decide_eq_true k, if_pos rfl, v_letE]
    dsimp only
    rw [nI_add, ← st.2 k, v01_b, v_ckT]
    have f2 : v_fr [] [(79, 33)] B1 (v_wr B1 79 33 (nI (t_te c T p))) := v_fro (by decide) v_frR
    exact ⟨_, rfl, v_frT f1 f2, fun _ => ⟨p1.1.fp f2, t_te_le p1.2.1, v_rdS⟩, fun w => absurd k w⟩
  · rw [decide_eq_false k, if_neg (by decide), v_letE, show nI p + 0 = nI p from nI_add p 0, v01_b, v_ckT]
    have f2 : v_fr [] [(79, 33)] B1 (v_wr B1 79 33 (nI p)) := v_fro (by decide) v_frR
    exact ⟨_, rfl, v_frT f1 f2, fun w => absurd w k, fun _ => ⟨p1.1.fp f2, p1.2.1, v_rdS⟩⟩
