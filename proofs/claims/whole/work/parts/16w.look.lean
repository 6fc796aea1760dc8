/-! a thing to look at: both alike -/
theorem CR.row {A : v_M} {q : Nat} {c : Nat → Nat} {T K p v : Nat} {L : List Op} (h : CR A q c T K p v L) {i : Nat} (h1 : 1 ≤ i) (h5 : i ≤ 5) (n : Nat) (x : Int32) : CR (v_wr A (q + i) n x) q c T K p v L := by
  obtain ⟨hq, hc, hT, hS, ⟨k, hk, ek, rfl⟩, s3, s4, e5, e6, e3, ec⟩ := h
  have nq : q + i ≠ 35 ∧ q + i ≠ 36 ∧ q + i ≠ 38 ∧ q + i ≠ 39 ∧ q + i ≠ 40 := by omega
  refine ⟨hq, hc, hT, hS.fr (by rw [v_rdn (by omega)]) (by rw [v_wr_n (by omega)]) (by rw [v_wr_n (by omega)]) (by rw [v_wr_n (by omega)]), ⟨k, hk, by rw [v_rdn (by omega), ek], rfl⟩, by rw [v_rdn (by omega), s3], fun w => by rw [v_rdn (by omega), s4 w], by rw [v_rdn (by omega), e5], by rw [v_rdn (by omega), e6], by rw [v_rdn (by omega), e3], fun i' o hi => by rw [v_rdn (by omega)]; exact ec i' o hi⟩
/-- rows 1 to 5 of the order, but for one place of one row -/
def KF (q : Nat) (A A' : v_M) (W : List (Nat × Nat)) : Prop := ∀ i j : Nat, 1 ≤ i → i ≤ 5 → (i, j) ∉ W → A'.1 (q + i) j = A.1 (q + i) j
theorem KF.t {q : Nat} {A A' A'' : v_M} {W : List (Nat × Nat)} (h : KF q A A' W) (k : KF q A' A'' W) : KF q A A'' W := fun i j h1 h5 hw => (k i j h1 h5 hw).trans (h i j h1 h5 hw)
theorem kf_step {N q : Nat} {A A' : v_M} {W : List (Nat × Nat)} (hq : q = 41 ∨ 150 ≤ q) (h : f_X7_step N A = some (0, A')) : KF q A A' W := by
  intro i j h1 h5 _
  have f := fr_X7_step h
  exact f.1 (q + i) j (by simp) (by simp; omega)
theorem kf_wr {q i n : Nat} {A : v_M} {x : Int32} {W : List (Nat × Nat)} (h : (i, n) ∈ W) : KF q A (v_wr A (q + i) n x) W := by
  intro i' j h1 h5 hw
  rw [v_rd, if_neg]
  intro z
  apply hw
  rw [show i' = i by omega, z.2]
  exact h
theorem s_look {N : Nat} (hN : 1000 ≤ N) {q o n y : Nat} {c : Nat → Nat} {T K p v : Nat} {L : List Op} {A B : v_M} (hc : CR A q c T K p v L) (hp : PR B c T p) (hr : RC B o v L) (hn : n < 12) (hy : y < 144) : ∃ (b : Bool) (A' B' : v_M), f_X7_readLook N q (nI n) A = some (v01 b, A') ∧ f_X12_clause_L207 N N (nI y) 0 B = f_X12_clause_L277 N (nI y) B' ∧ v_fr [] [(79, 33), (79, 34), (114, y)] B B' ∧ (b = true → CR A' q c T K (t_nx c T p) v L ∧ PR B' c T (t_te c T p) ∧ RC B' o v L ∧ p < T ∧ B'.1 114 y = A'.1 (q + 2) n ∧ KF q A A' [(2, n)]) ∧ (b = false → BD A' B' c T) := by
  have hple := hc.ple
  have hT := hc.2.2.1
  have tb := hc.tk
  have s3 := hc.2.2.2.2.2.1
  have hq := hc.1
  have e207 := e_cl207 hN hp (nI y) 4 0 (N - 5) rfl
  rw [show N - 5 + 4 + 1 = N by omega] at e207
  have e207' : f_X12_clause_L207 N N (nI y) 0 B = _ := e207
  rw [e207']
  unfold f_X7_readLook
  rw [e_within, Option.bind_some, s3, show (264 : Int32) = nI 264 from rfl, show (267 : Int32) = nI 267 from rfl, wi_sI tb (by omega) (by omega)]
  dsimp only
  rw [v01_0]
  by_cases z : 264 ≤ t_tk c T p ∧ t_tk c T p ≤ 267
  · rw [decide_eq_true z, if_pos rfl, if_pos (show 264 + 0 ≤ t_tk c T p ∧ t_tk c T p ≤ 267 from z)]
    have hlt : p < T := by
      refine Classical.byContradiction (fun w => ?_)
      rw [t_tk_e (by omega)] at z
      omega
    rw [v_ibN (show n < 12 by omega) (by omega), v_ckT, v_letE, nI_clamp (by omega), t_sI, if_neg (by omega), nI_subX z.1]
    obtain ⟨A2, a2, c2⟩ := e_step N (hc.row (i := 2) (by omega) (by omega) n (1 <<< (nI (t_tk c T p - 264) &&& 31)))
    rw [a2, Option.bind_some, v_b1, v_ckT]
    unfold f_X12_clause_L231
    rw [if_neg (fun w => by have := (nI_eqX (a := t_tk c T p - 264) (b := 4) (by omega) (by omega)).mp w; omega), v_ibN (show y < 144 by omega) (by omega), v_ckT, v_letE, nI_clamp (by omega), e_thingOf N (by omega), Option.bind_some]
    dsimp only
    rw [e_len N (by omega), Option.bind_some]
    dsimp only
    have hs := (t_stand (c := c) (T := T) (p := p) (s := 13 + (t_tk c T p - 264)) hc.2.1 (by omega) (by omega)).2 (by rw [t_ix_t _ (by omega)]; omega)
    rw [v_letE, v_rdn (k := 114) (k' := 79) (by decide), hp.2.2, nI_add, ← hs]
    have f2 : v_fr [] [(79, 33), (79, 34), (114, y)] B (v_wr (v_wr B 114 y (1 <<< (nI (t_tk c T p - 264) &&& 31))) 79 33 (nI (t_te c T p))) := v_fro (by simp) (v_fro (by simp) v_frR)
    have kq : A2.1 (q + 2) n = 1 <<< (nI (t_tk c T p - 264) &&& 31) := by
      have f := fr_X7_step a2
      rw [f.1 (q + 2) n (by simp) (by simp; omega), v_rdS]
    refine ⟨true, A2, _, rfl, rfl, f2, fun _ => ⟨c2, ⟨hp.1.fr ?_ ?_, t_te_le hple, v_rdS⟩, hr.fr ?_ ?_ ?_ ?_ ?_ ?_, hlt, ?_, KF.t (kf_wr (by simp)) (kf_step hq a2)⟩, (fun w => nomatch w)⟩
    · rw [v_rd, if_neg (by decide), v_rdn (by decide)]
    · rw [v_wr_n (by decide), v_wr_n (by decide)]
    · rw [v_rd, if_neg (by decide), v_rdn (by decide)]
    · rw [v_rd, if_neg (by decide), v_rdn (by decide)]
    · rw [v_rd, if_neg (by decide), v_rdn (by decide)]
    · rw [v_rd, if_neg (by decide), v_rdn (by decide)]
    · rw [v_wr_n (by decide), v_wr_n (by decide)]
    · rw [v_wr_n (by decide), v_wr_n (by decide)]
    · rw [v_rdn (by decide), v_rdS, kq]
  · rw [decide_eq_false z, if_neg (by decide), if_neg (show ¬ (264 + 0 ≤ t_tk c T p ∧ t_tk c T p ≤ 267) from z)]
    obtain ⟨A1, a1, g1⟩ := e_fail N hc 0 (x := 0) rfl
    obtain ⟨B3, b3, fb3⟩ := e_bad N hr hp (p' := p) (w := 0) hple (by omega) (x := 0) (y := nI p) rfl rfl
    unfold f_X12_clause_L231
    rw [a1, Option.bind_some, v_b0, v_ckT, if_pos rfl, hp.2.2, b3, Option.bind_some]
    exact ⟨false, A1, B3, rfl, rfl, v_frt (by decide) (by simp) v_frR (fr_X12_fails b3), (fun w => nomatch w), fun _ => ⟨_, g1, fb3⟩⟩
