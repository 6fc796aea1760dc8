/-! what must be done, within how many days: both alike -/
theorem FB.wr {B : v_M} {c : Nat → Nat} {T F k i : Nat} {x : Int32} (h : FB B c T F) (h1 : k ≠ 79) (h2 : k ≠ 107) : FB (v_wr B k i x) c T F := by
  obtain ⟨t, f, e, p, hp, ep⟩ := h
  exact ⟨t.fr (by rw [v_rdn (by omega)]) (by rw [v_wr_n (by omega)]), f, by rw [v_rdn (by omega), e], p, hp, by rw [v_rdn (by omega), ep]⟩
theorem PR.wr {B : v_M} {c : Nat → Nat} {T p k i : Nat} {x : Int32} (h : PR B c T p) (h1 : k ≠ 79) (h2 : k ≠ 107) : PR (v_wr B k i x) c T p := ⟨h.1.fr (by rw [v_rdn (by omega)]) (by rw [v_wr_n (by omega)]), h.2.1, by rw [v_rdn (by omega), h.2.2]⟩
theorem RC.wr {B : v_M} {o v k i : Nat} {L : List Op} {x : Int32} (h : RC B o v L) (h1 : k ≠ 79) (h2 : k ≠ 108) (h3 : k ≠ 109) : RC (v_wr B k i x) o v L := h.fr (by rw [v_rdn (by omega)]) (by rw [v_rdn (by omega)]) (by rw [v_rdn (by omega)]) (by rw [v_rdn (by omega)]) (by rw [v_wr_n (by omega)]) (by rw [v_wr_n (by omega)])
theorem fb155 {N : Nat} (hN : 1000 ≤ N) {B : v_M} {c : Nat → Nat} {T F y : Nat} (hy : y < 144) (h : FB B c T F) : ∃ B' : v_M, f_X12_clause_L155 N (nI y) B = f_X12_clause_L277 N (nI y) B' ∧ FB B' c T F := by
  obtain ⟨B1, b1, fb1⟩ := fb_blanks hN h
  unfold f_X12_clause_L155 f_X12_clause_L183
  rw [b1, Option.bind_some]
  dsimp only
  rw [if_neg (by rw [fb1.2.2.1]; exact nI_nz fb1.2.1), v_ibN (show y < 144 by omega) (by omega), v_ckT, v_letE, nI_clamp (by omega)]
  exact ⟨_, rfl, fb1.wr (by omega) (by omega)⟩
def mustR (N : Nat) (y4 : Int32) (M : v_M) : Option (Int32 × v_M) := (f_X12_digits N (9 : Int32) M).bind fun z9 => v_ck (v_ib y4 144) <| v_let (v_wr z9.2 114 y4.toNatClampNeg z9.1) fun M10 => (f_X12_blanks N M10).bind fun z11 => if (z11.2.1 79 34) = 0 then ((f_X12_takes_ N 5 z11.2).bind fun z12 => if z12.1 = 0 then ((f_X12_fails N (0 : Int32) (z12.2.1 79 33) z12.2).bind fun z13 => f_X12_clause_L155 N y4 z13.2) else (f_X12_clause_L155 N y4 z12.2)) else (f_X12_clause_L155 N y4 z11.2)
theorem s_must {N : Nat} (hN : 1000 ≤ N) {q o n y : Nat} {c : Nat → Nat} {T K p v : Nat} {L : List Op} {A B : v_M} (hc : CR A q c T K p v L) (hp : PR B c T p) (hr : RC B o v L) (hn : n < 12) (hy : y < 144) : ∃ (b : Bool) (A' B' : v_M), f_X7_readMust N q (nI n) A = some (v01 b, A') ∧ mustR N (nI y) B = f_X12_clause_L277 N (nI y) B' ∧ (b = true → ∃ (k d p' : Nat), k < 10 ∧ d ≤ 999 ∧ CR A' q c T K p' v L ∧ PB B' c T p' ∧ RC B' o v L ∧ p < p' ∧ A'.1 (q + 2) n = nI k ∧ A'.1 (q + 3) n = nI d ∧ B'.1 114 y = nI k ∧ B'.1 115 y = nI d ∧ KF q A A' [(2, n), (3, n)] ∧ v_fr [] [(79, 33), (79, 34), (114, y), (115, y)] B B') ∧ (b = false → BD A' B' c T) := by
  have hple := hc.ple
  have hT := hc.2.2.1
  have hq := hc.1
  obtain ⟨b1, A1, r1, B1, ea1, eb1, ok1, bad1⟩ := s_num hN (m := 9) (by omega) hc hp hr
  have eb1' : f_X12_digits N 9 B = some (r1, B1) := eb1
  have ea1' : f_X7_isNumberTo N 9 A = some (v01 b1, A1) := ea1
  have fd1 := fr_X12_digits eb1'
  unfold f_X7_readMust mustR
  rw [ea1', Option.bind_some, eb1', Option.bind_some]
  dsimp only
  rw [v01_0, v_ibN (show y < 144 by omega) (by omega), v_ckT, v_letE, nI_clamp (show y < 2 ^ 31 by omega)]
  cases b1 with
  | false =>
    obtain ⟨F, eF, fb⟩ := bad1 rfl
    obtain ⟨B2, b2, fb2⟩ := fb_blanks hN (fb.wr (k := 114) (i := y) (x := r1) (by omega) (by omega))
    obtain ⟨B3, b3, fb3⟩ := fb155 hN hy fb2
    rw [if_neg (by decide), v_b0, v_ckT, v_letE, b2, Option.bind_some]
    dsimp only
    rw [if_neg (by rw [fb2.2.2.1]; exact nI_nz fb2.2.1), b3]
    exact ⟨false, A1, B3, rfl, rfl, (fun w => nomatch w), fun _ => ⟨F, eF, fb3⟩⟩
  | true =>
    obtain ⟨w1, hw1, eA, e4, er1, p1, rc1, hlt⟩ := ok1 rfl
    subst eA er1
    have hg := t_nx_gt (c := c) hlt
    rw [if_pos rfl, v_ibN (show n < 12 by omega) (by omega), v_ckT, v_letE, nI_clamp (show n < 2 ^ 31 by omega), e4]
    obtain ⟨A2, a2, c2⟩ := e_step N (hc.row (i := 2) (by omega) (by omega) n (nI w1))
    obtain ⟨B2, b2, f2, p2⟩ := s_blanks hN (p1.wr (k := 114) (i := y) (x := nI w1) (by omega) (by omega)).pb
    have rc2 : RC B2 o v L := (rc1.wr (k := 114) (i := y) (x := nI w1) (by omega) (by omega) (by omega)).fp f2
    have hple2 := c2.ple
    have s75 := c2.sg (j := 275) (x := 275) (by omega) rfl
    rw [a2, Option.bind_some, b2, Option.bind_some]
    dsimp only
    rw [if_pos rc2.1]
    obtain ⟨B3, b3, f3, p3y, p3n⟩ := y_takes hN (s := 5) (by omega) (by omega) (⟨_, p2, c2.sk⟩ : PB B2 c T (t_nx c T p))
    have rc3 := rc2.fp f3
    have ix5 : 260 + t_ix.getD 5 0 = 275 := rfl
    rw [ix5] at b3 p3y p3n
    rw [b3, Option.bind_some]
    dsimp only
    rw [v01_0]
    by_cases k : t_tk c T (t_nx c T p) = 275
    · rw [if_pos (s75.mpr k), decide_eq_true k, if_pos rfl]
      obtain ⟨A4, a4, c4⟩ := e_step N c2
      obtain ⟨B4, b4, f4, p4⟩ := s_blanks hN (p3y k).pb
      have rc4 := rc3.fp f4
      obtain ⟨b5, A5, r5, B5, ea5, eb5, ok5, bad5⟩ := s_num hN (m := 999) (by omega) c4 p4 rc4
      have eb5' : f_X12_digits N 999 B4 = some (r5, B5) := eb5
      have ea5' : f_X7_isNumberTo N 999 A4 = some (v01 b5, A5) := ea5
      have fd5 := fr_X12_digits eb5'
      unfold f_X12_clause_L155 f_X12_clause_L183
      rw [a4, Option.bind_some, b4, Option.bind_some]
      dsimp only
      rw [ea5', Option.bind_some, if_pos rc4.1, eb5', Option.bind_some]
      dsimp only
      rw [v01_0, v_ibN (show y < 144 by omega) (by omega), v_ckT, v_letE, nI_clamp (show y < 2 ^ 31 by omega)]
      cases b5 with
      | false =>
        obtain ⟨F, eF, fb⟩ := bad5 rfl
        rw [if_neg (by decide), v_b0, v_ckT]
        exact ⟨false, A5, _, rfl, rfl, (fun w => nomatch w), fun _ => ⟨F, eF, fb.wr (by omega) (by omega)⟩⟩
      | true =>
        obtain ⟨w5, hw5, eA5, e45, er5, p5, rc5, hlt5⟩ := ok5 rfl
        subst eA5 er5
        have hg5 := t_nx_gt (c := c) hlt5
        have hg2 : t_nx c T p ≤ t_nx c T (t_nx c T p) := by
          by_cases z : t_nx c T p < T
          · exact Nat.le_of_lt (t_nx_gt z)
          · rw [t_nx_e (p := t_nx c T p) (by omega)]; omega
        rw [if_pos rfl]
        simp only [v_ckT, v_letE]
        rw [e45]
        obtain ⟨A6, a6, c6⟩ := e_step N (c4.row (i := 3) (by omega) (by omega) n (nI w5))
        rw [a6, Option.bind_some, v_b1, v_ckT]
        have k2 : KF q A1 A2 [(2, n), (3, n)] := KF.t (kf_wr (by simp)) (kf_step hq a2)
        have k4 : KF q A1 A5 [(2, n), (3, n)] := KF.t k2 (kf_step hq a4)
        have k6 : KF q A1 A6 [(2, n), (3, n)] := KF.t k4 (KF.t (kf_wr (by simp)) (kf_step hq a6))
        have g2 : A2.1 (q + 2) n = nI w1 := by rw [(fr_X7_step a2).1 (q + 2) n (by simp) (by simp; omega), v_rdS]
        have g4 : A5.1 (q + 2) n = nI w1 := by rw [(fr_X7_step a4).1 (q + 2) n (by simp) (by simp; omega), g2]
        have g6 : A6.1 (q + 2) n = nI w1 := by rw [(fr_X7_step a6).1 (q + 2) n (by simp) (by simp; omega), v_rdn (by omega), g4]
        have h6 : A6.1 (q + 3) n = nI w5 := by rw [(fr_X7_step a6).1 (q + 3) n (by simp) (by simp; omega), v_rdS]
        have F1 : v_fr [] [(79, 33), (79, 34), (114, y), (115, y)] B (v_wr B1 114 y (nI w1)) := v_fro (by simp) (v_frt (by simp) (by simp) v_frR fd1)
        have F4 : v_fr [] [(79, 33), (79, 34), (114, y), (115, y)] B B4 := v_frt (by simp) (by simp) (v_frt (by simp) (by simp) (v_frt (by simp) (by simp) F1 f2) f3) f4
        have F5 : v_fr [] [(79, 33), (79, 34), (114, y), (115, y)] B (v_wr B5 115 y (nI w5)) := v_fro (by simp) (v_frt (by simp) (by simp) F4 fd5)
        refine ⟨true, A6, _, rfl, rfl, fun _ => ⟨w1, w5, _, by omega, hw5, c6, (p5.wr (k := 115) (by omega) (by omega)).pb, rc5.wr (by omega) (by omega) (by omega), by omega, g6, h6, ?_, v_rdS, k6, F5⟩, (fun w => nomatch w)⟩
        rw [v_rdn (by decide), v_keepR fd5 114 (by decide), v_keepR f4 114 (by decide), v_keepR f3 114 (by decide), v_keepR f2 114 (by decide), v_rdS]
    · rw [if_neg (fun w => k (s75.mp w)), decide_eq_false k, if_neg (by decide)]
      obtain ⟨A4, a4, g4⟩ := e_fail N c2 0 (x := 0) rfl
      obtain ⟨B4, b4, fb4⟩ := e_bad N rc3 (p3n k) (p' := t_nx c T p) (w := 0) hple2 (by omega) (x := 0) (y := B3.1 79 33) rfl (p3n k).2.2
      obtain ⟨B5, b5, fb5⟩ := fb155 hN hy fb4
      rw [a4, Option.bind_some, v_b0, v_ckT, b4, Option.bind_some, b5]
      exact ⟨false, A4, B5, rfl, rfl, (fun w => nomatch w), fun _ => ⟨_, g4, fb5⟩⟩
