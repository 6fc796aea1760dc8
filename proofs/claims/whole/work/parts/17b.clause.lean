/-! a clause: both alike -/
theorem fb277 (N : Nat) {B : v_M} {c : Nat → Nat} {T F y : Nat} (hy : y < 144) (h : FB B c T F) : ∃ B' : v_M, f_X12_clause_L277 N (nI y) B = some (0, B') ∧ FB B' c T F := by
  unfold f_X12_clause_L277 f_X12_clause_L309
  rw [v_ibN (show y < 144 by omega) (by omega), v_ckT, v_letE, nI_clamp (by omega)]
  have h1 : FB (v_wr B 117 y (B.1 79 36)) c T F := h.wr (by omega) (by omega)
  rw [if_neg (by rw [h1.2.2.1]; exact nI_nz h1.2.1), v_ckT, v_letE]
  exact ⟨_, rfl, h1.wr (by omega) (by omega)⟩
theorem cl33_eq (N : Nat) (x1 x2 x3 : Int32) (M : v_M) : f_X12_clause_L33 N x1 x2 x3 M = if x3 = (4 : Int32) then ((f_X12_fails N (0 : Int32) x2 M).bind fun z15 => some (0, z15.2)) else (if x1 = (12 : Int32) then ((f_X12_fails N (4 : Int32) x2 M).bind fun z14 => some (0, z14.2)) else ((f_X12_clauseOf N x3 M).bind fun z1 => (f_J0_length_8abf5 N z1.1 z1.2).bind fun z2 => v_let (v_wr z2.2 79 33 ((M.1 79 33) + z2.1)) fun M3 => v_let ((((12 : Int32) * (M3.1 79 35)) + x1)) fun y4 => v_ck (v_ib y4 144) <| v_let (v_wr M3 113 y4.toNatClampNeg x3) fun M5 => v_ck (v_ib y4 144) <| v_let (v_wr M5 116 y4.toNatClampNeg (M5.1 79 36)) fun M6 => (f_X12_blanks N M6).bind fun z7 => bodyR N x3 y4 z7.2)) := rfl
theorem clsC_eq (N q : Nat) (x1 : Int32) (M : v_M) : f_X7_readClause N q x1 M = (f_X11_within N (M.1 35 3) (260 : Int32) (263 : Int32) M).bind fun z1 => if z1.1 = 0 then ((f_X7_fail N (0 : Int32) z1.2).bind fun z10 => v_ck (v_b01 z10.1) <| some (z10.1, z10.2)) else (if x1 < (12 : Int32) then (v_let (((z1.2.1 35 3) - (260 : Int32))) fun y2 => v_ck (v_ib x1 12) <| v_let (v_wr z1.2 (q + 1) x1.toNatClampNeg y2) fun M3 => (f_X7_step N M3).bind fun z4 => (f_X7_readBody N q y2 x1 z4.2).bind fun z5 => if z5.1 = 0 then (v_ck (v_b01 (0 : Int32)) <| some ((0 : Int32), z5.2)) else clsIf N q x1 z5.2) else ((f_X7_fail N (4 : Int32) z1.2).bind fun z9 => v_ck (v_b01 z9.1) <| some (z9.1, z9.2))) := rfl
theorem s_clause {N : Nat} (hN : 1000 ≤ N) {q o n : Nat} {c : Nat → Nat} {T K p v : Nat} {L : List Op} {A B : v_M} (hc : CR A q c T K p v L) (hp : PB B c T p) (hr : RC B o v L) (h7 : B.1 79 37 = 0) (hn : n ≤ 12) (hv : v ≤ 60) (hw : 3 * L.length ≤ 6 * v + p) : ∃ (b : Bool) (A' B' : v_M), f_X7_readClause N q (nI n) A = some (v01 b, A') ∧ f_X12_clause N (nI n) B = some (0, B') ∧ (b = true → n < 12 ∧ ∃ (S : List Op) (a p' : Nat), CR A' q c T K p' (v + a) (L ++ S) ∧ PB B' c T p' ∧ RC B' o (v + a) (L ++ S) ∧ B'.1 79 37 = 0 ∧ v + a ≤ 60 ∧ p < p' ∧ 3 * (L ++ S).length ≤ 6 * (v + a) + p' ∧ CL A' B' q (12 * o + n) n (L ++ S) ∧ A'.1 q 2 = nI (n + 1) ∧ (∀ i j, 1 ≤ i → i ≤ 5 → ¬ j = n → A'.1 (q + i) j = A.1 (q + i) j) ∧ (∀ k j, 113 ≤ k → k ≤ 118 → ¬ j = 12 * o + n → B'.1 k j = B.1 k j)) ∧ (b = false → ∃ F : Nat, A'.1 35 6 = nI F ∧ FB1 B' c T F) := by
  have hple := hc.ple
  have hT := hc.2.2.1
  have hq := hc.1
  have tb := hc.tk
  have s3 := hc.2.2.2.2.2.1
  have ho := hr.2.1
  obtain ⟨B1, b1, f1, p1⟩ := s_blanks hN hp
  have r1 := hr.fp f1
  have e11 := e_cl11 hN p1 (nI n) (nI p) 4 0 (N - 5) rfl
  rw [show N - 5 + 4 + 1 = N by omega] at e11
  have e11' : f_X12_clause_L11 N N (nI n) (nI p) 0 B1 = _ := e11
  rw [clsC_eq]
  unfold f_X12_clause
  rw [b1, Option.bind_some]
  dsimp only
  rw [v_letE, p1.2.2, e11', e_within, Option.bind_some, s3, show (260 : Int32) = nI 260 from rfl, show (263 : Int32) = nI 263 from rfl, wi_sI tb (by omega) (by omega)]
  dsimp only
  rw [v01_0]
  have n12 : (nI n < (12 : Int32)) ↔ n < 12 := nI_ltX (b := 12) (by omega) (by omega)
  have e12 : (nI n = (12 : Int32)) ↔ n = 12 := nI_eqX (b := 12) (by omega) (by omega)
  by_cases z : 260 ≤ t_tk c T p ∧ t_tk c T p ≤ 263
  · rw [decide_eq_true z, if_pos rfl, if_pos (show 260 + 0 ≤ t_tk c T p ∧ t_tk c T p ≤ 263 from z)]
    have hlt : p < T := by
      refine Classical.byContradiction (fun w => ?_)
      rw [t_tk_e (by omega)] at z
      omega
    have hg := t_nx_gt (c := c) hlt
    obtain ⟨h, hh, eh⟩ : ∃ h, h ≤ 3 ∧ t_tk c T p = 260 + h := ⟨t_tk c T p - 260, by omega, by omega⟩
    rw [cl33_eq, show t_tk c T p - 260 = h by omega, if_neg (show ¬ nI h = 4 from fun w => by have := (nI_eqX (a := h) (b := 4) (by omega) (by omega)).mp w; omega)]
    by_cases c12 : n < 12
    · rw [if_pos (n12.mpr c12), if_neg (fun w => by have := e12.mp w; omega)]
      have hs := (t_stand (c := c) (T := T) (p := p) (s := 1 + h) hc.2.1 (by omega) (by omega)).2 (by rw [t_ix_c _ (by omega)]; exact eh)
      have hy : 12 * o + n < 144 := by omega
      have sub : t_sI (t_tk c T p) - nI 260 = nI h := by rw [t_sI, if_neg (by omega), eh, nI_subX (by omega)]; exact congrArg nI (by omega)
      rw [v_letE, sub, v_ibN (show n < 12 by omega) (by omega), v_ckT, v_letE, nI_clamp (show n < 2 ^ 31 by omega)]
      obtain ⟨A2, a2, c2⟩ := e_step N (hc.row (i := 1) (by omega) (by omega) n (nI h))
      rw [a2, Option.bind_some, e_clauseOf N (by omega), Option.bind_some]
      dsimp only
      rw [e_len N (by omega), Option.bind_some]
      dsimp only
      have f2 : v_fr [] [(79, 33)] B1 (v_wr B1 79 33 (nI (t_te c T p))) := v_fro (by decide) v_frR
      rw [v_letE, p1.2.2, nI_add, ← hs]
      have e35 : (v_wr B1 79 33 (nI (t_te c T p))).1 79 35 = nI o := (r1.fp f2).2.2.1
      have yy : (12 : Int32) * nI o + nI n = nI (12 * o + n) := by rw [show (12 : Int32) = nI 12 from rfl, nI_mul, nI_add]
      rw [v_letE, e35, yy, v_ibN (show 12 * o + n < 144 by omega) (by omega), v_ckT, v_letE, v_ckT, v_letE, nI_clamp (show 12 * o + n < 2 ^ 31 by omega), v_rdn (k := 113) (k' := 79) (by decide), (r1.fp f2).2.2.2.1]
      have p3 : PR (v_wr (v_wr (v_wr B1 79 33 (nI (t_te c T p))) 113 (12 * o + n) (nI h)) 116 (12 * o + n) (nI L.length)) c T (t_te c T p) := PR.wr (PR.wr ⟨p1.1.fp f2, t_te_le hple, v_rdS⟩ (by omega) (by omega)) (by omega) (by omega)
      have r3 : RC (v_wr (v_wr (v_wr B1 79 33 (nI (t_te c T p))) 113 (12 * o + n) (nI h)) 116 (12 * o + n) (nI L.length)) o v L := ((r1.fp f2).wr (by omega) (by omega) (by omega)).wr (by omega) (by omega) (by omega)
      obtain ⟨B4, b4, f4, p4⟩ := s_blanks hN p3.pb
      have r4 := r3.fp f4
      obtain ⟨b5, A5, B5, a5, b5e, ok5, bad5⟩ := s_body hN c2 p4 r4 c12 hy hh hv (by omega)
      rw [b4, Option.bind_some]
      dsimp only
      rw [b5e, a5, Option.bind_some]
      dsimp only
      rw [v01_0]
      cases b5 with
      | false =>
        obtain ⟨F, eF, fbF⟩ := bad5 rfl
        obtain ⟨B6, b6, fb6⟩ := fb277 N hy fbF
        rw [if_neg (by decide), v_b0, v_ckT, b6]
        exact ⟨false, A5, B6, rfl, rfl, (fun w => nomatch w), fun _ => ⟨F, eF, fb6.one⟩⟩
      | true =>
        obtain ⟨S, a, p5, c5, q5, r5, hv5, hpp5, hl5, g0, g1, g2, kf5, fr5⟩ := ok5 rfl
        have h75 : B5.1 79 37 = 0 := by rw [fr5.1 79 37 (by simp) (by simp), v_keepC f4 79 37 (by decide), v_rdn (by decide), v_rdn (by decide), v_keepC f2 79 37 (by decide), v_keepC f1 79 37 (by decide), h7]
        have hlen : (L ++ S).length = L.length + S.length := List.length_append
        obtain ⟨b6, A6, B6, a6, b6e, ok6, bad6⟩ := s_if hN c5 q5 r5 h75 c12 hy hv5 (by omega)
        rw [if_pos rfl, a6, b6e]
        refine ⟨b6, A6, B6, rfl, rfl, fun w => ⟨c12, ?_⟩, bad6⟩
        obtain ⟨S2, a2', p6, c6, q6, r6, g7, hv6, hpp6, hl6, g4, g5, g17, g18, tr, gq, kf6, fr6⟩ := ok6 w
        have hlen2 : (L ++ S ++ S2).length = L.length + S.length + S2.length := by rw [List.length_append, List.length_append]
        have kr : ∀ i j, 1 ≤ i → i ≤ 5 → ¬ j = n → A6.1 (q + i) j = A.1 (q + i) j := by
          intro i j h1 h5 hj
          rw [kf6 i j h1 h5 (by simp; omega), kf5 i j h1 h5 (by simp; omega), kf_step (W := []) hq a2 i j h1 h5 (by simp), v_rd, if_neg (by omega)]
        have kb : ∀ k j, 113 ≤ k → k ≤ 118 → ¬ j = 12 * o + n → B6.1 k j = B.1 k j := by
          intro k j h1 h5 hj
          rw [fr6.1 k j (by simp; omega) (by simp; omega), fr5.1 k j (by simp; omega) (by simp; omega), f4.1 k j (by simp) (by simp; omega), v_rd, if_neg (by omega), v_rd, if_neg (by omega), f2.1 k j (by simp) (by simp; omega), f1.1 k j (by simp) (by simp; omega)]
        have e1 : A6.1 (q + 1) n = nI h := by rw [kf6 1 n (by omega) (by omega) (by simp), kf5 1 n (by omega) (by omega) (by simp), kf_step (W := []) hq a2 1 n (by omega) (by omega) (by simp), v_rdS]
        have e2 : B6.1 113 (12 * o + n) = nI h := by rw [fr6.1 113 _ (by simp) (by simp), fr5.1 113 _ (by simp) (by simp), f4.1 113 _ (by simp) (by simp), v_rdn (by decide), v_rdS]
        have e6 : B6.1 116 (12 * o + n) = nI L.length := by rw [fr6.1 116 _ (by simp) (by simp), fr5.1 116 _ (by simp) (by simp), f4.1 116 _ (by simp) (by simp), v_rdS]
        have e22 : A6.1 (q + 2) n = A5.1 (q + 2) n := kf6 2 n (by omega) (by omega) (by simp)
        have e23 : A6.1 (q + 3) n = A5.1 (q + 3) n := kf6 3 n (by omega) (by omega) (by simp)
        have e14 : B6.1 114 (12 * o + n) = B5.1 114 (12 * o + n) := fr6.1 114 _ (by simp) (by simp)
        have e15 : B6.1 115 (12 * o + n) = B5.1 115 (12 * o + n) := fr6.1 115 _ (by simp) (by simp)
        have cl : CL A6 B6 q (12 * o + n) n (L ++ S ++ S2) := by
          refine ⟨(L ++ S).length, (L ++ S ++ S2).length, ⟨by omega, Nat.le_refl _⟩, ⟨g4, g5, g17, g18⟩, fun w => ?_, h, hh, e1, e2, fun w => ?_, fun w => ?_, fun w => ?_⟩
          · rw [seg_end]
            exact tru_of (tr w) (by omega)
          · rw [e22, e23, e14, e15]
            exact g0 w
          · obtain ⟨s1, s2⟩ := g1 w
            refine ⟨L.length, by omega, by rw [e22, s2], e6, ?_⟩
            rw [seg_app (by omega) (Nat.le_refl _), seg_end]
            exact num_of s1 (by omega)
          · rw [e14, e22]
            exact g2 w
        rw [List.append_assoc] at c6 r6 cl hlen2
        rw [Nat.add_assoc] at c6 r6 hv6
        exact ⟨S ++ S2, a + a2', p6, c6, q6, r6, g7, hv6, by omega, by omega, cl, gq, kr, kb⟩
    · obtain rfl : n = 12 := by omega
      obtain ⟨A4, a4, g4⟩ := e_fail N hc 4 (x := 4) rfl
      obtain ⟨B3, b3, fb3⟩ := e_bad N r1 p1 (p' := p) (w := 4) hple (by omega) (x := 4) (y := nI p) rfl rfl
      rw [if_neg (fun w => c12 (n12.mp w)), if_pos (e12.mpr rfl), a4, Option.bind_some, v_b0, v_ckT, b3, Option.bind_some]
      exact ⟨false, A4, B3, rfl, rfl, (fun w => nomatch w), fun _ => ⟨_, g4, fb3.one⟩⟩
  · rw [decide_eq_false z, if_neg (by decide), if_neg (show ¬ (260 + 0 ≤ t_tk c T p ∧ t_tk c T p ≤ 263) from z)]
    obtain ⟨A4, a4, g4⟩ := e_fail N hc 0 (x := 0) rfl
    obtain ⟨B3, b3, fb3⟩ := e_bad N r1 p1 (p' := p) (w := 0) hple (by omega) (x := 0) (y := nI p) rfl rfl
    rw [cl33_eq, if_pos rfl, a4, Option.bind_some, v_b0, v_ckT, b3, Option.bind_some]
    exact ⟨false, A4, B3, rfl, rfl, (fun w => nomatch w), fun _ => ⟨_, g4, fb3.one⟩⟩
