/-! all of them: both alike -/
theorem s_allL {N : Nat} (hN : 1000 ≤ N) {q o : Nat} {c : Nat → Nat} {T K d : Nat} {rf : Int32 → v_M → Option (Int32 × v_M)} (hf : FactOK N q o c T K rf d) {S : List Nat} (h9 : S.head? ≠ some 9) (h10 : S.head? ≠ some 10) : ∀ (e n p v f : Nat) (L : List Op) (A B : v_M), 60 ≤ v + e ∧ v ≤ 60 → n + e ≤ 300 → CR A q c T K p v L → PB B c T p → RC B o v L → RX B d S → S.length ≤ p → 3 * (L.length + Wn S) ≤ 6 * v + p → ∃ (b : Bool) (A' : v_M), f_X7_readAll_L12 N q rf (f + e + 1) (nI d) (nI n) A = some (v01 b, A') ∧ Res N q o c T K d S p v L (fun n => LN N n B) 0 b A' (fun S' a p' => (∀ S0 a0, TruE S0 a0 → TruE (S0 ++ S') (a0 + a)) ∧ ¬ t_tk c T p' = 278) := by
  intro e
  induction e with
  | zero =>
    intro n p v f L A B hv hn hc hp hr hx hS hw
    have hT := hc.2.2.1
    have hple := hc.ple
    have s78 := hc.sg (j := 278) (x := 278) (by omega) rfl
    rw [show f + 0 + 1 = f + 1 from rfl, f_X7_readAll_L12, if_neg (nI_400 (by omega))]
    by_cases k : t_tk c T p = 278
    · rw [if_pos (s78.mpr k)]
      obtain ⟨B1, e1, p1, r1, x1, hlt⟩ := LN_join hN hx (by omega) h9 h10 hr hp (Or.inl ⟨rfl, k⟩)
      obtain ⟨A1, a1, c1⟩ := e_step N hc
      have hg := t_nx_gt (c := c) hlt
      obtain ⟨b, A2, a2, g1, g2⟩ := hf A1 B1 (t_nx c T p) v L (10 :: S) c1 p1.pb r1 (by omega) x1 (by rw [List.length_cons]; omega) (by rw [Wn, if_neg (by omega)]; omega)
      rw [a1, Option.bind_some]
      dsimp only
      rw [a2, Option.bind_some]
      dsimp only
      rw [v01_0]
      cases b with
      | true =>
        obtain ⟨B3, S3, a3, p3, m3, j3, _, _, _, _, hv3, _⟩ := g1 rfl
        have := j3.1
        omega
      | false =>
        obtain ⟨B3, m3, F, eF, fb, hm, en⟩ := g2 rfl
        refine ⟨false, A2, by rw [if_neg (by decide), v_b0, v_ckT]; rfl, (fun w => nomatch w), fun _ => ⟨B3, m3 + 1, F, eF, fb, by omega, fun n => ?_⟩⟩
        show LN N (n + (m3 + 1) + 1) B = _
        rw [show n + (m3 + 1) + 1 = (n + m3 + 1) + 1 by omega, e1]
        exact en n
    · rw [if_neg (fun w => k (s78.mp w)), v_b1, v_ckT]
      exact ⟨true, A, rfl, fun _ => ⟨B, [], 0, p, 0, ⟨fun S0 a0 h => by rw [List.append_nil]; exact h, k⟩, by rw [List.append_nil]; exact hc, hp, by rw [List.append_nil]; exact hr, hx, by omega, Nat.le_refl _, by rw [List.length_nil]; omega, by omega, fun n => rfl⟩, (fun w => nomatch w)⟩
  | succ e ih =>
    intro n p v f L A B hv hn hc hp hr hx hS hw
    have hT := hc.2.2.1
    have hple := hc.ple
    have s78 := hc.sg (j := 278) (x := 278) (by omega) rfl
    rw [show f + (e + 1) + 1 = (f + e + 1) + 1 from rfl, f_X7_readAll_L12, if_neg (nI_400 (by omega))]
    by_cases k : t_tk c T p = 278
    · rw [if_pos (s78.mpr k)]
      obtain ⟨B1, e1, p1, r1, x1, hlt⟩ := LN_join hN hx (by omega) h9 h10 hr hp (Or.inl ⟨rfl, k⟩)
      obtain ⟨A1, a1, c1⟩ := e_step N hc
      have hg := t_nx_gt (c := c) hlt
      obtain ⟨b, A2, a2, g1, g2⟩ := hf A1 B1 (t_nx c T p) v L (10 :: S) c1 p1.pb r1 (by omega) x1 (by rw [List.length_cons]; omega) (by rw [Wn, if_neg (by omega)]; omega)
      rw [a1, Option.bind_some]
      dsimp only
      rw [a2, Option.bind_some]
      dsimp only
      rw [v01_0]
      cases b with
      | true =>
        obtain ⟨B3, S3, a3, p3, m3, j3, c3, pb3, r3, x3, hv3, hp3, hl3, hm3, en3⟩ := g1 rfl
        have ha3 := j3.1
        have hple3 := c3.ple
        have hlen : (L ++ S3).length = L.length + S3.length := List.length_append
        obtain ⟨A4, a4, c4⟩ := e_emit N c3 (by rw [hlen]; omega) (10, 0) (x := -16) rfl
        obtain ⟨B4, e4, p4, r4, x4⟩ := LN_and hN x3 h9 h10 r3 pb3 c3.sk (by rw [hlen]; omega)
        have hlen2 : (L ++ S3 ++ [(10, 0)]).length = L.length + S3.length + 1 := by rw [List.length_append, hlen]; rfl
        have pb4 : PB B4 c T p3 := ⟨p3, p4, c3.sk⟩
        have hle : S.length ≤ p3 := by omega
        have hwn : Wn (10 :: S) = Wn S := by rw [Wn, if_neg (by omega)]; omega
        obtain ⟨b5, A5, a5, k1, k2⟩ := ih (n + 1) p3 (v + a3) f (L ++ S3 ++ [(10, 0)]) A4 B4 (by omega) (by omega) c4 pb4 r4 x4 hle (by rw [hlen2]; omega)
        refine ⟨b5, A5, ?_, ?_, ?_⟩
        · rw [if_pos rfl, a4, Option.bind_some, nI_1]
          exact a5
        · intro w
          obtain ⟨B6, S6, a6, p6, m6, ⟨j6, t6⟩, c6, pb6, r6, x6, hv6, hp6, hl6, hm6, en6⟩ := k1 w
          have eL : L ++ (S3 ++ [(10, 0)] ++ S6) = L ++ S3 ++ [(10, 0)] ++ S6 := by simp
          have ev : v + (a3 + a6) = v + a3 + a6 := by omega
          refine ⟨B6, S3 ++ [(10, 0)] ++ S6, a3 + a6, p6, m3 + 1 + m6, ⟨fun S0 a0 h0 => ?_, t6⟩, by rw [eL, ev]; exact c6, pb6, by rw [eL, ev]; exact r6, x6, by omega, by omega, ?_, by omega, fun n => ?_⟩
          · have := j6 (S0 ++ S3 ++ [(10, 0)]) (a0 + a3) (tru_join h0 j3 (Or.inl rfl))
            rw [show a0 + a3 + a6 = a0 + (a3 + a6) by omega] at this
            rw [show S0 ++ (S3 ++ [(10, 0)] ++ S6) = S0 ++ S3 ++ [(10, 0)] ++ S6 by simp]
            exact this
          · rw [List.length_append, List.length_append]
            show 3 * (S3.length + 1 + S6.length) + 0 ≤ _
            omega
          · show LN N (n + (m3 + 1 + m6) + 1) B = _
            rw [show n + (m3 + 1 + m6) + 1 = (n + m6 + m3 + 1) + 1 by omega, e1]
            have := en3 (n + m6)
            dsimp only at this
            rw [this, e4]
            exact en6 n
        · intro w
          obtain ⟨B6, m6, F, eF, fb, hm, en6⟩ := k2 w
          refine ⟨B6, m3 + 1 + m6, F, eF, fb, by omega, fun n => ?_⟩
          show LN N (n + (m3 + 1 + m6) + 1) B = _
          rw [show n + (m3 + 1 + m6) + 1 = (n + m6 + m3 + 1) + 1 by omega, e1]
          have := en3 (n + m6)
          dsimp only at this
          rw [this, e4]
          exact en6 n
      | false =>
        obtain ⟨B3, m3, F, eF, fb, hm, en⟩ := g2 rfl
        refine ⟨false, A2, by rw [if_neg (by decide), v_b0, v_ckT]; rfl, (fun w => nomatch w), fun _ => ⟨B3, m3 + 1, F, eF, fb, by omega, fun n => ?_⟩⟩
        show LN N (n + (m3 + 1) + 1) B = _
        rw [show n + (m3 + 1) + 1 = (n + m3 + 1) + 1 by omega, e1]
        exact en n
    · rw [if_neg (fun w => k (s78.mp w)), v_b1, v_ckT]
      exact ⟨true, A, rfl, fun _ => ⟨B, [], 0, p, 0, ⟨fun S0 a0 h => by rw [List.append_nil]; exact h, k⟩, by rw [List.append_nil]; exact hc, hp, by rw [List.append_nil]; exact hr, hx, by omega, Nat.le_refl _, by rw [List.length_nil]; omega, by omega, fun n => rfl⟩, (fun w => nomatch w)⟩
theorem s_all {N : Nat} (hN : 1000 ≤ N) {q o : Nat} {c : Nat → Nat} {T K d : Nat} {rf : Int32 → v_M → Option (Int32 × v_M)} (hf : FactOK N q o c T K rf d) {S : List Nat} (h9 : S.head? ≠ some 9) (h10 : S.head? ≠ some 10) {p v : Nat} {L : List Op} {A B : v_M} (hc : CR A q c T K p v L) (hp : PB B c T p) (hr : RC B o v L) (hv : v ≤ 60) (hx : RX B d S) (hS : S.length ≤ p) (hw : 3 * (L.length + Wn S) ≤ 6 * v + p) : ∃ (b : Bool) (A' : v_M), f_X7_readAll N q rf (nI d) A = some (v01 b, A') ∧ Res N q o c T K d S p v L (fun n => LW N n B) 3 b A' (fun S' a p' => TruE S' a ∧ ¬ t_tk c T p' = 278) := by
  obtain ⟨b, A2, a2, g1, g2⟩ := hf A B p v L S hc hp hr hv hx hS hw
  unfold f_X7_readAll
  rw [a2, Option.bind_some]
  dsimp only
  rw [v01_0]
  cases b with
  | true =>
    obtain ⟨B3, S3, a3, p3, m3, j3, c3, pb3, r3, x3, hv3, hp3, hl3, hm3, en3⟩ := g1 rfl
    have hlen : (L ++ S3).length = L.length + S3.length := List.length_append
    obtain ⟨b5, A5, a5, k1, k2⟩ := s_allL hN hf h9 h10 60 0 p3 (v + a3) (N - 61) (L ++ S3) A2 B3 ⟨by omega, hv3⟩ (by omega) c3 pb3 r3 x3 (by omega) (by rw [hlen]; omega)
    rw [show N - 61 + 60 + 1 = N by omega] at a5
    refine ⟨b5, A5, by rw [if_pos rfl]; exact a5, ?_, ?_⟩
    · intro w
      obtain ⟨B6, S6, a6, p6, m6, ⟨j6, t6⟩, c6, pb6, r6, x6, hv6, hp6, hl6, hm6, en6⟩ := k1 w
      have eL : L ++ (S3 ++ S6) = L ++ S3 ++ S6 := by simp
      have ev : v + (a3 + a6) = v + a3 + a6 := by omega
      refine ⟨B6, S3 ++ S6, a3 + a6, p6, m3 + m6, ⟨j6 S3 a3 j3, t6⟩, by rw [eL, ev]; exact c6, pb6, by rw [eL, ev]; exact r6, x6, by omega, by omega, by rw [List.length_append]; omega, by omega, fun n => ?_⟩
      have := en3 (n + m6)
      dsimp only at this ⊢
      rw [show n + (m3 + m6) + 1 = n + m6 + m3 + 1 by omega, this]
      exact en6 n
    · intro w
      obtain ⟨B6, m6, F, eF, fb, hm, en6⟩ := k2 w
      refine ⟨B6, m3 + m6, F, eF, fb, by omega, fun n => ?_⟩
      have := en3 (n + m6)
      dsimp only at this ⊢
      rw [show n + (m3 + m6) + 1 = n + m6 + m3 + 1 by omega, this]
      exact en6 n
  | false =>
    obtain ⟨B3, m3, F, eF, fb, hm, en⟩ := g2 rfl
    exact ⟨false, A2, by rw [if_neg (by decide), v_b0, v_ckT]; rfl, (fun w => nomatch w), fun _ => ⟨B3, m3, F, eF, fb, hm, en⟩⟩
