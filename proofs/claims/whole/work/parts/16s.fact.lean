/-! a fact: not, brackets; all depths -/
theorem t_279 {c : Nat → Nat} {T p : Nat} (hc : ∀ i, i < T → c i ≤ 255) (h : t_tk c T p = 279) : p < T ∧ t_te c T p = p + 3 := by
  refine ⟨Classical.byContradiction (fun w => ?_), (t_stand (c := c) (T := T) (p := p) (s := 18) hc (by omega) (by omega)).2 h⟩
  rw [t_tk_e (by omega)] at h
  omega
/-- an opening sign: too deep -/
theorem fact_deep {N : Nat} (hN : 1000 ≤ N) {q o : Nat} {c : Nat → Nat} {T K : Nat} {p v w : Nat} {L : List Op} {S : List Nat} {A B : v_M} (hc : CR A q c T K p v L) (hp : PB B c T p) (hr : RC B o v L) (hx : RX B 10 S) (hS : S.length ≤ p) (hw : t_te c T p = p + w) (hk : (t_tk c T p = 279 ∧ w = 3) ∨ (t_tk c T p = 91 ∧ w = 1)) : ∃ A' : v_M, f_X7_fail N 2 A = some (0, A') ∧ Res N q o c T K 10 S p v L (fun n => LW N n B) 3 false A' (fun S' a _ => TruE S' a) := by
  have hple := hc.ple
  have hT := hc.2.2.1
  obtain ⟨B1, f1, p1, e1, e2, _⟩ := LW_fact hN hp hr
  have x1 : RX B1 10 S := hx.fr (v_keepC f1 79 37 (by decide)) (v_keepC f1 79 39 (by decide)) (v_keepR f1 119 (by decide))
  have h4 : B1.1 79 34 = 0 := (hr.fp f1).1
  obtain ⟨A', a', g'⟩ := e_fail N hc 2 (x := 2) rfl
  have hte := t_te_le (c := c) hple
  have fin : ∀ k, (k = 9 ∨ k = 12) → (∀ n, LW N (n + 1) B = (f_X12_opens N (nI k) B1).bind fun z => LW N n (v_wr z.2 79 33 (z.2.1 79 33 + nI w))) → Res N q o c T K 10 S p v L (fun n => LW N n B) 3 false A' (fun S' a _ => TruE S' a) := by
    intro k hk e
    obtain ⟨B2, b2, q4, p2⟩ := op_deep N x1 (by omega) hk h4 p1 (x := nI k) rfl
    have fb : FB1 (v_wr B2 79 33 (nI (p + w))) c T (1 + 8 * p + 2) := ⟨p2.1.fr (by rw [v_rd, if_neg (by decide)]) (by rw [v_wr_n (by decide)]), by omega, by rw [v_rd, if_neg (by decide), q4], p + w, by omega, v_rdS⟩
    refine ⟨(fun w => nomatch w), fun _ => ⟨_, 1, _, g', fb, by omega, fun n => ?_⟩⟩
    show LW N (n + 1 + 1) B = _
    rw [e, b2, Option.bind_some]
    dsimp only
    rw [p2.2.2, nI_add, LW_bad N n fb]
  refine ⟨A', a', ?_⟩
  rcases hk with ⟨k, rfl⟩ | ⟨k, rfl⟩
  · exact fin 9 (Or.inl rfl) (e1 k)
  · exact fin 12 (Or.inr rfl) (e2 k)
/-- an opening sign: what the reference does -/
theorem LW_in {N : Nat} (hN : 1000 ≤ N) {c : Nat → Nat} {T o : Nat} {p v w d j : Nat} {L : List Op} {S : List Nat} {B : v_M} (hp : PB B c T p) (hr : RC B o v L) (hx : RX B d S) (hd : d < 10) (hS : S.length ≤ 400) (hw : t_te c T p = p + w) (hk : (t_tk c T p = 279 ∧ w = 3 ∧ j = 9) ∨ (t_tk c T p = 91 ∧ w = 1 ∧ j = 12)) : ∃ B' : v_M, (∀ n, LW N (n + 1) B = LW N n B') ∧ PR B' c T (t_te c T p) ∧ RC B' o v L ∧ RX B' (d + 1) (j :: S) := by
  obtain ⟨B1, f1, p1, e1, e2, _⟩ := LW_fact hN hp hr
  have x1 : RX B1 d S := hx.fr (v_keepC f1 79 37 (by decide)) (v_keepC f1 79 39 (by decide)) (v_keepR f1 119 (by decide))
  have r1 := hr.fp f1
  have fin : (j = 9 ∨ j = 12) → (∀ n, LW N (n + 1) B = (f_X12_opens N (nI j) B1).bind fun z => LW N n (v_wr z.2 79 33 (z.2.1 79 33 + nI w))) → ∃ B' : v_M, (∀ n, LW N (n + 1) B = LW N n B') ∧ PR B' c T (t_te c T p) ∧ RC B' o v L ∧ RX B' (d + 1) (j :: S) := by
    intro hj e
    obtain ⟨B2, b2, f2, x2⟩ := op_in N x1 hS hj hd (x := nI j) rfl
    have f3 : v_fr [] [(79, 33)] B2 (v_wr B2 79 33 (nI (t_te c T p))) := v_fro (by decide) v_frR
    refine ⟨v_wr B2 79 33 (nI (t_te c T p)), fun n => ?_, ⟨p1.1.fr ?_ ?_, t_te_le p1.2.1, v_rdS⟩, (r1.fr (v_keepC f2 79 34 (by decide)) (v_keepC f2 79 35 (by decide)) (v_keepC f2 79 36 (by decide)) (v_keepC f2 79 38 (by decide)) (v_keepR f2 108 (by decide)) (v_keepR f2 109 (by decide))).fp f3, x2.fr (v_keepC f3 79 37 (by decide)) (v_keepC f3 79 39 (by decide)) (v_keepR f3 119 (by decide))⟩
    · rw [e, b2, Option.bind_some]
      dsimp only
      rw [v_keepC f2 79 33 (by decide), p1.2.2, nI_add, hw]
    · rw [v_keepC f3 79 32 (by decide), v_keepC f2 79 32 (by decide)]
    · rw [v_keepR f3 107 (by decide), v_keepR f2 107 (by decide)]
  rcases hk with ⟨k, rfl, rfl⟩ | ⟨k, rfl, rfl⟩
  · exact fin (Or.inl rfl) (e1 k)
  · exact fin (Or.inr rfl) (e2 k)
/-! the class's word behind not, or in brackets -/
theorem r3_deep (N q : Nat) (rf : r3_RF) {A A' : v_M} (h : f_X7_fail N 2 A = some (0, A')) : f_X7_readFact_L19 N q rf (nI 10) A = some (v01 false, A') := by
  unfold f_X7_readFact_L19 f_X7_readInner
  rw [nI_1, if_neg (show ¬ nI (10 + 1) ≤ (10 : Int32) from fun w => absurd ((nI_leX (a := 10 + 1) (b := 10) (by omega) (by omega)).mp w) (by omega)), h, Option.bind_some]
  dsimp only
  rw [v_b0, v_ckT, Option.bind_some]
  dsimp only
  rw [v_b0, v_ckT] <;> rfl
theorem r3_le10 {d : Nat} (hd : d < 10) : nI (d + 1) ≤ (10 : Int32) := (nI_leX (a := d + 1) (b := 10) (by omega) (by omega)).mpr (by omega)
theorem r3_in1 (N q : Nat) (rf : r3_RF) {d : Nat} (hd : d < 10) {A A' : v_M} {b : Bool} (h : A.1 35 3 = (279 : Int32)) (h2 : f_X7_readInner_L27 N q rf (nI (d + 1)) 1 A = some (v01 b, A')) : f_X7_readFact_L19 N q rf (nI d) A = some (v01 b, A') := by
  unfold f_X7_readFact_L19 f_X7_readInner
  rw [nI_1, if_pos (r3_le10 hd), if_pos h, h2, Option.bind_some]
  dsimp only
  rw [v01_b, v_ckT] <;> rfl
theorem r3_in0 (N q : Nat) (rf : r3_RF) {d : Nat} (hd : d < 10) {A A' : v_M} {b : Bool} (h : ¬ A.1 35 3 = (279 : Int32)) (h2 : f_X7_readInner_L27 N q rf (nI (d + 1)) 0 A = some (v01 b, A')) : f_X7_readFact_L19 N q rf (nI d) A = some (v01 b, A') := by
  unfold f_X7_readFact_L19 f_X7_readInner
  rw [nI_1, if_pos (r3_le10 hd), if_neg h, h2, Option.bind_some]
  dsimp only
  rw [v01_b, v_ckT] <;> rfl
theorem fact_not {N : Nat} (hN : 1000 ≤ N) {q o : Nat} {c : Nat → Nat} {T K d : Nat} {rf : Int32 → v_M → Option (Int32 × v_M)} (hf : FactOK N q o c T K rf (d + 1)) (hd : d < 10) {p v : Nat} {L : List Op} {S : List Nat} {A B : v_M} (hc : CR A q c T K p v L) (hp : PB B c T p) (hr : RC B o v L) (hv : v ≤ 60) (hx : RX B d S) (hS : S.length ≤ p) (hw : 3 * (L.length + Wn S) ≤ 6 * v + p) (k : t_tk c T p = 279) : ∃ (b : Bool) (A' : v_M), f_X7_readInner_L27 N q rf (nI (d + 1)) 1 A = some (v01 b, A') ∧ Res N q o c T K d S p v L (fun n => LW N n B) 3 b A' (fun S' a _ => TruE S' a) := by
  have hple := hc.ple
  have hT := hc.2.2.1
  obtain ⟨hlt, te⟩ := t_279 hc.2.1 k
  obtain ⟨A1, a1, c1⟩ := e_step N hc
  obtain ⟨B1, e1, p1, r1, x1⟩ := LW_in hN (w := 3) (j := 9) hp hr hx hd (by omega) te (Or.inl ⟨k, rfl, rfl⟩)
  have hnx : p + 3 ≤ t_nx c T p := by have := t_sk_ge c T (t_te c T p); unfold t_nx; omega
  have hW : Wn (9 :: S) = 1 + Wn S := by rw [Wn, if_pos rfl]
  obtain ⟨b, A2, a2, g1, g2⟩ := hf A1 B1 (t_nx c T p) v L (9 :: S) c1 p1.pb r1 hv x1 (by rw [List.length_cons]; omega) (by rw [hW]; omega)
  unfold f_X7_readInner_L27 f_X7_readInner_L57
  rw [a1, Option.bind_some, if_neg (show ¬ (1 : Int32) = 0 by decide)]
  dsimp only
  rw [a2, Option.bind_some]
  dsimp only
  rw [v01_0]
  cases b with
  | true =>
    obtain ⟨B3, S3, a3, p3, m3, j3, c3, pb3, r3, x3, hv3, hp3, hl3, hm3, en3⟩ := g1 rfl
    have hple3 := c3.ple
    have hlen : (L ++ S3).length = L.length + S3.length := List.length_append
    obtain ⟨A4, a4, c4⟩ := e_emit N c3 (by rw [hlen]; omega) (9, 0) (x := -8) rfl
    obtain ⟨B4, e4, f4, r4, x4⟩ := LN_not hN x3 r3 (by rw [hlen, hW]; omega)
    obtain ⟨p', pp, pe⟩ := pb3
    have pb4 : PB B4 c T p3 := ⟨p', ⟨pp.1.fr (v_keepC f4 79 32 (by decide)) (v_keepR f4 107 (by decide)), pp.2.1, by rw [v_keepC f4 79 33 (by decide), pp.2.2]⟩, pe⟩
    have eL : L ++ (S3 ++ [(9, 0)]) = L ++ S3 ++ [(9, 0)] := by simp
    refine ⟨true, A4, by rw [if_pos rfl, if_neg (show ¬ (1 : Int32) = 0 by decide), a4, Option.bind_some, v_b1, v_ckT]; rfl, fun _ => ⟨B4, S3 ++ [(9, 0)], a3, p3, m3 + 1, tru_not j3, by rw [eL]; exact c4, pb4, by rw [eL]; exact r4, x4, hv3, by omega, by rw [List.length_append]; show 3 * (S3.length + 1) + 3 ≤ _; omega, by omega, fun n => ?_⟩, (fun w => nomatch w)⟩
    have := en3 n
    dsimp only at this ⊢
    rw [show n + (m3 + 1) + 1 = (n + m3 + 1) + 1 by omega, e1, this, e4]
  | false =>
    obtain ⟨B3, m3, F, eF, fb, hm, en⟩ := g2 rfl
    refine ⟨false, A2, by rw [if_neg (by decide), v_b0, v_ckT]; rfl, (fun w => nomatch w), fun _ => ⟨B3, m3 + 1, F, eF, fb, by omega, fun n => ?_⟩⟩
    have := en n
    dsimp only at this ⊢
    rw [show n + (m3 + 1) + 1 = (n + m3 + 1) + 1 by omega, e1, this]
theorem fact_in {N : Nat} (hN : 1000 ≤ N) {q o : Nat} {c : Nat → Nat} {T K d : Nat} {rf : Int32 → v_M → Option (Int32 × v_M)} (hf : FactOK N q o c T K rf (d + 1)) (hd : d < 10) {p v : Nat} {L : List Op} {S : List Nat} {A B : v_M} (hc : CR A q c T K p v L) (hp : PB B c T p) (hr : RC B o v L) (hv : v ≤ 60) (hx : RX B d S) (hS : S.length ≤ p) (hw : 3 * (L.length + Wn S) ≤ 6 * v + p) (k : t_tk c T p = 91) : ∃ (b : Bool) (A' : v_M), f_X7_readInner_L27 N q rf (nI (d + 1)) 0 A = some (v01 b, A') ∧ Res N q o c T K d S p v L (fun n => LW N n B) 3 b A' (fun S' a _ => TruE S' a) := by
  have hple := hc.ple
  have hT := hc.2.2.1
  obtain ⟨hlt, te⟩ := (t_sgn (c := c) (T := T) (p := p) (k := 91) hc.2.1 (by omega) rfl rfl (by omega) (by omega) (x := 91) rfl).2 k
  obtain ⟨A1, a1, c1⟩ := e_step N hc
  obtain ⟨B1, e1, p1, r1, x1⟩ := LW_in hN (w := 1) (j := 12) hp hr hx hd (by omega) te (Or.inr ⟨k, rfl, rfl⟩)
  have hnx : p + 1 ≤ t_nx c T p := t_nx_gt hlt
  have hW : Wn (12 :: S) = Wn S := by rw [Wn, if_neg (by omega)]; omega
  obtain ⟨b, A2, a2, g1, g2⟩ := s_test hN hf (S := 12 :: S) (fun w => nomatch Option.some.inj w) (fun w => nomatch Option.some.inj w) (fun w => nomatch Option.some.inj w) c1 p1.pb r1 hv x1 (by rw [List.length_cons]; omega) (by rw [hW]; omega)
  unfold f_X7_readInner_L27 f_X7_readInner_L57
  rw [a1, Option.bind_some, if_pos (show (0 : Int32) = 0 from rfl)]
  dsimp only
  rw [a2, Option.bind_some]
  dsimp only
  rw [v01_0]
  cases b with
  | true =>
    obtain ⟨B3, S3, a3, p3, m3, ⟨j3, t77, t78⟩, c3, pb3, r3, x3, hv3, hp3, hl3, hm3, en3⟩ := g1 rfl
    have hple3 := c3.ple
    have s93 := c3.sg (j := 93) (x := 93) (by omega) rfl
    have cl := LN_close hN x3 hx.2.2.2.1 r3 pb3 t78 t77
    rw [if_pos rfl, if_pos (show (0 : Int32) = 0 from rfl)]
    by_cases z : t_tk c T p3 = 93
    · obtain ⟨B4, e4, p4, r4, x4⟩ := cl.1 z
      obtain ⟨A4, a4, c4⟩ := e_step N c3
      have h3 := (t_sgn (c := c) (T := T) (p := p3) (k := 93) hc.2.1 (by omega) rfl rfl (by omega) (by omega) (x := 93) rfl).2 z
      have hg := t_nx_gt (c := c) h3.1
      rw [if_pos (s93.mpr z), a4, Option.bind_some, v_b1, v_ckT]
      refine ⟨true, A4, rfl, fun _ => ⟨B4, S3, a3, t_nx c T p3, m3 + 2, j3, c4, p4.pb, r4, x4, hv3, by omega, by omega, by omega, fun n => ?_⟩, (fun w => nomatch w)⟩
      have := en3 (n + 1)
      dsimp only at this ⊢
      rw [show n + (m3 + 2) + 1 = (n + 1 + m3 + 1) + 1 by omega, e1, this, e4]
    · obtain ⟨B4, e4, fb⟩ := cl.2 z
      obtain ⟨A4, a4, g4⟩ := e_fail N c3 0 (x := 0) rfl
      rw [if_neg (fun w => z (s93.mp w)), a4, Option.bind_some, v_b0, v_ckT]
      refine ⟨false, A4, rfl, (fun w => nomatch w), fun _ => ⟨B4, m3 + 2, _, g4, fb, by omega, fun n => ?_⟩⟩
      have := en3 (n + 1)
      dsimp only at this ⊢
      rw [show n + (m3 + 2) + 1 = (n + 1 + m3 + 1) + 1 by omega, e1, this, e4, LN_bad N n fb]
  | false =>
    obtain ⟨B3, m3, F, eF, fb, hm, en⟩ := g2 rfl
    refine ⟨false, A2, by rw [if_neg (by decide), v_b0, v_ckT]; rfl, (fun w => nomatch w), fun _ => ⟨B3, m3 + 1, F, eF, fb, by omega, fun n => ?_⟩⟩
    have := en n
    dsimp only at this ⊢
    rw [show n + (m3 + 1) + 1 = (n + m3 + 1) + 1 by omega, e1, this]
theorem fact_ok {N : Nat} (hN : 1000 ≤ N) {q o : Nat} {c : Nat → Nat} {T K : Nat} : ∀ (e d k : Nat), d + e = 10 → FactOK N q o c T K (f_fact N q (k + e + 1)) d := by
  intro e
  induction e with
  | zero =>
    intro d k hd A B p v L S hc hp hr hv hx hS hw
    obtain rfl : d = 10 := by omega
    have s79 := hc.sg (j := 279) (x := 279) (by omega) rfl
    have s91 := hc.sg (j := 91) (x := 91) (by omega) rfl
    rw [show k + 0 + 1 = k + 1 from rfl, f_fact, r3_fact]
    by_cases k1 : t_tk c T p = 279
    · rw [if_pos (s79.mpr k1)]
      obtain ⟨A', a', r⟩ := fact_deep hN (w := 3) hc hp hr hx hS (t_279 hc.2.1 k1).2 (Or.inl ⟨k1, rfl⟩)
      exact ⟨false, A', r3_deep N q _ a', r⟩
    · rw [if_neg (fun w => k1 (s79.mp w))]
      by_cases k2 : t_tk c T p = 91
      · rw [if_pos (s91.mpr k2)]
        obtain ⟨A', a', r⟩ := fact_deep hN (w := 1) hc hp hr hx hS ((t_sgn (c := c) (T := T) (p := p) (k := 91) hc.2.1 (by omega) rfl rfl (by omega) (by omega) (x := 91) rfl).2 k2).2 (Or.inr ⟨k2, rfl⟩)
        exact ⟨false, A', r3_deep N q _ a', r⟩
      · rw [if_neg (fun w => k2 (s91.mp w))]
        exact fact_cmp hN hc hp hr hv hx hw k1 k2
  | succ e ih =>
    intro d k hd A B p v L S hc hp hr hv hx hS hw
    have hf := ih (d + 1) k (by omega)
    have s79 := hc.sg (j := 279) (x := 279) (by omega) rfl
    have s91 := hc.sg (j := 91) (x := 91) (by omega) rfl
    rw [show k + (e + 1) + 1 = (k + e + 1) + 1 from rfl, f_fact, r3_fact]
    by_cases k1 : t_tk c T p = 279
    · rw [if_pos (s79.mpr k1)]
      obtain ⟨b, A', a', r⟩ := fact_not hN hf (by omega) hc hp hr hv hx hS hw k1
      exact ⟨b, A', r3_in1 N q _ (by omega) (s79.mpr k1) a', r⟩
    · rw [if_neg (fun w => k1 (s79.mp w))]
      by_cases k2 : t_tk c T p = 91
      · rw [if_pos (s91.mpr k2)]
        obtain ⟨b, A', a', r⟩ := fact_in hN hf (by omega) hc hp hr hv hx hS hw k2
        exact ⟨b, A', r3_in0 N q _ (by omega) (fun w => k1 (s79.mp w)) a', r⟩
      · rw [if_neg (fun w => k2 (s91.mp w))]
        exact fact_cmp hN hc hp hr hv hx hw k1 k2
