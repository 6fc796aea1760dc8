/-! what code comes to; a sum -/
def SumE (S : List Op) (a : Nat) : Prop := 1 ≤ a ∧ ∀ F : Nat → Int, Fok F → ∀ st : List Int, st.length + a ≤ 64 → ∃ x : Int, (-1000000 * (a : Int) ≤ x ∧ x ≤ 1000000 * (a : Int)) ∧ run F S st (x :: st)
def TruE (S : List Op) (a : Nat) : Prop := 1 ≤ a ∧ ∀ F : Nat → Int, Fok F → ∀ st : List Int, st.length + a ≤ 64 → ∃ x : Int, (x = 0 ∨ x = 1) ∧ run F S st (x :: st)
theorem sum_op {op : Op} (h : okop op) : SumE [op] 1 := by
  refine ⟨Nat.le_refl _, fun F hF st hs => ?_⟩
  rcases h with ⟨h1, h2⟩ | ⟨h1, h2⟩
  · exact ⟨(op.2 : Int), by omega, _, Or.inl ⟨h1, by omega, h2, rfl⟩, rfl⟩
  · have := hF op.2 h2
    exact ⟨F op.2, by omega, _, Or.inr (Or.inl ⟨h1, by omega, h2, rfl⟩), rfl⟩
theorem sum_join {S : List Op} {a : Nat} (h : SumE S a) (ha : a + 1 ≤ 60) {op : Op} (ho : okop op) {j : Nat} (hj : j = 2 ∨ j = 3) : SumE (S ++ [op] ++ [(j, 0)]) (a + 1) := by
  refine ⟨by omega, fun F hF st hs => ?_⟩
  obtain ⟨x, hx, rx⟩ := h.2 F hF st (by omega)
  have h1 := h.1
  obtain ⟨y, hy, ry⟩ := (sum_op ho).2 F hF (x :: st) (by rw [List.length_cons]; omega)
  have hb : bth j x y = x + y ∨ bth j x y = x - y := by
    rcases hj with rfl | rfl
    · exact Or.inl rfl
    · exact Or.inr rfl
  have bd : -1000000 * ((a + 1 : Nat) : Int) ≤ bth j x y ∧ bth j x y ≤ 1000000 * ((a + 1 : Nat) : Int) := by
    rcases hb with e | e <;> rw [e] <;> omega
  refine ⟨bth j x y, bd, run_a (run_a rx ry) ⟨_, Or.inr (Or.inr (Or.inr ⟨?_, ?_, ?_, x, y, st, rfl, Or.inl ⟨hj, show -100000000 ≤ bth j x y by omega, show bth j x y ≤ 100000000 by omega⟩, rfl⟩)), rfl⟩⟩
  · show j ≠ 0; omega
  · show j ≠ 1; omega
  · show j ≠ 9; omega
theorem tru_cmp {S1 S2 : List Op} {a1 a2 : Nat} (h1 : SumE S1 a1) (h2 : SumE S2 a2) {j : Nat} (hj : 4 ≤ j ∧ j ≤ 8) : TruE (S1 ++ S2 ++ [(j, 0)]) (a1 + 1 + a2) := by
  refine ⟨by omega, fun F hF st hs => ?_⟩
  obtain ⟨x, hx, rx⟩ := h1.2 F hF st (by omega)
  obtain ⟨y, hy, ry⟩ := h2.2 F hF (x :: st) (by rw [List.length_cons]; have := h1.1; omega)
  have hb : bth j x y = 0 ∨ bth j x y = 1 := by
    have : j = 4 ∨ j = 5 ∨ j = 6 ∨ j = 7 ∨ j = 8 := by omega
    rcases this with rfl | rfl | rfl | rfl | rfl <;> (simp only [bth]; repeat' split) <;> simp_all
  refine ⟨bth j x y, hb, run_a (run_a rx ry) ⟨_, Or.inr (Or.inr (Or.inr ⟨?_, ?_, ?_, x, y, st, rfl, Or.inr (Or.inl hj), rfl⟩)), rfl⟩⟩
  · show j ≠ 0; omega
  · show j ≠ 1; omega
  · show j ≠ 9; omega
theorem tru_not {S : List Op} {a : Nat} (h : TruE S a) : TruE (S ++ [(9, 0)]) a := by
  refine ⟨h.1, fun F hF st hs => ?_⟩
  obtain ⟨x, hx, rx⟩ := h.2 F hF st hs
  exact ⟨1 - x, by omega, run_a rx ⟨_, Or.inr (Or.inr (Or.inl ⟨rfl, x, st, rfl, hx, rfl⟩)), rfl⟩⟩
theorem tru_join {S1 S2 : List Op} {a1 a2 : Nat} (h1 : TruE S1 a1) (h2 : TruE S2 a2) {j : Nat} (hj : j = 10 ∨ j = 11) : TruE (S1 ++ S2 ++ [(j, 0)]) (a1 + a2) := by
  refine ⟨by have := h1.1; omega, fun F hF st hs => ?_⟩
  obtain ⟨x, hx, rx⟩ := h1.2 F hF st (by omega)
  obtain ⟨y, hy, ry⟩ := h2.2 F hF (x :: st) (by rw [List.length_cons]; have := h1.1; omega)
  have hb : bth j x y = 0 ∨ bth j x y = 1 := by
    rcases hj with rfl | rfl <;> (simp only [bth]; repeat' split) <;> simp_all
  refine ⟨bth j x y, hb, run_a (run_a rx ry) ⟨_, Or.inr (Or.inr (Or.inr ⟨?_, ?_, ?_, x, y, st, rfl, Or.inr (Or.inr ⟨hj, hx, hy⟩), rfl⟩)), rfl⟩⟩
  · show j ≠ 0; omega
  · show j ≠ 1; omega
  · show j ≠ 9; omega
theorem t_sgn {c : Nat → Nat} {T p k : Nat} (hc : ∀ i, i < T → c i ≤ 255) (hk : k < 256) (hd : t_isD k = false) (hl : t_isL k = false) (h60 : ¬ k = 60) (h62 : ¬ k = 62) {x : Int32} (hx : x = nI k) : (t_by c T p = x ↔ t_tk c T p = k) ∧ (t_tk c T p = k → p < T ∧ t_te c T p = p + 1) := by
  subst hx
  have hb := t_wd_b c p (t_eL c T p)
  rw [t_by_eq hc (by omega)]
  by_cases h : p < T
  · by_cases e : c p = k
    · have tk : t_tk c T p = k := by
        unfold t_tk
        rw [if_neg (by omega), e, hd, if_neg (by decide), hl, if_neg (by decide), if_neg (fun q => h60 q.1), if_neg (fun q => h62 q.1)]
      have te : t_te c T p = p + 1 := by
        unfold t_te
        rw [if_neg (by omega), e, hd, if_neg (by decide), hl, if_neg (by decide), if_neg (fun q => q.1.elim h60 h62)]
      exact ⟨⟨fun _ => tk, fun _ => ⟨h, e⟩⟩, fun _ => ⟨h, te⟩⟩
    · have tk : ¬ t_tk c T p = k := by
        have := hc p h
        unfold t_tk
        rw [if_neg (by omega)]
        repeat' split
        all_goals omega
      exact ⟨⟨fun q => absurd q.2 e, fun q => absurd q tk⟩, fun q => absurd q tk⟩
  · have tk : ¬ t_tk c T p = k := by rw [t_tk_e (by omega)]; omega
    exact ⟨⟨fun q => absurd q.1 h, fun q => absurd q tk⟩, fun q => absurd q tk⟩
theorem nx_one {c : Nat → Nat} {T p : Nat} (h : t_te c T p = p + 1) : t_nx c T p = t_sk c T (p + 1) := by unfold t_nx; rw [h]
/-- where both stand, alike: the class before the sign at p, the reference there too -/
def BO (A B : v_M) (q o : Nat) (c : Nat → Nat) (T K p v : Nat) (L : List Op) : Prop := CR A q c T K p v L ∧ PR B c T p ∧ RC B o v L ∧ v ≤ 60
theorem s_sumL {N : Nat} (hN : 1000 ≤ N) {q o : Nat} {c : Nat → Nat} {T K : Nat} : ∀ (d n p v f g : Nat) (L : List Op) (A B : v_M), v + d = 60 → n + d ≤ 300 → BO A B q o c T K p v L → 3 * L.length + 3 ≤ 6 * v + p → ∃ (b : Bool) (A' B' : v_M), f_X7_readSum_L11 N q (f + d + 1) (nI n) A = some (v01 b, A') ∧ f_X12_sum_L8 N (g + d + 2) B = some (0, B') ∧ (b = true → ∃ (S : List Op) (a p' : Nat), (∀ S0 a0, a0 + a ≤ 60 → SumE S0 a0 → SumE (S0 ++ S) (a0 + a)) ∧ BO A' B' q o c T K p' (v + a) (L ++ S) ∧ p ≤ p' ∧ 3 * (L ++ S).length + 3 ≤ 6 * (v + a) + p' ∧ S.length ≤ 2 * a) ∧ (b = false → BD A' B' c T) := by
  have stop : ∀ (n p v f g : Nat) (L : List Op) (A B : v_M), n ≤ 300 → BO A B q o c T K p v L → 3 * L.length + 3 ≤ 6 * v + p → ¬ (t_tk c T p = 43 ∨ t_tk c T p = 45) → ∃ (b : Bool) (A' B' : v_M), f_X7_readSum_L11 N q (f + 1) (nI n) A = some (v01 b, A') ∧ f_X12_sum_L8 N (g + 1) B = some (0, B') ∧ (b = true → ∃ (S : List Op) (a p' : Nat), (∀ S0 a0, a0 + a ≤ 60 → SumE S0 a0 → SumE (S0 ++ S) (a0 + a)) ∧ BO A' B' q o c T K p' (v + a) (L ++ S) ∧ p ≤ p' ∧ 3 * (L ++ S).length + 3 ≤ 6 * (v + a) + p' ∧ S.length ≤ 2 * a) ∧ (b = false → BD A' B' c T) := by
    intro n p v f g L A B hn hb hw hs
    obtain ⟨h1, h2, h3, h4⟩ := id hb
    have hT := h2.1.1
    have hp := h2.2.1
    have g43 := (t_sgn (c := c) (T := T) (p := p) (k := 43) h1.2.1 (by omega) rfl rfl (by omega) (by omega) (x := 43) rfl).1
    have g45 := (t_sgn (c := c) (T := T) (p := p) (k := 45) h1.2.1 (by omega) rfl rfl (by omega) (by omega) (x := 45) rfl).1
    refine ⟨true, A, B, ?_, ?_, fun _ => ⟨[], 0, p, fun S0 a0 _ hS => by rw [List.append_nil]; exact hS, by rw [List.append_nil]; exact hb, Nat.le_refl _, by rw [List.append_nil]; exact hw, Nat.le_refl _⟩, (fun q => nomatch q)⟩
    · rw [f_X7_readSum_L11, if_neg (nI_400 (by omega)), if_neg (fun w => hs (Or.inl ((h1.sg (j := 43) (x := 43) (by omega) rfl).mp w))), if_neg (fun w => hs (Or.inr ((h1.sg (j := 45) (x := 45) (by omega) rfl).mp w))), v_b1, v_ckT]
      rfl
    · rw [f_X12_sum_L8, if_pos h3.1, e_sign N h2.1 (by omega) h2.2.2, Option.bind_some]
      dsimp only
      rw [if_neg (fun w => hs (Or.inl (g43.mp w))), e_sign N h2.1 (by omega) h2.2.2, Option.bind_some]
      dsimp only
      rw [if_neg (fun w => hs (Or.inr (g45.mp w)))]
  have go : ∀ (j n p v f g : Nat) (x : Int32) (L : List Op) (A B : v_M) (kc : Int32 → v_M → Option (Int32 × v_M)) (kr : v_M → Option (Int32 × v_M)), (j = 2 ∨ j = 3) → x = cod (j, 0) → BO A B q o c T K p v L → 3 * L.length + 3 ≤ 6 * v + p → p < T → t_te c T p = p + 1 → ∃ (b : Bool) (A' B' : v_M), f_X7_readSum_L52 N q kc (nI n) x A = (if b = true then kc (nI (n + 1)) A' else some (0, A')) ∧ f_X12_sum_L47 N kr (nI j) B = kr B' ∧ (b = true → v < 60 ∧ ∃ op p', okop op ∧ BO A' B' q o c T K p' (v + 1) (L ++ [op] ++ [(j, 0)]) ∧ p < p') ∧ (b = false → BD A' B' c T) := by
    intro j n p v f g x L A B kc kr hj hx hb hw hpT hte
    obtain ⟨h1, h2, h3, h4⟩ := id hb
    have hT := h2.1.1
    obtain ⟨A1, a1, c1⟩ := e_step N h1
    have f1 : v_fr [] [(79, 33)] B (v_wr B 79 33 (nI (p + 1))) := v_fro (by decide) v_frR
    have p1 : PR (v_wr B 79 33 (nI (p + 1))) c T (p + 1) := ⟨h2.1.fp f1, by omega, v_rdS⟩
    have pb : PB (v_wr B 79 33 (nI (p + 1))) c T (t_nx c T p) := by rw [nx_one hte]; exact p1.pb
    obtain ⟨b, A2, B2, ea, eb, ok, bad⟩ := s_value hN c1 pb (h3.fp f1) h4 (by omega)
    unfold f_X7_readSum_L52 f_X12_sum_L47
    rw [a1, Option.bind_some]
    dsimp only
    rw [ea, Option.bind_some, v_letE, h2.2.2, show nI p + 1 = nI (p + 1) from nI_add p 1, eb, Option.bind_some]
    dsimp only
    rw [v01_0]
    cases b with
    | true =>
      obtain ⟨hv, hp2, op, oo, c2, p2, r2⟩ := ok rfl
      rw [if_pos rfl]
      have hlen : (L ++ [op]).length = L.length + 1 := by rw [List.length_append]; rfl
      obtain ⟨A3, a3, c3⟩ := e_emit N c2 (by rw [hlen]; omega) (j, 0) hx
      obtain ⟨B3, b3, f3, r3⟩ := e_entry N r2 (by rw [hlen]; omega) (j, 0) (x := nI j) (y := 0) rfl rfl
      have p3 : PR B3 c T (t_te c T (t_nx c T p)) := ⟨p2.1.fr (v_keepC f3 79 32 (by decide)) (v_keepR f3 107 (by decide)), p2.2.1, by rw [v_keepC f3 79 33 (by decide), p2.2.2]⟩
      obtain ⟨B4, b4, f4, p4⟩ := s_blanks hN p3.pb
      refine ⟨true, A3, B4, ?_, ?_, fun _ => ⟨hv, op, t_nx c T (t_nx c T p), oo, ⟨c3, p4, r3.fp f4, by omega⟩, ?_⟩, (fun w => nomatch w)⟩
      · rw [a3, Option.bind_some, nI_1, if_pos rfl]
      · rw [b3, Option.bind_some]
        dsimp only
        rw [b4, Option.bind_some]
      · have := t_nx_gt (c := c) hpT
        have := t_nx_gt (c := c) hp2
        omega
    | false =>
      obtain ⟨F, eF, fb⟩ := bad rfl
      obtain ⟨B4, b4, fb4⟩ := fb_blanks hN fb
      refine ⟨false, A2, B4, ?_, ?_, (fun w => nomatch w), fun _ => ⟨F, eF, fb4⟩⟩
      · rw [if_neg (by decide), if_neg (by decide), v_b0, v_ckT]
      · rw [fb_entry N fb, Option.bind_some]
        dsimp only
        rw [b4, Option.bind_some]
  have turn : ∀ (n p v f g : Nat) (L : List Op) (A B : v_M), n ≤ 300 → BO A B q o c T K p v L → (t_tk c T p = 43 ∨ t_tk c T p = 45) → ∃ (j : Nat) (x : Int32), (j = 2 ∨ j = 3) ∧ x = cod (j, 0) ∧ p < T ∧ t_te c T p = p + 1 ∧ f_X7_readSum_L11 N q (f + 1) (nI n) A = f_X7_readSum_L52 N q (f_X7_readSum_L11 N q f) (nI n) x A ∧ f_X12_sum_L8 N (g + 1) B = f_X12_sum_L47 N (f_X12_sum_L8 N g) (nI j) B := by
    intro n p v f g L A B hn hb hs
    obtain ⟨h1, h2, h3, h4⟩ := id hb
    have hT := h2.1.1
    have hp := h2.2.1
    have g43 := t_sgn (c := c) (T := T) (p := p) (k := 43) h1.2.1 (by omega) rfl rfl (by omega) (by omega) (x := 43) rfl
    have g45 := t_sgn (c := c) (T := T) (p := p) (k := 45) h1.2.1 (by omega) rfl rfl (by omega) (by omega) (x := 45) rfl
    have s43 := h1.sg (j := 43) (x := 43) (by omega) rfl
    have s45 := h1.sg (j := 45) (x := 45) (by omega) rfl
    have es := e_sign N h2.1 (by omega) h2.2.2
    rcases hs with k | k
    · refine ⟨2, -9, Or.inl rfl, rfl, (g43.2 k).1, (g43.2 k).2, ?_, ?_⟩
      · rw [f_X7_readSum_L11, if_neg (nI_400 (by omega)), if_pos (s43.mpr k)]
        unfold f_X7_readSum_L36
        rw [if_pos (s43.mpr k)]
      · rw [f_X12_sum_L8, if_pos h3.1, es, Option.bind_some]
        dsimp only
        rw [if_pos (g43.1.mpr k)]
        unfold f_X12_sum_L33
        rw [es, Option.bind_some]
        dsimp only
        rw [if_pos (g43.1.mpr k)]
        rfl
    · have nk : ¬ t_tk c T p = 43 := by omega
      refine ⟨3, -10, Or.inr rfl, rfl, (g45.2 k).1, (g45.2 k).2, ?_, ?_⟩
      · rw [f_X7_readSum_L11, if_neg (nI_400 (by omega)), if_neg (fun w => nk (s43.mp w)), if_pos (s45.mpr k)]
        unfold f_X7_readSum_L36
        rw [if_neg (fun w => nk (s43.mp w))]
      · rw [f_X12_sum_L8, if_pos h3.1, es, Option.bind_some]
        dsimp only
        rw [if_neg (fun w => nk (g43.1.mp w)), es, Option.bind_some]
        dsimp only
        rw [if_pos (g45.1.mpr k)]
        unfold f_X12_sum_L33
        rw [es, Option.bind_some]
        dsimp only
        rw [if_neg (fun w => nk (g43.1.mp w))]
        rfl
  have bad : ∀ (g F : Nat) (B : v_M), FB B c T F → f_X12_sum_L8 N (g + 1) B = some (0, B) := by
    intro g F B h
    rw [f_X12_sum_L8, if_neg (by rw [h.2.2.1]; exact nI_nz h.2.1)]
  intro d
  induction d with
  | zero =>
    intro n p v f g L A B hv hn hb hw
    by_cases hs : t_tk c T p = 43 ∨ t_tk c T p = 45
    · obtain ⟨j, x, hj, hx, hpT, hte, ea, eb⟩ := turn n p v f (g + 1) L A B (by omega) hb hs
      obtain ⟨b, A1, B1, ga, gb, ok, bd⟩ := go j n p v f g x L A B (f_X7_readSum_L11 N q f) (f_X12_sum_L8 N (g + 1)) hj hx hb hw hpT hte
      cases b with
      | true => have := (ok rfl).1; omega
      | false =>
        obtain ⟨F, eF, fb⟩ := bd rfl
        exact ⟨false, A1, B1, by rw [show f + 0 + 1 = f + 1 from rfl, ea, ga]; rfl, by rw [show g + 0 + 2 = g + 1 + 1 from rfl, eb, gb, bad g F B1 fb], (fun w => nomatch w), fun _ => ⟨F, eF, fb⟩⟩
    · exact stop n p v f (g + 1) L A B (by omega) hb hw hs
  | succ d ih =>
    intro n p v f g L A B hv hn hb hw
    by_cases hs : t_tk c T p = 43 ∨ t_tk c T p = 45
    · obtain ⟨j, x, hj, hx, hpT, hte, ea, eb⟩ := turn n p v (f + d + 1) (g + d + 2) L A B (by omega) hb hs
      obtain ⟨b, A1, B1, ga, gb, ok, bd⟩ := go j n p v f g x L A B (f_X7_readSum_L11 N q (f + d + 1)) (f_X12_sum_L8 N (g + d + 2)) hj hx hb hw hpT hte
      cases b with
      | true =>
        obtain ⟨hv6, op, p', oo, hb1, hpp⟩ := ok rfl
        have hlen : (L ++ [op] ++ [(j, 0)]).length = L.length + 2 := by rw [List.length_append, List.length_append]; rfl
        obtain ⟨b2, A2, B2, ia, ib, iok, ibad⟩ := ih (n + 1) p' (v + 1) f g (L ++ [op] ++ [(j, 0)]) A1 B1 (by omega) (by omega) hb1 (by rw [hlen]; omega)
        refine ⟨b2, A2, B2, by rw [show f + (d + 1) + 1 = f + d + 1 + 1 from rfl, ea, ga, if_pos rfl, ia], by rw [show g + (d + 1) + 2 = g + d + 2 + 1 from rfl, eb, gb, ib], fun w => ?_, ibad⟩
        obtain ⟨S, a, p2, hS, hb2, hle, hw2, hSl⟩ := iok w
        have eL : L ++ ([op] ++ [(j, 0)] ++ S) = L ++ [op] ++ [(j, 0)] ++ S := by simp
        refine ⟨[op] ++ [(j, 0)] ++ S, a + 1, p2, fun S0 a0 ha hS0 => ?_, ?_, by omega, ?_, by rw [List.length_append, List.length_append]; show 1 + 1 + S.length ≤ _; omega⟩
        · have := hS (S0 ++ [op] ++ [(j, 0)]) (a0 + 1) (by omega) (sum_join hS0 (by omega) oo hj)
          rw [show a0 + 1 + a = a0 + (a + 1) by omega] at this
          rw [show S0 ++ ([op] ++ [(j, 0)] ++ S) = S0 ++ [op] ++ [(j, 0)] ++ S by simp]
          exact this
        · rw [eL, show v + (a + 1) = v + 1 + a by omega]; exact hb2
        · rw [eL, show v + (a + 1) = v + 1 + a by omega]; exact hw2
      | false =>
        obtain ⟨F, eF, fb⟩ := bd rfl
        exact ⟨false, A1, B1, by rw [show f + (d + 1) + 1 = f + d + 1 + 1 from rfl, ea, ga]; rfl, by rw [show g + (d + 1) + 2 = g + d + 2 + 1 from rfl, eb, gb, bad (g + d + 1) F B1 fb], (fun w => nomatch w), fun _ => ⟨F, eF, fb⟩⟩
    · exact stop n p v (f + (d + 1)) (g + (d + 1) + 1) L A B (by omega) hb hw hs
theorem s_sum {N : Nat} (hN : 1000 ≤ N) {A B : v_M} {q o : Nat} {c : Nat → Nat} {T K p v : Nat} {L : List Op} (h : CR A q c T K p v L) (hb : PB B c T p) (hr : RC B o v L) (hv : v ≤ 60) (hw : 3 * L.length ≤ 6 * v + p) : ∃ (b : Bool) (A' B' : v_M), f_X7_readSum N q A = some (v01 b, A') ∧ f_X12_sum N B = some (0, B') ∧ (b = true → ∃ (S : List Op) (a p' : Nat), SumE S a ∧ BO A' B' q o c T K p' (v + a) (L ++ S) ∧ p < p' ∧ 3 * (L ++ S).length + 3 ≤ 6 * (v + a) + p' ∧ S.length + 1 ≤ 2 * a) ∧ (b = false → BD A' B' c T) := by
  have hple := h.ple
  have hT := h.2.2.1
  obtain ⟨b, A1, B1, ea, eb, ok, bad⟩ := s_value hN h hb hr hv (by omega)
  unfold f_X7_readSum f_X12_sum
  rw [ea, Option.bind_some, eb, Option.bind_some]
  dsimp only
  rw [v01_0]
  cases b with
  | true =>
    obtain ⟨hv6, hpT, op, oo, c1, p1, r1⟩ := ok rfl
    obtain ⟨B2, b2, f2, p2⟩ := s_blanks hN p1.pb
    have hg := t_nx_gt (c := c) hpT
    have hlen : (L ++ [op]).length = L.length + 1 := by rw [List.length_append]; rfl
    obtain ⟨b3, A3, B3, ia, ib, iok, ibad⟩ := s_sumL hN (o := o) (60 - (v + 1)) 0 (t_nx c T p) (v + 1) (N - (60 - (v + 1)) - 1) (N - (60 - (v + 1)) - 2) (L ++ [op]) A1 B2 (by omega) (by omega) ⟨c1, p2, r1.fp f2, by omega⟩ (by rw [hlen]; omega)
    rw [show N - (60 - (v + 1)) - 1 + (60 - (v + 1)) + 1 = N by omega] at ia
    rw [show N - (60 - (v + 1)) - 2 + (60 - (v + 1)) + 2 = N by omega] at ib
    refine ⟨b3, A3, B3, by rw [if_pos rfl]; exact ia, by rw [b2, Option.bind_some]; exact ib, fun w => ?_, ibad⟩
    obtain ⟨S, a, p', hS, hb3, hle, hw3, hSl⟩ := iok w
    have e1 : L ++ ([op] ++ S) = L ++ [op] ++ S := by simp
    have hv3 := hb3.2.2.2
    refine ⟨[op] ++ S, 1 + a, p', hS [op] 1 (by omega) (sum_op oo), ?_, by omega, ?_, by rw [List.length_append]; show 1 + S.length + 1 ≤ _; omega⟩
    · rw [e1, show v + (1 + a) = v + 1 + a by omega]; exact hb3
    · rw [e1, show v + (1 + a) = v + 1 + a by omega]; exact hw3
  | false =>
    obtain ⟨F, eF, fb⟩ := bad rfl
    obtain ⟨B2, b2, fb2⟩ := fb_blanks hN fb
    refine ⟨false, A1, B2, by rw [if_neg (by decide), v_b0, v_ckT]; rfl, ?_, (fun w => nomatch w), fun _ => ⟨F, eF, fb2⟩⟩
    rw [b2, Option.bind_some]
    obtain ⟨n, rfl⟩ : ∃ n, N = n + 1 := ⟨N - 1, by omega⟩
    rw [f_X12_sum_L8, if_neg (by rw [fb2.2.2.1]; exact nI_nz fb2.2.1)]
theorem fb_sum {N : Nat} (hN : 1000 ≤ N) {B : v_M} {c : Nat → Nat} {T F : Nat} (h : FB B c T F) : ∃ B' : v_M, f_X12_sum N B = some (0, B') ∧ FB B' c T F := by
  obtain ⟨B1, b1, fb1⟩ := fb_value hN h
  obtain ⟨B2, b2, fb2⟩ := fb_blanks hN fb1
  unfold f_X12_sum
  rw [b1, Option.bind_some]
  dsimp only
  rw [b2, Option.bind_some]
  obtain ⟨n, rfl⟩ : ∃ n, N = n + 1 := ⟨N - 1, by omega⟩
  exact ⟨B2, by rw [f_X12_sum_L8, if_neg (by rw [fb2.2.2.1]; exact nI_nz fb2.2.1)], fb2⟩
