/-! a fact: both alike -/
theorem LN_close {N : Nat} (hN : 1000 ≤ N) {B : v_M} {d p o v : Nat} {S : List Nat} {c : Nat → Nat} {T : Nat} {L : List Op} (h : RX B (d + 1) (12 :: S)) (hd : Wn S ≤ d) (hr : RC B o v L) (hp : PB B c T p) (h78 : ¬ t_tk c T p = 278) (h77 : ¬ t_tk c T p = 277) : (t_tk c T p = 93 → ∃ B' : v_M, (∀ n, LN N (n + 1) B = LN N n B') ∧ PR B' c T (t_te c T p) ∧ RC B' o v L ∧ RX B' d S) ∧ (¬ t_tk c T p = 93 → ∃ B' : v_M, (∀ n, LN N (n + 1) B = LN N n B') ∧ FB1 B' c T (1 + 8 * p + 0)) := by
  obtain ⟨B1, f1, p1, e1⟩ := LN_open hN h (fun w => nomatch Option.some.inj w) hr.1 hp
  have hT := p1.1.1
  have hpT := p1.2.1
  have x1 : RX B1 (d + 1) (12 :: S) := h.fr (v_keepC f1 79 37 (by decide)) (v_keepC f1 79 39 (by decide)) (v_keepR f1 119 (by decide))
  have r1 := hr.fp f1
  have n1 : ∀ j, j < 12 → f_X12_answers N (nI j) B1 = some (0, B1) := by
    intro j hj
    obtain ⟨m, rfl⟩ : ∃ m, N = m + 1 := ⟨N - 1, by omega⟩
    exact ans_no (m + 1) m x1 (k := j) (by omega) (fun w => by have := Option.some.inj w; omega) rfl
  have g93 := t_sgn (c := c) (T := T) (p := p) (k := 93) p1.1.2.1 (by omega) rfl rfl (by omega) (by omega) (x := 93) rfl
  have e9 : B1.1 79 39 = nI (S.length + 1) := by rw [x1.2.1, List.length_cons]
  have hl := x1.2.2.1
  rw [List.length_cons] at hl
  have un : ∀ n, LN N (n + 1) B = if t_by c T p = 93 then f_X12_test_L164 N (f_X12_test_L9 N n) 0 1 B1 else ((f_X12_fails N 0 (nI p) B1).bind fun z => f_X12_test_L164 N (f_X12_test_L9 N n) 0 1 z.2) := by
    intro n
    rw [e1, show (10 : Int32) = nI 10 from rfl, n1 10 (by omega), Option.bind_some]
    unfold LNk
    rw [decide_eq_false h78, decide_eq_false h77, if_pos (show v01 false = 0 from rfl), if_pos (show v01 false = 0 from rfl)]
    dsimp only
    rw [show (11 : Int32) = nI 11 from rfl, n1 11 (by omega), Option.bind_some]
    dsimp only
    rw [e_top N x1, Option.bind_some]
    dsimp only
    rw [if_pos (show nI 12 = 12 from rfl), e_sign N p1.1 (by omega) p1.2.2, Option.bind_some]
    dsimp only
    rw [p1.2.2]
  have cl : ∀ M : v_M, M.1 79 33 = nI p → M.1 79 39 = nI (S.length + 1) → M.1 79 37 = nI (d + 1) → ∀ n, f_X12_test_L164 N (f_X12_test_L9 N n) 0 1 M = LN N n (v_wr (v_wr (v_wr M 79 33 (nI (p + 1))) 79 39 (nI S.length)) 79 37 (nI d)) := by
    intro M m3 m9 m7 n
    unfold f_X12_test_L164 f_X12_test_L199
    rw [v_letE, m3, nI_1, v_letE, v_rd, if_neg (by decide), m9, show nI (S.length + 1) - 1 = nI S.length from nI_subX (a := S.length + 1) (b := 1) (by omega), v_letE, v_rd, if_neg (by decide), v_rd, if_neg (by decide), m7, show nI (d + 1) - 1 = nI d from nI_subX (a := d + 1) (b := 1) (by omega)]
    rfl
  constructor
  · intro k
    have f2 : v_fr [] [(79, 33), (79, 37), (79, 39)] B1 (v_wr (v_wr (v_wr B1 79 33 (nI (p + 1))) 79 39 (nI S.length)) 79 37 (nI d)) := v_fro (by decide) (v_fro (by decide) (v_fro (by decide) v_frR))
    refine ⟨_, fun n => by rw [un, if_pos (g93.1.mpr k), cl B1 p1.2.2 e9 x1.1], ⟨p1.1.fr (v_keepC f2 79 32 (by decide)) (v_keepR f2 107 (by decide)), t_te_le hpT, ?_⟩, r1.fr (v_keepC f2 79 34 (by decide)) (v_keepC f2 79 35 (by decide)) (v_keepC f2 79 36 (by decide)) (v_keepC f2 79 38 (by decide)) (v_keepR f2 108 (by decide)) (v_keepR f2 109 (by decide)), v_rdS, by rw [v_rd, if_neg (by decide), v_rdS], by omega, hd, fun j hj => x1.2.2.2.2.1 j (List.mem_cons_of_mem _ hj), stk_fr x1.2.2.2.2.2.2 (fun i _ => by rw [v_keepR f2 119 (by decide)])⟩
    rw [v_rd, if_neg (by decide), v_rd, if_neg (by decide), v_rdS, (g93.2 k).2]
  · intro k
    have ef := e_fails N 0 p (x := 0) (y := nI p) rfl rfl B1
    rw [r1.1, t_ft_0] at ef
    have f3 : v_fr [] [(79, 34)] B1 (v_wr B1 79 34 (nI (1 + 8 * p + 0))) := v_fro (by decide) v_frR
    have f2 : v_fr [] [(79, 33), (79, 34), (79, 37), (79, 39)] B1 (v_wr (v_wr (v_wr (v_wr B1 79 34 (nI (1 + 8 * p + 0))) 79 33 (nI (p + 1))) 79 39 (nI S.length)) 79 37 (nI d)) := v_fro (by decide) (v_fro (by decide) (v_fro (by decide) (v_fro (by decide) v_frR)))
    refine ⟨_, fun n => by rw [un, if_neg (fun w => k (g93.1.mp w)), ef, Option.bind_some, cl _ (by rw [v_keepC f3 79 33 (by decide), p1.2.2]) (by rw [v_keepC f3 79 39 (by decide), e9]) (by rw [v_keepC f3 79 37 (by decide), x1.1])], p1.1.fr (v_keepC f2 79 32 (by decide)) (v_keepR f2 107 (by decide)), by omega, ?_, p + 1, by omega, ?_⟩
    · rw [v_rd, if_neg (by decide), v_rd, if_neg (by decide), v_rd, if_neg (by decide), v_rdS]
    · rw [v_rd, if_neg (by decide), v_rd, if_neg (by decide), v_rdS]
theorem fact_cmp {N : Nat} (hN : 1000 ≤ N) {q o : Nat} {c : Nat → Nat} {T K d : Nat} {p v : Nat} {L : List Op} {S : List Nat} {A B : v_M} (hc : CR A q c T K p v L) (hp : PB B c T p) (hr : RC B o v L) (hv : v ≤ 60) (hx : RX B d S) (hw : 3 * (L.length + Wn S) ≤ 6 * v + p) (k1 : ¬ t_tk c T p = 279) (k2 : ¬ t_tk c T p = 91) : ∃ (b : Bool) (A' : v_M), r3_cmp N q A = some (v01 b, A') ∧ Res N q o c T K d S p v L (fun n => LW N n B) 3 b A' (fun S' a _ => TruE S' a) := by
  have hple := hc.ple
  obtain ⟨B1, f1, p1, _, _, e1⟩ := LW_fact hN hp hr
  have e1' := e1 k1 k2
  obtain ⟨b, A2, B2, a2, b2, ok, bad⟩ := s_cmp hN hc (⟨p, p1, hc.sk⟩ : PB B1 c T p) (hr.fp f1) hv (by omega)
  have f2 := fr_X12_compared b2
  have un : ∀ n, LW N (n + 1 + 1) B = LN N (n + 1) B2 := fun n => by rw [e1', b2, Option.bind_some]
  refine ⟨b, A2, a2, ?_, ?_⟩
  · intro w
    obtain ⟨S', a, p', tr, ⟨c2, pr2, r2, hv2⟩, hp2, hl⟩ := ok w
    refine ⟨B2, S', a, p', 1, tr, c2, ⟨p', pr2, c2.sk⟩, r2, hx.fr ?_ ?_ ?_, hv2, by omega, by omega, by omega, un⟩
    · rw [v_keepC f2 79 37 (by decide), v_keepC f1 79 37 (by decide)]
    · rw [v_keepC f2 79 39 (by decide), v_keepC f1 79 39 (by decide)]
    · rw [v_keepR f2 119 (by decide), v_keepR f1 119 (by decide)]
  · intro w
    obtain ⟨F, eF, fb⟩ := bad w
    exact ⟨B2, 1, F, eF, fb.one, by omega, fun n => by show LW N (n + 1 + 1) B = _; rw [un, LN_bad N n fb.one]⟩
