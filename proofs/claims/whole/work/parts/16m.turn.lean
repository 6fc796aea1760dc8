/-! the reference's test: turns of its loop -/
def LW (N n : Nat) (B : v_M) : Option (Int32 × v_M) := f_X12_test_L9 N n 1 1 B
def LN (N n : Nat) (B : v_M) : Option (Int32 × v_M) := f_X12_test_L9 N n 0 1 B
theorem LN_eq (N n : Nat) {B B' : v_M} (h : B.1 79 34 = 0) (h' : B'.1 79 34 = 0) (e : f_X12_answers N 9 B = f_X12_answers N 9 B') : LN N (n + 1) B = LN N (n + 1) B' := by
  unfold LN
  rw [f_X12_test_L9, f_X12_test_L9, if_neg (show ¬ (1 : Int32) = 0 by decide), if_neg (show ¬ (1 : Int32) = 0 by decide), if_pos h, if_pos h', if_pos (show (0 : Int32) = 0 from rfl), if_pos (show (0 : Int32) = 0 from rfl), e]
/-- a not on top: it is answered -/
theorem LN_not {N : Nat} (hN : 1000 ≤ N) {B : v_M} {d o v : Nat} {O : List Nat} {L : List Op} (h : RX B d (9 :: O)) (hr : RC B o v L) (hl : L.length + Wn (9 :: O) < 300) : ∃ B' : v_M, (∀ n, LN N (n + 1) B = LN N (n + 1) B') ∧ v_fr [108, 109] [(79, 36), (79, 37), (79, 39)] B B' ∧ RC B' o v (L ++ [(9, 0)]) ∧ RX B' (d - 1) O := by
  obtain ⟨m, rfl⟩ : ∃ m, N = m + 1 := ⟨N - 1, by omega⟩
  have hlen := h.2.2.1
  obtain ⟨B', e, f, r, x⟩ := ans_step (m + 1) m h hr (by rw [Wn] at hl; omega) (x := 9) rfl
  rw [if_pos rfl] at x
  refine ⟨B', fun n => LN_eq (m + 1) n hr.1 r.1 ?_, f, r, x⟩
  rw [List.length_cons] at hlen
  rw [Wn, if_pos rfl] at hl
  obtain ⟨z, hz⟩ := ans9 (m + 1) O m (d - 1) (L ++ [(9, 0)]) B' (by omega) x r (by rw [List.length_append]; show L.length + 1 + _ < 300; omega)
  unfold f_X12_answers
  rw [e, hz, ans_mono (m + 1) m 9 B' z hz]
def LNk (N n : Nat) (y4 y6 : Int32) (z7 : Int32 × v_M) : Option (Int32 × v_M) :=
  if y4 = 0 then (if y6 = 0 then ((f_X12_answers N (11 : Int32) z7.2).bind fun z8 => (f_X12_top N z8.2).bind fun z9 => if z9.1 = (12 : Int32) then ((f_X12_sign N z9.2).bind fun z10 => if z10.1 = (93 : Int32) then (f_X12_test_L164 N (f_X12_test_L9 N n) 0 1 z10.2) else ((f_X12_fails N (0 : Int32) (z10.2.1 79 33) z10.2).bind fun z11 => f_X12_test_L164 N (f_X12_test_L9 N n) 0 1 z11.2)) else (f_X12_test_L199 N (f_X12_test_L9 N n) 0 (0 : Int32) z9.2)) else (f_X12_test_L82 N (f_X12_test_L9 N n) 1 y4 y6 z7.2)) else (f_X12_test_L82 N (f_X12_test_L9 N n) 1 y4 y6 z7.2)
/-- no not on top: blanks, and what stands there -/
theorem LN_open {N : Nat} (hN : 1000 ≤ N) {B : v_M} {d p : Nat} {S : List Nat} {c : Nat → Nat} {T : Nat} (h : RX B d S) (ht : S.head? ≠ some 9) (h4 : B.1 79 34 = 0) (hp : PB B c T p) : ∃ B' : v_M, v_fr [] [(79, 33)] B B' ∧ PR B' c T p ∧ ∀ n, LN N (n + 1) B = (f_X12_answers N 10 B').bind (LNk N n (v01 (decide (t_tk c T p = 278))) (v01 (decide (t_tk c T p = 277)))) := by
  obtain ⟨B', b, f, pr⟩ := s_blanks hN hp
  refine ⟨B', f, pr, fun n => ?_⟩
  obtain ⟨m, rfl⟩ : ∃ m, N = m + 1 := ⟨N - 1, by omega⟩
  unfold LN
  rw [f_X12_test_L9, if_neg (by decide), if_pos h4, if_pos rfl]
  have a9 : f_X12_answers (m + 1) 9 B = some (0, B) := ans_no (m + 1) m h (k := 9) (by omega) ht rfl
  rw [a9, Option.bind_some]
  dsimp only
  rw [b, Option.bind_some]
  dsimp only
  rw [e_stands hN pr.1 (s := 19) (by omega) (by omega) pr.2.1 pr.2.2, Option.bind_some]
  dsimp only
  rw [v_letE, e_stands hN pr.1 (s := 20) (by omega) (by omega) pr.2.1 pr.2.2, Option.bind_some]
  dsimp only
  rw [v_letE]
  rfl
theorem LN_sk {N : Nat} (hN : 1000 ≤ N) (n : Nat) {B : v_M} {d p : Nat} {S : List Nat} {c : Nat → Nat} {T : Nat} (h : RX B d S) (ht : S.head? ≠ some 9) (h4 : B.1 79 34 = 0) (hp : PR B c T p) (hs : t_sk c T p = p) : LN N (n + 1) B = (f_X12_answers N 10 B).bind (LNk N n (v01 (decide (t_tk c T p = 278))) (v01 (decide (t_tk c T p = 277)))) := by
  have hT := hp.1.1
  obtain ⟨m, rfl⟩ : ∃ m, N = m + 1 := ⟨N - 1, by omega⟩
  have b : f_X12_blanks (m + 1) B = some (0, B) := by
    unfold f_X12_blanks
    rw [f_X12_blanks_L0, e_sign (m + 1) hp.1 (by have := hp.2.1; omega) hp.2.2, Option.bind_some]
    dsimp only
    rw [if_neg]
    intro w
    have := (t_by_32 hp.1.2.1).mp w
    have g := t_sk_t this.1 this.2
    have := t_sk_ge c T (p + 1)
    omega
  unfold LN
  rw [f_X12_test_L9, if_neg (by decide), if_pos h4, if_pos rfl]
  have a9 : f_X12_answers (m + 1) 9 B = some (0, B) := ans_no (m + 1) m h (k := 9) (by omega) ht rfl
  rw [a9, Option.bind_some]
  dsimp only
  rw [b, Option.bind_some]
  dsimp only
  rw [e_stands hN hp.1 (s := 19) (by omega) (by omega) hp.2.1 hp.2.2, Option.bind_some]
  dsimp only
  rw [v_letE, e_stands hN hp.1 (s := 20) (by omega) (by omega) hp.2.1 hp.2.2, Option.bind_some]
  dsimp only
  rw [v_letE]
  rfl
/-- one step of an answer, then none: as if answered before -/
theorem ans_one {N : Nat} (hN : 1000 ≤ N) {B : v_M} {d k o v : Nat} {O : List Nat} {L : List Op} (h : RX B d (k :: O)) (hk : k = 10 ∨ k = 11) (ho : O.head? ≠ some k) (hr : RC B o v L) (hl : L.length < 300) {x : Int32} (hx : x = nI k) : ∃ B' : v_M, f_X12_answers N x B = some (0, B') ∧ f_X12_answers N x B' = some (0, B') ∧ v_fr [108, 109] [(79, 36), (79, 37), (79, 39)] B B' ∧ RC B' o v (L ++ [(k, 0)]) ∧ RX B' d O := by
  obtain ⟨m, rfl⟩ : ∃ m, N = m + 2 := ⟨N - 2, by omega⟩
  obtain ⟨B', e, f, r, g⟩ := ans_step (m + 2) (m + 1) h hr hl hx
  rw [if_neg (by omega)] at g
  unfold f_X12_answers
  exact ⟨B', by rw [e]; exact ans_no (m + 2) m g (by omega) ho hx, ans_no (m + 2) (m + 1) g (by omega) ho hx, f, r, g⟩
/-- first blanks, then an and on top is answered -/
theorem LN_and {N : Nat} (hN : 1000 ≤ N) {B : v_M} {d p o v : Nat} {O : List Nat} {c : Nat → Nat} {T : Nat} {L : List Op} (h : RX B d (10 :: O)) (h9 : O.head? ≠ some 9) (h10 : O.head? ≠ some 10) (hr : RC B o v L) (hp : PB B c T p) (hps : t_sk c T p = p) (hl : L.length < 300) : ∃ B' : v_M, (∀ n, LN N (n + 1) B = LN N (n + 1) B') ∧ PR B' c T p ∧ RC B' o v (L ++ [(10, 0)]) ∧ RX B' d O := by
  obtain ⟨B1, f1, p1, e1⟩ := LN_open hN h (fun w => nomatch Option.some.inj w) hr.1 hp
  have x1 : RX B1 d (10 :: O) := h.fr (v_keepC f1 79 37 (by decide)) (v_keepC f1 79 39 (by decide)) (v_keepR f1 119 (by decide))
  obtain ⟨B2, a2, b2, f2, r2, x2⟩ := ans_one hN x1 (Or.inl rfl) h10 (hr.fp f1) hl (x := 10) rfl
  have p2 : PR B2 c T p := ⟨p1.1.fr (v_keepC f2 79 32 (by decide)) (v_keepR f2 107 (by decide)), p1.2.1, by rw [v_keepC f2 79 33 (by decide), p1.2.2]⟩
  exact ⟨B2, fun n => by rw [e1, a2, LN_sk hN n x2 h9 r2.1 p2 hps, b2], p2, r2, x2⟩
/-- an or on top, and no and stands there: it is answered -/
theorem LN_or {N : Nat} (hN : 1000 ≤ N) {B : v_M} {d p o v : Nat} {O : List Nat} {c : Nat → Nat} {T : Nat} {L : List Op} (h : RX B d (11 :: O)) (h9 : O.head? ≠ some 9) (h10 : O.head? ≠ some 10) (h11 : O.head? ≠ some 11) (hr : RC B o v L) (hp : PB B c T p) (hps : t_sk c T p = p) (hl : L.length < 300) (hn : ¬ t_tk c T p = 278) : ∃ B' : v_M, (∀ n, LN N (n + 1) B = LN N (n + 1) B') ∧ PR B' c T p ∧ RC B' o v (L ++ [(11, 0)]) ∧ RX B' d O := by
  obtain ⟨B1, f1, p1, e1⟩ := LN_open hN h (fun w => nomatch Option.some.inj w) hr.1 hp
  have x1 : RX B1 d (11 :: O) := h.fr (v_keepC f1 79 37 (by decide)) (v_keepC f1 79 39 (by decide)) (v_keepR f1 119 (by decide))
  obtain ⟨B2, a2, b2, f2, r2, x2⟩ := ans_one hN x1 (Or.inr rfl) h11 (hr.fp f1) hl (x := 11) rfl
  have p2 : PR B2 c T p := ⟨p1.1.fr (v_keepC f2 79 32 (by decide)) (v_keepR f2 107 (by decide)), p1.2.1, by rw [v_keepC f2 79 33 (by decide), p1.2.2]⟩
  refine ⟨B2, fun n => ?_, p2, r2, x2⟩
  have n1 : f_X12_answers N 10 B1 = some (0, B1) := by
    obtain ⟨m, rfl⟩ : ∃ m, N = m + 1 := ⟨N - 1, by omega⟩
    exact ans_no (m + 1) m x1 (k := 10) (by omega) (fun w => nomatch Option.some.inj w) rfl
  have n2 : f_X12_answers N 10 B2 = some (0, B2) := by
    obtain ⟨m, rfl⟩ : ∃ m, N = m + 1 := ⟨N - 1, by omega⟩
    exact ans_no (m + 1) m x2 (k := 10) (by omega) h10 rfl
  rw [e1, n1, LN_sk hN n x2 h9 r2.1 p2 hps, n2, Option.bind_some, Option.bind_some]
  unfold LNk
  rw [decide_eq_false hn, if_pos (show v01 false = 0 from rfl), if_pos (show v01 false = 0 from rfl)]
  by_cases k : t_tk c T p = 277
  · rw [decide_eq_true k, if_neg (show ¬ v01 true = 0 by decide), if_neg (show ¬ v01 true = 0 by decide)]
    unfold f_X12_test_L82
    rw [if_neg (show ¬ v01 true = 0 by decide), if_neg (show ¬ v01 true = 0 by decide)]
    dsimp only
    rw [a2, b2]
  · rw [decide_eq_false k, if_pos (show v01 false = 0 from rfl), if_pos (show v01 false = 0 from rfl)]
    dsimp only
    rw [a2, b2]
