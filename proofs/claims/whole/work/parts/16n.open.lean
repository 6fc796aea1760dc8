/-! what opens; a fact begun -/
def FB1 (B : v_M) (c : Nat → Nat) (T F : Nat) : Prop := TR B c T ∧ (0 < F ∧ F < 10000) ∧ B.1 79 34 = nI F ∧ ∃ p, p ≤ T + 1 ∧ B.1 79 33 = nI p
theorem FB.one {B : v_M} {c : Nat → Nat} {T F : Nat} (h : FB B c T F) : FB1 B c T F := by
  obtain ⟨h1, h2, h3, p, hp, e⟩ := h
  exact ⟨h1, h2, h3, p, by omega, e⟩
theorem LW_bad (N n : Nat) {B : v_M} {c : Nat → Nat} {T F : Nat} (h : FB1 B c T F) : LW N (n + 1) B = some (0, B) := by
  unfold LW
  rw [f_X12_test_L9, if_neg (by decide), if_neg (by rw [h.2.2.1]; exact nI_nz h.2.1)]
theorem LN_bad (N n : Nat) {B : v_M} {c : Nat → Nat} {T F : Nat} (h : FB1 B c T F) : LN N (n + 1) B = some (0, B) := by
  unfold LN
  rw [f_X12_test_L9, if_neg (by decide), if_neg (by rw [h.2.2.1]; exact nI_nz h.2.1)]
theorem op40 (N : Nat) {B : v_M} {d d' k : Nat} {S : List Nat} (h : RX B d S) (hs : S.length ≤ 400) (hk : k ≤ 12) {B1 : v_M} (f1 : v_fr [] [(79, 34), (79, 37)] B B1) (e7 : B1.1 79 37 = nI d') (hd : (if k = 9 then 1 else 0) + d ≤ d') : ∃ B' : v_M, f_X12_opens_L40 N (nI k) B1 = some (0, B') ∧ v_fr [119] [(79, 39)] B1 B' ∧ RX B' d' (k :: S) := by
  obtain ⟨h1, h2, h3, h4, h5, h6⟩ := h
  have e9 : B1.1 79 39 = nI S.length := by rw [v_keepC f1 79 39 (by decide), h2]
  unfold f_X12_opens_L40
  rw [e9, v_ibN (show S.length < 402 by omega) (by omega), v_ckT, v_letE, nI_clamp (by omega), v_letE, v_rdn (k := 119) (k' := 79) (by decide), e9, nI_1]
  refine ⟨_, rfl, v_fro (by decide) (v_frw (by decide) v_frR), by rw [v_rd, if_neg (by decide), v_rdn (by decide), e7], by rw [v_rdS, List.length_cons], by rw [List.length_cons]; omega, by rw [Wn]; omega, fun j hj => ?_, ?_, ?_⟩
  · rcases List.mem_cons.mp hj with w | w
    · omega
    · exact h5 j w
  · rw [v_rdn (by decide), v_rdS]
  · refine stk_fr h6 (fun i hi => ?_)
    rw [v_rdn (by decide), v_rd, if_neg (fun w => by omega), v_keepR f1 119 (by decide)]
theorem op_join (N : Nat) {B : v_M} {d k : Nat} {S : List Nat} (h : RX B d S) (hs : S.length ≤ 400) (hk : k = 10 ∨ k = 11) {x : Int32} (hx : x = nI k) : ∃ B' : v_M, f_X12_opens N x B = some (0, B') ∧ v_fr [119] [(79, 39)] B B' ∧ RX B' d (k :: S) := by
  subst hx
  unfold f_X12_opens
  rw [if_neg (fun w => by have := (nI_eqX (a := k) (b := 9) (by omega) (by omega)).mp w; omega), if_neg (fun w => by have := (nI_eqX (a := k) (b := 12) (by omega) (by omega)).mp w; omega)]
  exact op40 N h hs (by omega) v_frR h.1 (by rw [if_neg (by omega)]; omega)
theorem op_in (N : Nat) {B : v_M} {d k : Nat} {S : List Nat} (h : RX B d S) (hs : S.length ≤ 400) (hk : k = 9 ∨ k = 12) (hd : d < 10) {x : Int32} (hx : x = nI k) : ∃ B' : v_M, f_X12_opens N x B = some (0, B') ∧ v_fr [119] [(79, 37), (79, 39)] B B' ∧ RX B' (d + 1) (k :: S) := by
  subst hx
  have e : f_X12_opens N (nI k) B = f_X12_opens_L12 N (nI k) B := by
    unfold f_X12_opens
    rcases hk with rfl | rfl
    · rw [if_pos (show nI 9 = 9 from rfl)]
    · rw [if_neg (by decide), if_pos (show nI 12 = 12 from rfl)]
  rw [e]
  unfold f_X12_opens_L12 f_X12_opens_L30
  rw [h.1, if_neg (fun w => by have := (nI_eqX (a := d) (b := 10) (by omega) (by omega)).mp w; omega), v_letE, nI_1]
  have f1 : v_fr [] [(79, 34), (79, 37)] B (v_wr B 79 37 (nI (d + 1))) := v_fro (by decide) v_frR
  obtain ⟨B', b, f, r⟩ := op40 N (k := k) (d' := d + 1) h hs (by omega) f1 v_rdS (by split <;> omega)
  exact ⟨B', b, v_frt (by decide) (by decide) (v_fro (by decide) v_frR) f, r⟩
theorem op_deep (N : Nat) {B : v_M} {k : Nat} {S : List Nat} {c : Nat → Nat} {T p : Nat} (h : RX B 10 S) (hs : S.length ≤ 400) (hk : k = 9 ∨ k = 12) (h4 : B.1 79 34 = 0) (hp : PR B c T p) {x : Int32} (hx : x = nI k) : ∃ B' : v_M, f_X12_opens N x B = some (0, B') ∧ B'.1 79 34 = nI (1 + 8 * p + 2) ∧ PR B' c T p := by
  subst hx
  have e : f_X12_opens N (nI k) B = f_X12_opens_L12 N (nI k) B := by
    unfold f_X12_opens
    rcases hk with rfl | rfl
    · rw [if_pos (show nI 9 = 9 from rfl)]
    · rw [if_neg (by decide), if_pos (show nI 12 = 12 from rfl)]
  rw [e]
  unfold f_X12_opens_L12 f_X12_opens_L30
  rw [h.1, if_pos (show nI 10 = 10 from rfl), e_fails N 2 p (x := 2) (y := B.1 79 33) rfl hp.2.2, Option.bind_some]
  dsimp only
  rw [v_letE, v_rd, if_neg (by decide), h.1, h4, t_ft_0, show nI 10 + 1 = nI 11 from rfl]
  have f1 : v_fr [] [(79, 34), (79, 37)] B (v_wr (v_wr B 79 34 (nI (1 + 8 * p + 2))) 79 37 (nI 11)) := v_fro (by decide) (v_fro (by decide) v_frR)
  obtain ⟨B', b, f, r⟩ := op40 N (k := k) (d' := 11) h hs (by omega) f1 v_rdS (by split <;> omega)
  refine ⟨B', b, by rw [v_keepC f 79 34 (by decide), v_rd, if_neg (by decide), v_rdS], hp.1.fr ?_ ?_, hp.2.1, ?_⟩
  · rw [v_keepC f 79 32 (by decide), v_keepC f1 79 32 (by decide)]
  · rw [v_keepR f 107 (by decide), v_keepR f1 107 (by decide)]
  · rw [v_keepC f 79 33 (by decide), v_keepC f1 79 33 (by decide), hp.2.2]
theorem CR.sk {A : v_M} {q : Nat} {c : Nat → Nat} {T K p v : Nat} {L : List Op} (h : CR A q c T K p v L) : t_sk c T p = p := by
  obtain ⟨k, _, _, e⟩ := h.2.2.2.2.1
  rw [← e]
  cases k with
  | zero => exact t_sk_sk c T 0
  | succ k => exact t_sk_sk c T _
/-- a fact is wanted: what the next turn is -/
theorem LW_fact {N : Nat} (hN : 1000 ≤ N) {B : v_M} {c : Nat → Nat} {T p o v : Nat} {L : List Op} (hp : PB B c T p) (hr : RC B o v L) : ∃ B1 : v_M, v_fr [] [(79, 33)] B B1 ∧ PR B1 c T p ∧
    (t_tk c T p = 279 → ∀ n, LW N (n + 1) B = (f_X12_opens N 9 B1).bind fun z => LW N n (v_wr z.2 79 33 (z.2.1 79 33 + 3))) ∧
    (t_tk c T p = 91 → ∀ n, LW N (n + 1) B = (f_X12_opens N 12 B1).bind fun z => LW N n (v_wr z.2 79 33 (z.2.1 79 33 + 1))) ∧
    (¬ t_tk c T p = 279 → ¬ t_tk c T p = 91 → ∀ n, LW N (n + 1) B = (f_X12_compared N B1).bind fun z => LN N n z.2) := by
  obtain ⟨B1, b, f, pr⟩ := s_blanks hN hp
  have hT := pr.1.1
  have g91 := (t_sgn (c := c) (T := T) (p := p) (k := 91) pr.1.2.1 (by omega) rfl rfl (by omega) (by omega) (x := 91) rfl).1
  have st := e_stands hN pr.1 (s := 18) (by omega) (by omega) pr.2.1 pr.2.2
  have st' : f_X12_stands N 18 B1 = some (v01 (decide (t_tk c T p = 279)), B1) := st
  have un : ∀ n, LW N (n + 1) B = (f_X12_fact N B).bind fun z12 => if z12.1 = 0 then f_X12_test_L36 N (f_X12_test_L9 N n) 1 1 z12.2 else f_X12_test_L36 N (f_X12_test_L9 N n) 1 0 z12.2 := by
    intro n
    unfold LW
    rw [f_X12_test_L9, if_neg (show ¬ (1 : Int32) = 0 by decide), if_pos hr.1, if_neg (show ¬ (1 : Int32) = 0 by decide)]
  refine ⟨B1, f, pr, ?_, ?_, ?_⟩
  · intro k n
    rw [un]
    unfold f_X12_fact
    rw [b, Option.bind_some]
    dsimp only
    rw [st', Option.bind_some]
    dsimp only
    rw [v01_0, decide_eq_true k, if_pos rfl]
    cases f_X12_opens N 9 B1 with
    | none => rfl
    | some z => rfl
  · intro k n
    rw [un]
    unfold f_X12_fact
    rw [b, Option.bind_some]
    dsimp only
    rw [st', Option.bind_some]
    dsimp only
    rw [v01_0, decide_eq_false (by omega), if_neg (by decide), e_sign N pr.1 (by have := pr.2.1; omega) pr.2.2, Option.bind_some]
    dsimp only
    rw [if_pos (g91.mpr k)]
    cases f_X12_opens N 12 B1 with
    | none => rfl
    | some z => rfl
  · intro k k2 n
    rw [un]
    unfold f_X12_fact
    rw [b, Option.bind_some]
    dsimp only
    rw [st', Option.bind_some]
    dsimp only
    rw [v01_0, decide_eq_false k, if_neg (by decide), e_sign N pr.1 (by have := pr.2.1; omega) pr.2.2, Option.bind_some]
    dsimp only
    rw [if_neg (fun w => k2 (g91.mp w))]
    cases f_X12_compared N B1 with
    | none => rfl
    | some z => rfl
