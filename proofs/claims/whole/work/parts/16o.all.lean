/-! facts joined: both alike -/
def Res (N q o : Nat) (c : Nat → Nat) (T K d : Nat) (S : List Nat) (p v : Nat) (L : List Op) (E : Nat → Option (Int32 × v_M)) (s : Nat) (b : Bool) (A' : v_M) (J : List Op → Nat → Nat → Prop) : Prop :=
  (b = true → ∃ (B' : v_M) (S' : List Op) (a p' m : Nat), J S' a p' ∧ CR A' q c T K p' (v + a) (L ++ S') ∧ PB B' c T p' ∧ RC B' o (v + a) (L ++ S') ∧ RX B' d S ∧ v + a ≤ 60 ∧ p ≤ p' ∧ 3 * S'.length + s ≤ 6 * a + (p' - p) ∧ m ≤ p' - p ∧ ∀ n, E (n + m + 1) = LN N (n + 1) B') ∧ (b = false → ∃ (B' : v_M) (m F : Nat), A'.1 35 6 = nI F ∧ FB1 B' c T F ∧ m + p ≤ T + 1 ∧ ∀ n, E (n + m + 1) = some (0, B'))
def FactOK (N q o : Nat) (c : Nat → Nat) (T K : Nat) (rf : Int32 → v_M → Option (Int32 × v_M)) (d : Nat) : Prop := ∀ (A B : v_M) (p v : Nat) (L : List Op) (S : List Nat), CR A q c T K p v L → PB B c T p → RC B o v L → v ≤ 60 → RX B d S → S.length ≤ p → 3 * (L.length + Wn S) ≤ 6 * v + p → ∃ (b : Bool) (A' : v_M), rf (nI d) A = some (v01 b, A') ∧ Res N q o c T K d S p v L (fun n => LW N n B) 3 b A' (fun S' a _ => TruE S' a)
/-- an and or an or stands there: it opens -/
theorem LN_join {N : Nat} (hN : 1000 ≤ N) {B : v_M} {d p o v k : Nat} {S : List Nat} {c : Nat → Nat} {T : Nat} {L : List Op} (h : RX B d S) (hs : S.length ≤ 400) (h9 : S.head? ≠ some 9) (h10 : S.head? ≠ some 10) (hr : RC B o v L) (hp : PB B c T p) (hk : (k = 10 ∧ t_tk c T p = 278) ∨ (k = 11 ∧ t_tk c T p = 277 ∧ S.head? ≠ some 11)) : ∃ B' : v_M, (∀ n, LN N (n + 1) B = LW N n B') ∧ PR B' c T (t_te c T p) ∧ RC B' o v L ∧ RX B' d (k :: S) ∧ p < T := by
  obtain ⟨B1, f1, p1, e1⟩ := LN_open hN h h9 hr.1 hp
  have hT := p1.1.1
  have x1 : RX B1 d S := h.fr (v_keepC f1 79 37 (by decide)) (v_keepC f1 79 39 (by decide)) (v_keepR f1 119 (by decide))
  have r1 := hr.fp f1
  have n1 : ∀ j, j < 13 → S.head? ≠ some j → f_X12_answers N (nI j) B1 = some (0, B1) := by
    intro j hj hh
    obtain ⟨m, rfl⟩ : ∃ m, N = m + 1 := ⟨N - 1, by omega⟩
    exact ans_no (m + 1) m x1 (k := j) hj hh rfl
  have hlt : p < T := by
    refine Classical.byContradiction (fun w => ?_)
    rw [t_tk_e (by omega)] at hk
    omega
  obtain ⟨B2, b2, f2, x2⟩ := op_join N x1 hs (show k = 10 ∨ k = 11 by omega) (x := nI k) rfl
  have e33 : B2.1 79 33 = nI p := by rw [v_keepC f2 79 33 (by decide), p1.2.2]
  have f3 : v_fr [] [(79, 33)] B2 (v_wr B2 79 33 (nI (t_te c T p))) := v_fro (by decide) v_frR
  refine ⟨v_wr B2 79 33 (nI (t_te c T p)), fun n => ?_, ⟨p1.1.fr ?_ ?_, t_te_le p1.2.1, v_rdS⟩, (r1.fr (v_keepC f2 79 34 (by decide)) (v_keepC f2 79 35 (by decide)) (v_keepC f2 79 36 (by decide)) (v_keepC f2 79 38 (by decide)) (v_keepR f2 108 (by decide)) (v_keepR f2 109 (by decide))).fp f3, x2.fr (v_keepC f3 79 37 (by decide)) (v_keepC f3 79 39 (by decide)) (v_keepR f3 119 (by decide)), hlt⟩
  · rw [e1, show (10 : Int32) = nI 10 from rfl, n1 10 (by omega) h10, Option.bind_some]
    unfold LNk
    rcases hk with ⟨rfl, ht⟩ | ⟨rfl, ht, h11⟩
    · have hl := (t_stand (c := c) (T := T) (p := p) (s := 19) p1.1.2.1 (by omega) (by omega)).2 ht
      rw [decide_eq_true ht, decide_eq_false (show ¬ t_tk c T p = 277 by omega), if_neg (show ¬ v01 true = 0 by decide)]
      unfold f_X12_test_L82 f_X12_test_L93 f_X12_test_L105
      rw [if_pos (show v01 false = 0 from rfl), if_neg (show ¬ v01 true = 0 by decide)]
      dsimp only
      rw [show (10 : Int32) = nI 10 from rfl, b2, Option.bind_some, if_neg (show ¬ v01 true = 0 by decide)]
      unfold f_X12_test_L122 f_X12_test_L199
      dsimp only
      rw [v_letE, e33, show (3 : Int32) = nI 3 from rfl, nI_add, hl]
      rfl
    · have hl := (t_stand (c := c) (T := T) (p := p) (s := 20) p1.1.2.1 (by omega) (by omega)).2 ht
      rw [decide_eq_true ht, decide_eq_false (show ¬ t_tk c T p = 278 by omega), if_pos (show v01 false = 0 from rfl), if_neg (show ¬ v01 true = 0 by decide)]
      unfold f_X12_test_L82 f_X12_test_L93 f_X12_test_L105
      rw [if_neg (show ¬ v01 true = 0 by decide), show (11 : Int32) = nI 11 from rfl]
      dsimp only
      rw [n1 11 (by omega) h11, Option.bind_some, if_pos (show v01 false = 0 from rfl)]
      dsimp only
      rw [b2, Option.bind_some, if_pos (show v01 false = 0 from rfl)]
      unfold f_X12_test_L122 f_X12_test_L199
      dsimp only
      rw [v_letE, e33, show (2 : Int32) = nI 2 from rfl, nI_add, hl]
      rfl
  · rw [v_keepC f3 79 32 (by decide), v_keepC f2 79 32 (by decide)]
  · rw [v_keepR f3 107 (by decide), v_keepR f2 107 (by decide)]
