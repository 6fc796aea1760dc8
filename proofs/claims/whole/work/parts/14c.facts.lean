/-! what is done; sums of bent and wear -/
theorem orb_c : ∀ j : Nat, j < 1024 → ∀ t : Nat, t < 10 → nI j ||| ((1 : Int32) <<< (nI t &&& 31)) = nI (j ||| 2 ^ t) := by decide +kernel
theorem orb_l {j t : Nat} (hj : j < 1024) (ht : t < 10) : j ||| 2 ^ t < 1024 := by
  have : 2 ^ t < 2 ^ 10 := Nat.pow_lt_pow_right (by omega) ht
  exact Nat.or_lt_two_pow (n := 10) hj this
theorem tb_or (j t i : Nat) : (j ||| 2 ^ t).testBit i = (j.testBit i || decide (i = t)) := by
  rw [Nat.testBit_or, Nat.testBit_two_pow]
  congr 1
  by_cases h : t = i
  · rw [decide_eq_true h, decide_eq_true h.symm]
  · rw [decide_eq_false h, decide_eq_false (fun z => h z.symm)]
theorem e_tasks (N : Nat) {m n : Nat} (hm : m < 20) {wk : Nat → Nat} {M : v_M} (h59 : ∀ w, w < 200 → M.1 59 w = ov6 (lst wk w n)) (hn : n ≤ 200) : ∀ (s t f j : Nat), t + s = 10 → s < f → j < 1024 → ∃ k : Nat, f_X8_tasksOf_L4 N f (nI m) (nI j) (nI t) M = some (nI k, M) ∧ k < 1024 ∧ ∀ i, k.testBit i = true ↔ (j.testBit i = true ∨ (t ≤ i ∧ i < 10 ∧ ∃ s, s < n ∧ wk s = 10 * m + i)) := by
  intro s
  induction s with
  | zero =>
    intro t f j ht hf hj
    obtain ⟨f, rfl⟩ : ∃ q, f = q + 1 := ⟨f - 1, by omega⟩
    refine ⟨j, ?_, hj, fun i => ⟨fun h => Or.inl h, fun h => h.elim id (fun z => by omega)⟩⟩
    rw [f_X8_tasksOf_L4, if_pos (show (10 : Int32) ≤ nI t from nI_le (a := 10) (by omega) (by omega))]
  | succ s ih =>
    intro t f j ht hf hj
    obtain ⟨f, rfl⟩ : ∃ q, f = q + 1 := ⟨f - 1, by omega⟩
    rw [f_X8_tasksOf_L4, if_neg (show ¬ (10 : Int32) ≤ nI t from nI_ge (b := 10) (by omega) (by omega))]
    simp only [v_letE, nI_work, e_within, Option.bind_some, f_X8_tasksOf_L47, nI_1]
    rw [v_wiTe (show (0 : Int32) ≤ nI (10 * m + t) ∧ nI (10 * m + t) ≤ 199 from ⟨nI_le (a := 0) (by omega) (by omega), nI_le (b := 199) (by omega) (by omega)⟩), v_ibN (show 10 * m + t < 200 by omega) (show 200 < 2 ^ 31 by omega), v_ckT, nI_clamp (show 10 * m + t < 2 ^ 31 by omega), h59 _ (by omega)]
    cases hl : lst wk (10 * m + t) n with
    | none =>
      rw [if_pos (show ov6 none = -1 from rfl)]
      obtain ⟨k, g1, g2, g3⟩ := ih (t + 1) f j (by omega) (by omega) hj
      refine ⟨k, g1, g2, fun i => ?_⟩
      rw [g3]
      constructor
      · rintro (h | ⟨a, b, c⟩)
        · exact Or.inl h
        · exact Or.inr ⟨by omega, b, c⟩
      · rintro (h | ⟨a, b, u, c, d⟩)
        · exact Or.inl h
        · refine Or.inr ⟨?_, b, u, c, d⟩
          by_cases y : i = t
          · rw [y] at d; exact absurd d (lst_no n hl u c)
          · omega
    | some u =>
      obtain ⟨l1, l2, -⟩ := lst_so n u hl
      rw [if_neg (show ¬ ov6 (some u) = -1 from nI_nm1 (by omega)), orb_c j hj t (by omega)]
      obtain ⟨k, g1, g2, g3⟩ := ih (t + 1) f (j ||| 2 ^ t) (by omega) (by omega) (orb_l hj (by omega))
      refine ⟨k, g1, g2, fun i => ?_⟩
      rw [g3, tb_or, Bool.or_eq_true, decide_eq_true_iff]
      constructor
      · rintro ((h | h) | ⟨a, b, c⟩)
        · exact Or.inl h
        · exact Or.inr ⟨by omega, by omega, u, l1, by rw [h]; exact l2⟩
        · exact Or.inr ⟨by omega, b, c⟩
      · rintro (h | ⟨a, b, c⟩)
        · exact Or.inl (Or.inl h)
        · by_cases y : i = t
          · exact Or.inl (Or.inr y)
          · exact Or.inr ⟨by omega, b, c⟩
theorem r_tasks (N : Nat) {m n : Nat} (hm : m < 20) {mm tt : Nat → Nat} {M : v_M} (hn : n ≤ 200) (e : M.1 79 60 = nI n) (h : ∀ s, s < n → M.1 122 s = nI (mm s) ∧ mm s < 20 ∧ M.1 123 s = nI (tt s) ∧ tt s < 10) : ∀ (d s f j : Nat), s + d = n → d < f → j < 1024 → ∃ k : Nat, f_X12_doneOf_L4 N f (nI m) (nI j) (nI s) M = some (nI k, M) ∧ k < 1024 ∧ ∀ i, k.testBit i = true ↔ (j.testBit i = true ∨ ∃ u, s ≤ u ∧ u < n ∧ mm u = m ∧ tt u = i) := by
  intro d
  induction d with
  | zero =>
    intro s f j hs hf hj
    obtain ⟨f, rfl⟩ : ∃ q, f = q + 1 := ⟨f - 1, by omega⟩
    refine ⟨j, ?_, hj, fun i => ⟨fun h => Or.inl h, fun h => h.elim id (fun ⟨u, a, b, _⟩ => by omega)⟩⟩
    rw [f_X12_doneOf_L4, e, if_pos (nI_le (by omega) (by omega))]
  | succ d ih =>
    intro s f j hs hf hj
    obtain ⟨f, rfl⟩ : ∃ q, f = q + 1 := ⟨f - 1, by omega⟩
    obtain ⟨a1, a2, a3, a4⟩ := h s (by omega)
    rw [f_X12_doneOf_L4, e, if_neg (nI_ge (show s < n by omega) (by omega))]
    simp only [v_ibN (show s < 200 by omega) (show 200 < 2 ^ 31 by omega), nI_clamp (show s < 2 ^ 31 by omega), v_ckT, a1, a3, f_X12_doneOf_L35, v_letE, nI_1, or0]
    by_cases c : mm s = m
    · rw [if_pos (by rw [c]), orb_c j hj (tt s) a4]
      obtain ⟨k, g1, g2, g3⟩ := ih (s + 1) f (j ||| 2 ^ tt s) (by omega) (by omega) (orb_l hj a4)
      refine ⟨k, g1, g2, fun i => ?_⟩
      rw [g3, tb_or, Bool.or_eq_true, decide_eq_true_iff]
      constructor
      · rintro ((h | h) | ⟨u, q1, q2, q3⟩)
        · exact Or.inl h
        · exact Or.inr ⟨s, Nat.le_refl _, by omega, c, h.symm⟩
        · exact Or.inr ⟨u, by omega, q2, q3⟩
      · rintro (h | ⟨u, q1, q2, q3, q4⟩)
        · exact Or.inl (Or.inl h)
        · by_cases y : u = s
          · rw [y] at q4; exact Or.inl (Or.inr q4.symm)
          · exact Or.inr ⟨u, by omega, q2, q3, q4⟩
    · rw [if_neg (fun q => c ((nI_eqX (by omega) (by omega)).mp q))]
      obtain ⟨k, g1, g2, g3⟩ := ih (s + 1) f j (by omega) (by omega) hj
      refine ⟨k, g1, g2, fun i => ?_⟩
      rw [g3]
      constructor
      · rintro (h | ⟨u, q1, q2, q3⟩)
        · exact Or.inl h
        · exact Or.inr ⟨u, by omega, q2, q3⟩
      · rintro (h | ⟨u, q1, q2, q3, q4⟩)
        · exact Or.inl h
        · by_cases y : u = s
          · rw [y] at q3; exact absurd q3 c
          · exact Or.inr ⟨u, by omega, q2, q3, q4⟩
theorem btl_all2 : ∀ j : Nat, j < 1024 → btl 11 0 (nI j) = some (bcv (nI j)) ∧ ∃ k : Nat, k < 11 ∧ bcv (nI j) = nI k := by decide +kernel
theorem e_bc3 {N : Nat} (hN : 100 ≤ N) {j : Nat} (hj : j < 1024) (M : v_M) : f_X12_bits N (nI j) M = some (bcv (nI j), M) := by
  unfold f_X12_bits
  rw [e_btl, show N = 11 + (N - 11) by omega, btl_mono 11 0 (nI j) _ (btl_all2 j hj).1 (N - 11)]
  rfl
theorem its_c : ∀ d : Nat, d < 1024 → ∀ k : Nat, k < 10 → ((1 : Int32) <<< (nI k &&& 31)) &&& (nI d ^^^ (-1)) = if ((nI d >>> (nI k &&& 31)) &&& 1) = 1 then 0 else (1 : Int32) <<< (nI k &&& 31) := by decide +kernel
theorem ssm_le {g : Nat → Nat} {B : Nat} : ∀ k : Nat, (∀ t, t < k → g t ≤ B) → ssm g k ≤ k * B := by
  intro k
  induction k with
  | zero => intro _; rw [ssm]; omega
  | succ k ih =>
    intro h
    have a := ih (fun t ht => h t (by omega))
    have b := h k (by omega)
    rw [ssm, Nat.succ_mul]
    omega
theorem ssm_z {g : Nat → Nat} {a : Nat} : ∀ d : Nat, (∀ t, a ≤ t → t < a + d → g t = 0) → ssm g (a + d) = ssm g a := by
  intro d
  induction d with
  | zero => intro _; rfl
  | succ d ih =>
    intro h
    rw [show a + (d + 1) = (a + d) + 1 by omega, ssm, ih (fun t p q => h t p (by omega)), h (a + d) (by omega) (by omega)]
    rfl
theorem e_sumOf1 (N q0 r1 : Nat) {m : Nat} (hm : m < 20) {g : Nat → Nat} {M : v_M} (h : ∀ i, i < 24 → M.1 r1 (24 * m + i) = nI (g i)) : ∀ (s i f : Nat), i + s = 24 → s < f → f_X4_sumOf_L9 N q0 r1 480 f (nI m) (nI (ssm g i)) (nI (24 * m + i)) M = some (nI (ssm g 24), M) := by
  intro s
  induction s with
  | zero =>
    intro i f hi hf
    obtain ⟨f, rfl⟩ : ∃ q, f = q + 1 := ⟨f - 1, by omega⟩
    have : i = 24 := by omega
    subst this
    rw [f_X4_sumOf_L9, e_spot, Option.bind_some, nI_1, show nI (m + 1) * 24 + 0 = nI (24 * (m + 1)) from nI_spot (m + 1) 0, if_pos (nI_le (by omega) (by omega))]
  | succ s ih =>
    intro i f hi hf
    obtain ⟨f, rfl⟩ : ∃ q, f = q + 1 := ⟨f - 1, by omega⟩
    rw [f_X4_sumOf_L9, e_spot, Option.bind_some, nI_1, show nI (m + 1) * 24 + 0 = nI (24 * (m + 1)) from nI_spot (m + 1) 0, if_neg (nI_ge (by omega) (by omega)), e_within, Option.bind_some, v_wiTe (show (0 : Int32) ≤ nI (24 * m + i) ∧ nI (24 * m + i) ≤ Int32.ofNat 480 - 1 from i_idx' (c := 480) (by omega) (by omega)), v_ibN (show 24 * m + i < 480 by omega) (show 480 < 2 ^ 31 by omega), v_ckT, nI_clamp (show 24 * m + i < 2 ^ 31 by omega), h i (by omega)]
    unfold f_X4_sumOf_L43
    rw [v_letE, nI_add, nI_1]
    exact ih (i + 1) f (by omega) (by omega)
theorem e_sumOf {N : Nat} (hN : 100 ≤ N) (q0 r1 : Nat) {m : Nat} (hm : m < 20) {g : Nat → Nat} {M : v_M} (h : ∀ i, i < 24 → M.1 r1 (24 * m + i) = nI (g i)) : f_X4_sumOf N q0 r1 480 (nI m) M = some (nI (ssm g 24), M) := by
  unfold f_X4_sumOf
  rw [e_spot, Option.bind_some, v_letE, show nI m * 24 + 0 = nI (24 * m) from nI_spot m 0]
  exact e_sumOf1 N q0 r1 hm h 24 0 N (by omega) (by omega)
