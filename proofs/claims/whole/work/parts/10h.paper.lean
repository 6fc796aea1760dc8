/-! paper, read -/
def J_papc (M : v_M) (nm n : Nat) : Prop := n ≤ 30 ∧ M.1 71 0 = nI n ∧ M.1 79 80 = nI n ∧ (∀ i, i < n → (M.1 140 i = M.1 72 i ∧ M.1 141 i = M.1 73 i ∧ M.1 142 i = M.1 75 i) ∧ (M.1 72 i = -1 ∨ ∃ m : Nat, m < nm ∧ M.1 72 i = nI m) ∧ (∃ d : Nat, d ≤ 9999 ∧ M.1 73 i = nI d) ∧ ∃ k : Nat, k < 2 ^ i ∧ M.1 75 i = nI k) ∧
  ∀ j, j < 480 → (M.1 76 j = 10000 ∧ M.1 143 j = -1) ∨ ∃ d : Nat, d ≤ 9999 ∧ M.1 76 j = nI d ∧ M.1 143 j = nI d
theorem sh_1 : ∀ n : Nat, n < 30 → ((1 : Int32) <<< (nI n &&& 31)) - 1 = nI (2 ^ n - 1) := by decide +kernel
theorem sh_2 : ∀ n : Nat, n < 30 → ((nI n &&& 31).toBitVec.smod 32).toNat = n := by decide +kernel
theorem sh_3 {n k : Nat} (hn : n < 30) (hk : k < 2 ^ 31) : (nI k >>> (nI n &&& 31) = 0) ↔ k < 2 ^ n := by
  rw [pk_shrN hk _ n (sh_2 n hn), show (0 : Int32) = nI 0 from rfl, nI_eq (by have := Nat.div_le_self k (2 ^ n); omega) (by omega)]
  have hp : 0 < 2 ^ n := Nat.pow_pos (by decide)
  rw [Nat.div_eq_zero_iff]
  omega
def a_ok (d n : Nat) (x2 x3 : Int32) : Prop := (0 ≤ x2 ∧ x2 ≤ nI d) ∧ n < 30 ∧ ∃ k : Nat, k < 2 ^ n ∧ x3 = nI k
def a_M1 (M : v_M) (n : Nat) (x1 x2 x3 : Int32) : v_M := v_wr (v_wr (v_wr (v_wr M 72 n x1) 73 n x2) 75 n x3) 71 0 (nI n + 1)
def a_M2 (M : v_M) (n : Nat) (x1 x2 x3 : Int32) : v_M := v_wr (v_wr (v_wr (v_wr M 140 n x1) 141 n x2) 142 n x3) 79 80 (nI n + 1)
theorem a_in {n : Nat} (hn : n < 30) {x : Int32} : (0 ≤ x ∧ x ≤ ((1 : Int32) <<< (nI n &&& 31)) - 1) ↔ ∃ k : Nat, k < 2 ^ n ∧ x = nI k := by
  rw [sh_1 n hn]
  have hp : 0 < 2 ^ n := Nat.pow_pos (by decide)
  have hq : 2 ^ n ≤ 2 ^ 29 := Nat.pow_le_pow_right (by decide) (by omega)
  constructor
  · intro h
    have nx : ¬ x < 0 := fun q => by have u := i_le.mp h.1; rw [i_lt] at q; omega
    obtain ⟨j, hj, rfl⟩ := nI_of2 (x := x) (M := nI (2 ^ n - 1)) (n := 2 ^ n - 1) (nI_toInt (by omega)) nx h.2
    exact ⟨j, by omega, rfl⟩
  · rintro ⟨k, hk, rfl⟩
    exact ⟨nI_pos' (by omega), nI_le (by omega) (by omega)⟩
theorem a_class (N : Nat) (x1 x2 x3 : Int32) {M : v_M} {d n : Nat} (t : M.1 0 0 = nI d) (hn : n ≤ 30) (e : M.1 71 0 = nI n) : (a_ok d n x2 x3 → f_X11_paper_L13 N x1 x2 x3 M = some (nI n, a_M1 M n x1 x2 x3)) ∧ (¬ a_ok d n x2 x3 → f_X11_paper_L13 N x1 x2 x3 M = some (-1, M)) := by
  unfold f_X11_paper_L13 f_X11_paper_L18
  rw [if_neg (show ¬ (1 : Int32) = 0 by decide)]
  simp only [e_within, Option.bind_some, t, e]
  by_cases a2 : 0 ≤ x2 ∧ x2 ≤ nI d
  rotate_left
  · rw [v_wiFe a2]; exact ⟨fun q => absurd q.1 a2, fun _ => rfl⟩
  rw [v_wiTe a2]
  by_cases c : n < 30
  rotate_left
  · rw [if_neg (show ¬ nI n < 30 from nI_nlt (b := 30) (by omega) (by omega))]; exact ⟨fun q => absurd q.2.1 c, fun _ => rfl⟩
  rw [if_pos (show nI n < 30 from nI_lt (b := 30) c (by omega))]
  by_cases a3 : 0 ≤ x3 ∧ x3 ≤ ((1 : Int32) <<< (nI n &&& 31)) - 1
  rotate_left
  · rw [v_wiFe a3]; exact ⟨fun q => absurd ((a_in c).mpr q.2.2) a3, fun _ => rfl⟩
  rw [v_wiTe a3]
  refine ⟨fun _ => ?_, fun q => absurd ⟨a2, c, (a_in c).mp a3⟩ q⟩
  unfold f_X6_add
  rw [e, if_pos (show nI n < 30 from nI_lt (b := 30) c (by omega))]
  simp only [v_letE, v_ibN c (show 30 < 2 ^ 31 by omega), v_ckT, nI_clamp (show n < 2 ^ 31 by omega), Option.bind_some]
  rfl
theorem a_model (N : Nat) (x1 x2 x3 : Int32) {M : v_M} {d n : Nat} (t : M.1 79 1 = nI d) (hn : n < 30) (e : M.1 79 80 = nI n) : (a_ok d n x2 x3 → f_X12_paper_L22 N x1 x2 x3 M = some (nI n, a_M2 M n x1 x2 x3)) ∧ (¬ a_ok d n x2 x3 → f_X12_paper_L22 N x1 x2 x3 M = some (-1, M)) := by
  unfold f_X12_paper_L22
  simp only [l_0, e_in2, Option.bind_some, t]
  by_cases a2 : 0 ≤ x2 ∧ x2 ≤ nI d
  rotate_left
  · rw [v_wiFe a2]; exact ⟨fun q => absurd q.1 a2, fun _ => rfl⟩
  rw [v_wiTe a2]
  by_cases b : x3 < 0
  · rw [if_pos b]
    refine ⟨fun q => ?_, fun _ => rfl⟩
    have := ((a_in hn).mpr q.2.2).1
    rw [i_le] at this; rw [i_lt] at b; omega
  rw [if_neg b]
  obtain ⟨k, hk, rfl⟩ := nI_of b
  by_cases c : k < 2 ^ n
  · rw [e, if_pos ((sh_3 hn hk).mpr c)]
    refine ⟨fun _ => ?_, fun q => absurd ⟨a2, hn, k, c, rfl⟩ q⟩
    simp only [v_letE, v_rdn, ne_eq, Nat.reduceEqDiff, not_false_eq_true, e, v_ibN hn (show 30 < 2 ^ 31 by omega), v_ckT, nI_clamp (show n < 2 ^ 31 by omega)]
    rw [v_rd, if_pos ⟨rfl, rfl⟩, ← nI_succ, nI_pred]
    unfold a_M2
    rw [← nI_succ]
  · rw [e, if_neg (fun q => c ((sh_3 hn hk).mp q))]
    refine ⟨fun q => ?_, fun _ => rfl⟩
    obtain ⟨j, hj, ej⟩ := q.2.2
    have hq : 2 ^ n ≤ 2 ^ 29 := Nat.pow_le_pow_right (by decide) (by omega)
    exact absurd ((nI_eq hk (by omega)).mp ej) (by omega)
theorem st_paper (N : Nat) (x1 x2 x3 : Int32) {M : v_M} {np nm n : Nat} (ht : J_time M) (hf : J_fleetc M np nm) (h : J_papc M nm n) : ∃ (r : Int32) (M1 M2 : v_M), f_X11_paper N x1 x2 x3 M = some (r, M1) ∧ f_X12_paper N x1 x2 x3 M1 = some (r, M2) ∧ (∃ n' : Nat, J_papc M2 nm n') ∧ v_fr [72, 73, 75, 140, 141, 142] [(71, 0), (79, 80)] M M2 := by
  obtain ⟨d, hd, t1, t2⟩ := ht
  obtain ⟨f1, f2, ⟨f3, -⟩, -⟩ := hf
  obtain ⟨hn, e1, e2, hp, hr⟩ := id h
  by_cases nn : x1 = -1 ∨ (0 ≤ x1 ∧ x1 ≤ nI nm - 1)
  · have c1 : f_X11_paper N x1 x2 x3 M = f_X11_paper_L13 N x1 x2 x3 M := by
      unfold f_X11_paper
      by_cases q : x1 = -1
      · rw [if_pos q]
      · rw [if_neg q]
        simp only [e_hasMachine, Option.bind_some, f1]
        rw [v_wiTe (nn.resolve_left q)]
    have c2 : ∀ A : v_M, A.1 79 3 = nI nm → ¬ A.1 79 80 = 30 → f_X12_paper N x1 x2 x3 A = f_X12_paper_L22 N x1 x2 x3 A := by
      intro A g1 g2
      unfold f_X12_paper
      rw [if_neg g2]
      by_cases q : x1 = -1
      · rw [if_pos q]
      · rw [if_neg q]
        simp only [e_isMachine, Option.bind_some, g1]
        rw [v_wiTe (nn.resolve_left q)]
    rw [c1]
    by_cases ok : a_ok d n x2 x3
    · refine ⟨nI n, a_M1 M n x1 x2 x3, a_M2 (a_M1 M n x1 x2 x3) n x1 x2 x3, (a_class N x1 x2 x3 t1 hn e1).1 ok, ?_, ⟨n + 1, ?_⟩, ?_⟩
      · have q1 : (a_M1 M n x1 x2 x3).1 79 80 = nI n := by unfold a_M1; simp only [v_rdn, ne_eq, Nat.reduceEqDiff, not_false_eq_true, e2]
        have q2 : (a_M1 M n x1 x2 x3).1 79 3 = nI nm := by unfold a_M1; simp only [v_rdn, ne_eq, Nat.reduceEqDiff, not_false_eq_true, f2]
        have q3 : (a_M1 M n x1 x2 x3).1 79 1 = nI d := by unfold a_M1; simp only [v_rdn, ne_eq, Nat.reduceEqDiff, not_false_eq_true, t2]
        rw [c2 _ q2 (fun q => by rw [q1] at q; exact absurd ((nI_eq (by omega) (by omega)).mp (show nI n = nI 30 from q)) (by have := ok.2.1; omega))]
        exact (a_model N x1 x2 x3 q3 ok.2.1 q1).1 ok
      · obtain ⟨a2, c, k, hk, rfl⟩ := ok
        have nx : ¬ x2 < 0 := fun q => by have u := i_le.mp a2.1; rw [i_lt] at q; omega
        obtain ⟨dd, hdd, rfl⟩ := nI_of2 (x := x2) (M := nI d) (n := d) (nI_toInt (by omega)) nx a2.2
        have old : ∀ i kk, kk ≠ 71 → kk ≠ 79 → i ≠ n ∨ (kk = 76 ∨ kk = 143) → (a_M2 (a_M1 M n x1 (nI dd) (nI k)) n x1 (nI dd) (nI k)).1 kk i = M.1 kk i := by
          intro i kk q1 q2 hi
          unfold a_M1 a_M2
          rcases hi with hi | hi | hi
          · simp only [v_rd, hi, and_false, if_false, q1, q2, false_and]
          · subst hi; simp only [v_rdn, ne_eq, Nat.reduceEqDiff, not_false_eq_true]
          · subst hi; simp only [v_rdn, ne_eq, Nat.reduceEqDiff, not_false_eq_true]
        generalize hA : a_M2 (a_M1 M n x1 (nI dd) (nI k)) n x1 (nI dd) (nI k) = A at old ⊢
        have nw : A.1 72 n = x1 ∧ A.1 73 n = nI dd ∧ A.1 75 n = nI k ∧ A.1 140 n = x1 ∧ A.1 141 n = nI dd ∧ A.1 142 n = nI k ∧ A.1 71 0 = nI (n + 1) ∧ A.1 79 80 = nI (n + 1) := by
          rw [← hA]
          unfold a_M1 a_M2
          simp [v_rd, nI_succ]
        obtain ⟨n1, n2, n3, m1, m2, m3, k1, k2⟩ := nw
        refine ⟨by omega, k1, k2, fun i hi => ?_, fun j hj => ?_⟩
        · by_cases hic : i = n
          · subst hic
            rw [n1, n2, n3, m1, m2, m3]
            refine ⟨⟨rfl, rfl, rfl⟩, ?_, ⟨dd, by omega, rfl⟩, ⟨k, hk, rfl⟩⟩
            rcases nn with nn | nn
            · exact Or.inl nn
            · exact Or.inr (i_idx (by omega) nn)
          · rw [old i 72 (by decide) (by decide) (Or.inl hic), old i 73 (by decide) (by decide) (Or.inl hic), old i 75 (by decide) (by decide) (Or.inl hic), old i 140 (by decide) (by decide) (Or.inl hic), old i 141 (by decide) (by decide) (Or.inl hic), old i 142 (by decide) (by decide) (Or.inl hic)]
            exact hp i (by omega)
        · rw [old j 76 (by decide) (by decide) (Or.inr (Or.inl rfl)), old j 143 (by decide) (by decide) (Or.inr (Or.inr rfl))]
          exact hr j hj
      · unfold a_M1 a_M2
        exact v_fro (by decide) (v_frw (by decide) (v_frw (by decide) (v_frw (by decide) (v_fro (by decide) (v_frw (by decide) (v_frw (by decide) (v_frw (by decide) v_frR)))))))
    · refine ⟨-1, M, M, (a_class N x1 x2 x3 t1 hn e1).2 ok, ?_, ⟨n, h⟩, v_frR⟩
      by_cases c : n = 30
      · subst c
        unfold f_X12_paper
        rw [if_pos (show M.1 79 80 = 30 from e2)]
      · rw [c2 M f2 (fun q => c ((nI_eq (by omega) (by omega)).mp (show nI n = nI 30 from e2 ▸ q)))]
        exact (a_model N x1 x2 x3 t2 (by omega) e2).2 ok
  · have q : ¬ x1 = -1 := fun q => nn (Or.inl q)
    have q2 : ¬ (0 ≤ x1 ∧ x1 ≤ nI nm - 1) := fun q => nn (Or.inr q)
    unfold f_X11_paper f_X12_paper
    rw [if_neg q]
    simp only [e_hasMachine, e_isMachine, Option.bind_some, f1, f2]
    rw [v_wiFe q2]
    refine ⟨-1, M, M, by unfold f_X11_paper_L18; rfl, ?_, ⟨n, h⟩, v_frR⟩
    rw [if_neg q, f2, v_wiFe q2, ite_self]
