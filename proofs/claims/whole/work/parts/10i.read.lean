/-! read, release -/
theorem nI_page (m k : Nat) : nI m * 30 + nI k = nI (30 * m + k) := by
  rw [show (30 : Int32) = nI 30 from rfl, nI_mul, nI_add, Nat.mul_comm]
theorem nI_page' (m k : Nat) : 30 * nI m + nI k = nI (30 * m + k) := by
  rw [show (30 : Int32) = nI 30 from rfl, nI_mul, nI_add]
theorem nI_nm1 {e : Nat} (h : e < 2 ^ 31) : ¬ nI e = -1 := fun q => by
  have := i_eq.mp q
  rw [nI_toInt h, show (-1 : Int32).toInt = -1 from rfl] at this
  omega
theorem st_read (N : Nat) (x1 x2 x3 : Int32) {M : v_M} {nm n : Nat} (ht : J_time M) (h : J_papc M nm n) : ∃ (r : Int32) (M1 M2 : v_M), f_X11_read N x1 x2 x3 M = some (r, M1) ∧ f_X12_read N x1 x2 x3 M1 = some (r, M2) ∧ J_papc M2 nm n ∧ v_fr [76, 143] [] M M2 := by
  obtain ⟨d, hd, t1, t2⟩ := ht
  obtain ⟨hn, e1, e2, hp, hr⟩ := id h
  unfold f_X11_read f_X12_read
  simp only [l_0, l_15, e_within, e_in2, Option.bind_some, e1, t1, v_b0, v_b1, v_ckT]
  by_cases a1 : 0 ≤ x1 ∧ x1 ≤ 15
  rotate_left
  · rw [v_wiFe a1]
    refine ⟨0, M, M, rfl, ?_, h, v_frR⟩
    rw [v_wiFe a1]
  rw [v_wiTe a1]
  by_cases a2 : 0 ≤ x2 ∧ x2 ≤ nI n - 1
  rotate_left
  · rw [v_wiFe a2]
    refine ⟨0, M, M, rfl, ?_, h, v_frR⟩
    rw [v_wiTe a1, e2, v_wiFe a2]
  rw [v_wiTe a2]
  obtain ⟨m, hm, rfl⟩ := i_idx (c := 16) (by omega) (show 0 ≤ x1 ∧ x1 ≤ nI 16 - 1 from a1)
  obtain ⟨k, hk, rfl⟩ := i_idx (by omega) a2
  obtain ⟨⟨-, g2, -⟩, -, ⟨f, hf, g5⟩, -⟩ := hp k hk
  have ib2 := v_ibN (show k < 30 by omega) (show 30 < 2 ^ 31 by omega)
  have cl2 := nI_clamp (show k < 2 ^ 31 by omega)
  have hj : 30 * m + k < 480 := by omega
  have ib := v_ibN hj (show 480 < 2 ^ 31 by omega)
  have cl := nI_clamp (show 30 * m + k < 2 ^ 31 by omega)
  simp only [ib2, cl2, v_ckT]
  by_cases a3 : M.1 73 k ≤ x3 ∧ x3 ≤ nI d
  rotate_left
  · rw [v_wiFe a3]
    refine ⟨0, M, M, rfl, ?_, h, v_frR⟩
    rw [v_wiTe a1, e2, v_wiTe a2, g2, t2, v_wiFe a3]
  rw [v_wiTe a3]
  have nx : ¬ x3 < 0 := fun q => by
    have u := i_le.mp a3.1
    rw [g5, nI_toInt (by omega)] at u
    rw [i_lt, i0] at q
    omega
  obtain ⟨dd, hdd, rfl⟩ := nI_of2 (x := x3) (M := nI d) (n := d) (nI_toInt (by omega)) nx a3.2
  have key : ∃ e : Nat, e ≤ 9999 ∧ v_mn (M.1 76 (30 * m + k)) (nI dd) = nI e ∧ ((M.1 143 (30 * m + k) = -1 ∧ nI e = nI dd) ∨ (¬ M.1 143 (30 * m + k) = -1 ∧ M.1 143 (30 * m + k) ≤ nI dd ∧ nI e = M.1 143 (30 * m + k)) ∨ (¬ M.1 143 (30 * m + k) = -1 ∧ ¬ M.1 143 (30 * m + k) ≤ nI dd ∧ nI e = nI dd)) := by
    unfold v_mn
    rcases hr _ hj with ⟨w1, w2⟩ | ⟨e, he, w1, w2⟩
    · rw [w1, if_pos (show nI dd < 10000 from nI_lt (b := 10000) (by omega) (by omega))]
      exact ⟨dd, by omega, rfl, Or.inl ⟨w2, rfl⟩⟩
    · rw [w1, w2]
      by_cases q : dd < e
      · rw [if_pos (nI_lt q (by omega))]
        exact ⟨dd, by omega, rfl, Or.inr (Or.inr ⟨nI_nm1 (by omega), nI_ge q (by omega), rfl⟩)⟩
      · rw [if_neg (nI_nlt (by omega) (by omega))]
        exact ⟨e, he, rfl, Or.inr (Or.inl ⟨nI_nm1 (by omega), nI_le (by omega) (by omega), rfl⟩)⟩
  obtain ⟨e, he, k1, k2⟩ := key
  refine ⟨1, v_wr M 76 (30 * m + k) (nI e), v_wr (v_wr M 76 (30 * m + k) (nI e)) 143 (30 * m + k) (nI e), ?_, ?_, ?_, v_frw (by decide) (v_frw (by decide) v_frR)⟩
  · unfold f_X6_putReading
    simp only [v_letE, nI_page, e_within, Option.bind_some]
    rw [v_wiTe (show 0 ≤ nI (30 * m + k) ∧ nI (30 * m + k) ≤ (480 : Int32) - 1 from i_idx' (c := 480) (by omega) hj)]
    simp only [ib, cl, v_ckT, k1, Option.bind_some]
  · unfold f_X12_read_L86
    simp only [v_rdn, ne_eq, Nat.reduceEqDiff, not_false_eq_true, e2, t2, g2, nI_page', v_letE, ib, cl, v_ckT, v_b1]
    rw [v_wiTe a1, v_wiTe a2, v_wiTe a3]
    rcases k2 with ⟨q1, q2⟩ | ⟨q1, q2, q3⟩ | ⟨q1, q2, q3⟩
    · rw [if_pos q1, q2]
    · rw [if_neg q1, if_pos q2, q3]
    · rw [if_neg q1, if_neg q2, q3]
  · have o : ∀ kk, kk ≠ 76 → kk ≠ 143 → (v_wr (v_wr M 76 (30 * m + k) (nI e)) 143 (30 * m + k) (nI e)).1 kk = M.1 kk := fun kk a b => by rw [v_wr_n b, v_wr_n a]
    have o1 : ∀ j, (v_wr (v_wr M 76 (30 * m + k) (nI e)) 143 (30 * m + k) (nI e)).1 76 j = if j = 30 * m + k then nI e else M.1 76 j := fun j => by rw [v_rdn (by decide), v_rd]; simp
    have o2 : ∀ j, (v_wr (v_wr M 76 (30 * m + k) (nI e)) 143 (30 * m + k) (nI e)).1 143 j = if j = 30 * m + k then nI e else M.1 143 j := fun j => by rw [v_rd, v_rdn (by decide)]; simp
    generalize v_wr (v_wr M 76 (30 * m + k) (nI e)) 143 (30 * m + k) (nI e) = A at o o1 o2
    unfold J_papc
    rw [o 71 (by decide) (by decide), o 79 (by decide) (by decide), o 72 (by decide) (by decide), o 73 (by decide) (by decide), o 75 (by decide) (by decide), o 140 (by decide) (by decide), o 141 (by decide) (by decide), o 142 (by decide) (by decide)]
    refine ⟨hn, e1, e2, hp, fun j hj2 => ?_⟩
    rw [o1, o2]
    by_cases q : j = 30 * m + k
    · rw [if_pos q, if_pos q]; exact Or.inr ⟨e, he, rfl, rfl⟩
    · rw [if_neg q, if_neg q]; exact hr j hj2
/-- a row filled from i to n -/
theorem e_fillR (N r n0 : Nat) (v : Int32) {n : Nat} (hn : n ≤ n0) (h0 : n0 < 2 ^ 31) : ∀ (f i : Nat) (M : v_M), i ≤ n → n - i < f → ∃ M' : v_M, f_J7_fill_fda19_L10 N r n0 f (nI n) v (nI i) M = some (0, M') ∧ v_fr [r] [] M M' ∧ ∀ j, M'.1 r j = if i ≤ j ∧ j < n then v else M.1 r j := by
  intro f
  induction f with
  | zero => intro i M _ h; omega
  | succ f ih =>
    intro i M hi hf
    unfold f_J7_fill_fda19_L10
    by_cases c : i = n
    · subst c
      rw [if_pos (nI_le (Nat.le_refl _) (by omega))]
      exact ⟨M, rfl, v_frR, fun j => by rw [if_neg (by omega)]⟩
    · rw [if_neg (nI_ge (show i < n by omega) (by omega))]
      obtain ⟨M', g1, g2, g3⟩ := ih (i + 1) (v_wr M r i v) (by omega) (by omega)
      refine ⟨M', ?_, v_frT (v_frw (List.mem_singleton.mpr rfl) v_frR) g2, fun j => ?_⟩
      · simp only [v_ibN (show i < n0 by omega) h0, v_ckT, v_letE, nI_clamp (show i < 2 ^ 31 by omega), nI_1]
        exact g1
      · rw [g3, v_rd]
        by_cases q : j = i
        · subst q
          rw [if_neg (by omega), if_pos ⟨rfl, rfl⟩, if_pos (by omega)]
        · rw [if_neg (show ¬ (r = r ∧ j = i) from fun z => q z.2)]
          by_cases w : i + 1 ≤ j ∧ j < n
          · rw [if_pos w, if_pos (by omega)]
          · rw [if_neg w, if_neg (by omega)]
