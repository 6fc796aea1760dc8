/-! part: both sides -/
theorem v_wiTe {x lo hi : Int32} (h : lo ≤ x ∧ x ≤ hi) {α : Type} (a b : α) : (if v_wi x lo hi = 0 then a else b) = b := by rw [v_wiT h]; rfl
theorem v_wiFe {x lo hi : Int32} (h : ¬ (lo ≤ x ∧ x ≤ hi)) {α : Type} (a b : α) : (if v_wi x lo hi = 0 then a else b) = a := by rw [v_wiF h]; rfl
def p_ok (K : Nat → Int32) (c : Nat) (x1 x2 x3 x4 x5 x6 x7 : Int32) : Prop := (0 ≤ x3 ∧ x3 ≤ 99) ∧ ((11 ≤ x4 ∧ x4 ≤ 99) ∧ ¬ x4 - x4 / 10 * 10 = 0) ∧ (0 ≤ x5 ∧ x5 ≤ 999) ∧ (0 ≤ x6 ∧ x6 ≤ 999) ∧ (0 ≤ x7 ∧ x7 ≤ 999) ∧ c < 24 ∧ (0 ≤ x1 ∧ x1 ≤ 5) ∧ v_dr K c x1 x2
def p_M1 (M : v_M) (c : Nat) (x1 x2 x3 x4 x5 x6 x7 : Int32) : v_M := v_wr (v_wr (v_wr (v_wr (v_wr (v_wr (v_wr (v_wr (v_wr M 2 c x1) 3 c x2) 4 c x3) 5 c (x4 / 10)) 6 c (x4 - x4 / 10 * 10)) 7 c x5) 8 c x6) 9 c x7) 1 0 (nI c + 1)
def p_M2 (M : v_M) (c : Nat) (x1 x2 x3 x4 x5 x6 x7 : Int32) : v_M := v_wr (v_wr (v_wr (v_wr (v_wr (v_wr (v_wr (v_wr (v_wr M 80 c x1) 81 c x2) 82 c x3) 83 c x4) 84 c x5) 85 c x6) 86 c x7) 87 c 0) 79 2 (nI c + 1)
theorem p_86 (N : Nat) (x1 x2 x3 x4 x5 x6 x7 t : Int32) (M : v_M) : f_X11_part_L86 N x1 x2 x3 x4 x5 x6 x7 0 t M = some (-1, M) := by unfold f_X11_part_L86; rfl
theorem p_85 (N : Nat) (x1 x2 x3 x4 x5 x6 x7 x8 : Int32) (M : v_M) : f_X11_part_L85 N x1 x2 x3 x4 x5 x6 x7 x8 M = some (-1, M) := by
  unfold f_X11_part_L85 f_X11_part_L86
  by_cases h : x8 = 0
  · rw [if_pos h]
  · rw [if_neg h]; rfl
theorem p_42 (N : Nat) (x1 x2 x3 x4 x5 x6 x7 : Int32) (M : v_M) : f_X11_part_L42 N x1 x2 x3 x4 x5 x6 x7 M = some (-1, M) := by
  unfold f_X11_part_L42 f_X11_part_L43
  simp only [e_within, Option.bind_some, p_85, p_86, ite_self]
theorem p_class (N : Nat) (x1 x2 x3 x4 x5 x6 x7 : Int32) {M : v_M} {c : Nat} (hc : c ≤ 24) (e1 : M.1 1 0 = nI c) : (p_ok (M.1 2) c x1 x2 x3 x4 x5 x6 x7 → f_X11_part N x1 x2 x3 x4 x5 x6 x7 M = some (nI c, p_M1 M c x1 x2 x3 x4 x5 x6 x7)) ∧ (¬ p_ok (M.1 2) c x1 x2 x3 x4 x5 x6 x7 → f_X11_part N x1 x2 x3 x4 x5 x6 x7 M = some (-1, M)) := by
  unfold f_X11_part
  simp only [e_within, Option.bind_some, v_nz10, v_ckT, p_42]
  by_cases a3 : 0 ≤ x3 ∧ x3 ≤ 99
  rotate_left
  · rw [v_wiFe a3]; exact ⟨fun q => absurd q.1 a3, fun _ => rfl⟩
  rw [v_wiTe a3]
  by_cases a4 : 1 ≤ x4 / 10 ∧ x4 / 10 ≤ 9
  rotate_left
  · rw [v_wiFe a4]; exact ⟨fun q => absurd ((v_shr x4).mpr q.2.1).1 a4, fun _ => rfl⟩
  rw [v_wiTe a4]
  by_cases a5 : 1 ≤ x4 - x4 / 10 * 10 ∧ x4 - x4 / 10 * 10 ≤ 9
  rotate_left
  · rw [v_wiFe a5]; exact ⟨fun q => absurd ((v_shr x4).mpr q.2.1).2 a5, fun _ => rfl⟩
  rw [v_wiTe a5]
  unfold f_X11_part_L43
  simp only [e_within, Option.bind_some, p_85]
  by_cases b5 : 0 ≤ x5 ∧ x5 ≤ 999
  rotate_left
  · rw [v_wiFe b5]; exact ⟨fun q => absurd q.2.2.1 b5, fun _ => rfl⟩
  rw [v_wiTe b5]
  by_cases b6 : 0 ≤ x6 ∧ x6 ≤ 999
  rotate_left
  · rw [v_wiFe b6]; exact ⟨fun q => absurd q.2.2.2.1 b6, fun _ => rfl⟩
  rw [v_wiTe b6]
  by_cases b7 : 0 ≤ x7 ∧ x7 ≤ 999
  rotate_left
  · rw [v_wiFe b7]; exact ⟨fun q => absurd q.2.2.2.2.1 b7, fun _ => rfl⟩
  rw [v_wiTe b7]
  unfold f_X11_part_L86
  rw [if_neg (show ¬ (1 : Int32) = 0 by decide), if_neg (show ¬ (1 : Int32) = 0 by decide)]
  by_cases t : c < 24 ∧ (0 ≤ x1 ∧ x1 ≤ 5) ∧ v_dr (M.1 2) c x1 x2
  rotate_left
  · rw [(e_takesKind N x1 x2 hc e1).2 t]; exact ⟨fun q => absurd q.2.2.2.2.2 t, fun _ => rfl⟩
  rw [(e_takesKind N x1 x2 hc e1).1 t]
  refine ⟨fun _ => ?_, fun q => absurd ⟨a3, (v_shr x4).mp ⟨a4, a5⟩, b5, b6, b7, t⟩ q⟩
  simp only [Option.bind_some]
  rw [if_neg (show ¬ (1 : Int32) = 0 by decide)]
  unfold f_X3_add
  simp only [e1, v_letE, v_ibN t.1 (show 24 < 2 ^ 31 by omega), v_ckT, v_nz10, nI_clamp (show c < 2 ^ 31 by omega)]
  rw [if_pos (show nI c < 24 from nI_lt (b := 24) t.1 (by omega))]
  rfl
theorem p_model (N : Nat) (x1 x2 x3 x4 x5 x6 x7 : Int32) {K : Nat → Int32} {M : v_M} {c : Nat} (hc : c ≤ 24) (e2 : M.1 79 2 = nI c) (hK : ∀ j, j < c → M.1 80 j = K j) : (p_ok K c x1 x2 x3 x4 x5 x6 x7 → f_X12_part N x1 x2 x3 x4 x5 x6 x7 M = some (nI c, p_M2 M c x1 x2 x3 x4 x5 x6 x7)) ∧ (¬ p_ok K c x1 x2 x3 x4 x5 x6 x7 → f_X12_part N x1 x2 x3 x4 x5 x6 x7 M = some (-1, M)) := by
  unfold f_X12_part
  simp only [l_0, l_5, l_99, l_11, l_999, e_in2, Option.bind_some]
  by_cases c4 : c = 24
  · subst c4
    rw [e2, if_pos (show nI 24 = 24 from rfl)]; exact ⟨fun q => absurd q.2.2.2.2.2.1 (by omega), fun _ => rfl⟩
  rw [if_neg (show ¬ M.1 79 2 = 24 from fun q => c4 ((nI_eq (by omega) (by omega)).mp (show nI c = nI 24 from e2 ▸ q)))]
  by_cases k : 0 ≤ x1 ∧ x1 ≤ 5
  rotate_left
  · rw [v_wiFe k]; exact ⟨fun q => absurd q.2.2.2.2.2.2.1 k, fun _ => rfl⟩
  rw [v_wiTe k]
  by_cases d : v_dr K c x1 x2
  rotate_left
  · rw [(e_isDriven N x1 x2 hc e2 hK).2 d]; exact ⟨fun q => absurd q.2.2.2.2.2.2.2 d, fun _ => rfl⟩
  rw [(e_isDriven N x1 x2 hc e2 hK).1 d]
  simp only [Option.bind_some]
  rw [if_neg (show ¬ (1 : Int32) = 0 by decide)]
  by_cases a3 : 0 ≤ x3 ∧ x3 ≤ 99
  rotate_left
  · rw [v_wiFe a3]; exact ⟨fun q => absurd q.1 a3, fun _ => rfl⟩
  rw [v_wiTe a3]
  by_cases a4 : 11 ≤ x4 ∧ x4 ≤ 99
  rotate_left
  · rw [v_wiFe a4]; exact ⟨fun q => absurd q.2.1.1 a4, fun _ => rfl⟩
  rw [v_wiTe a4]
  simp only [v_nz10, v_ckT]
  by_cases a5 : x4 - x4 / 10 * 10 = 0
  · rw [if_pos a5]; exact ⟨fun q => absurd a5 q.2.1.2, fun _ => rfl⟩
  rw [if_neg a5]
  by_cases b5 : 0 ≤ x5 ∧ x5 ≤ 999
  rotate_left
  · rw [v_wiFe b5]; exact ⟨fun q => absurd q.2.2.1 b5, fun _ => rfl⟩
  rw [v_wiTe b5]
  by_cases b6 : 0 ≤ x6 ∧ x6 ≤ 999
  rotate_left
  · rw [v_wiFe b6]; exact ⟨fun q => absurd q.2.2.2.1 b6, fun _ => rfl⟩
  rw [v_wiTe b6]
  by_cases b7 : 0 ≤ x7 ∧ x7 ≤ 999
  rotate_left
  · rw [v_wiFe b7]; exact ⟨fun q => absurd q.2.2.2.2.1 b7, fun _ => rfl⟩
  rw [v_wiTe b7]
  refine ⟨fun _ => ?_, fun q => absurd ⟨a3, ⟨a4, a5⟩, b5, b6, b7, by omega, k, d⟩ q⟩
  simp only [v_letE, v_rdn, ne_eq, Nat.reduceEqDiff, not_false_eq_true, e2, v_ibN (show c < 24 by omega) (show 24 < 2 ^ 31 by omega), v_ckT, nI_clamp (show c < 2 ^ 31 by omega)]
  have e : (v_wr (v_wr (v_wr (v_wr (v_wr (v_wr (v_wr (v_wr (v_wr M 80 c x1) 81 c x2) 82 c x3) 83 c x4) 84 c x5) 85 c x6) 86 c x7) 87 c 0) 79 2 (nI c + 1)).1 79 2 - 1 = nI c := by
    rw [v_rd, if_pos ⟨rfl, rfl⟩, ← nI_succ, nI_pred]
  first | (rw [e]; rfl) | (simp only [e]; rfl)
theorem st_part (N : Nat) (x1 x2 x3 x4 x5 x6 x7 : Int32) {M : v_M} {c : Nat} (h : J_drawc M c) : ∃ (r : Int32) (M1 M2 : v_M), f_X11_part N x1 x2 x3 x4 x5 x6 x7 M = some (r, M1) ∧ f_X12_part N x1 x2 x3 x4 x5 x6 x7 M1 = some (r, M2) ∧ (∃ c' : Nat, c ≤ c' ∧ J_drawc M2 c') ∧ v_fr [2, 3, 4, 5, 6, 7, 8, 9, 80, 81, 82, 83, 84, 85, 86, 87] [(1, 0), (79, 2)] M M2 := by
  obtain ⟨hc, e1, e2, hp, hw⟩ := id h
  by_cases ok : p_ok (M.1 2) c x1 x2 x3 x4 x5 x6 x7
  rotate_left
  · exact ⟨-1, M, M, (p_class N x1 x2 x3 x4 x5 x6 x7 hc e1).2 ok, (p_model N x1 x2 x3 x4 x5 x6 x7 hc e2 (fun j hj => (hp j hj).1.1)).2 ok, ⟨c, Nat.le_refl _, h⟩, v_frR⟩
  refine ⟨nI c, _, _, (p_class N x1 x2 x3 x4 x5 x6 x7 hc e1).1 ok, (p_model N x1 x2 x3 x4 x5 x6 x7 (K := M.1 2) (c := c) hc ?_ (fun j hj => ?_)).1 ok, ⟨c + 1, by omega, ?_⟩, ?_⟩
  · unfold p_M1; simp only [v_rdn, ne_eq, Nat.reduceEqDiff, not_false_eq_true, e2]
  · unfold p_M1; simp only [v_rdn, ne_eq, Nat.reduceEqDiff, not_false_eq_true, (hp j hj).1.1]
  · obtain ⟨a3, a4, b5, b6, b7, c4, k, d⟩ := ok
    have a4' := (v_shr x4).mpr a4
    have t1 : (1 : Int32).toInt = 1 := rfl
    have t2 : (2 : Int32).toInt = 2 := rfl
    have t5 : (5 : Int32).toInt = 5 := rfl
    have t9 : (9 : Int32).toInt = 9 := rfl
    have t99 : (99 : Int32).toInt = 99 := rfl
    have t999 : (999 : Int32).toInt = 999 := rfl
    have old : ∀ i, i ≠ c → ∀ kk ∈ [2, 3, 4, 5, 6, 7, 8, 9, 10, 80, 81, 82, 83, 84, 85, 86, 87], (p_M2 (p_M1 M c x1 x2 x3 x4 x5 x6 x7) c x1 x2 x3 x4 x5 x6 x7).1 kk i = M.1 kk i := by
      intro i hi kk hk
      have q1 : kk ≠ 1 := fun e => by subst e; revert hk; decide
      have q2 : kk ≠ 79 := fun e => by subst e; revert hk; decide
      unfold p_M1 p_M2
      simp only [v_rd, hi, and_false, if_false, q1, q2, false_and]
    generalize hA : p_M2 (p_M1 M c x1 x2 x3 x4 x5 x6 x7) c x1 x2 x3 x4 x5 x6 x7 = A at old ⊢
    have nw : A.1 2 c = x1 ∧ A.1 3 c = x2 ∧ A.1 4 c = x3 ∧ A.1 5 c = x4 / 10 ∧ A.1 6 c = x4 - x4 / 10 * 10 ∧ A.1 7 c = x5 ∧ A.1 8 c = x6 ∧ A.1 9 c = x7 ∧ A.1 10 c = 0 ∧ A.1 80 c = x1 ∧ A.1 81 c = x2 ∧ A.1 82 c = x3 ∧ A.1 83 c = x4 ∧ A.1 84 c = x5 ∧ A.1 85 c = x6 ∧ A.1 86 c = x7 ∧ A.1 87 c = 0 ∧ A.1 1 0 = nI (c + 1) ∧ A.1 79 2 = nI (c + 1) := by
      rw [← hA]
      unfold p_M1 p_M2
      simp [v_rd, nI_succ, hw c (Nat.le_refl _) c4]
    obtain ⟨n2, n3, n4, n5, n6, n7, n8, n9, n10, m0, m1, m2, m3, m4, m5, m6, m7, k1, k2⟩ := nw
    refine ⟨by omega, k1, k2, fun i hi => ?_, fun i h1 h2 => by rw [old i (by omega) 10 (by decide)]; exact hw i (by omega) h2⟩
    by_cases hic : i = c
    · subst hic
      unfold J_part v_bt
      rw [n2, n3, n4, n5, n6, n7, n8, n9, n10, m0, m1, m2, m3, m4, m5, m6, m7]
      rw [i_le, i_le] at a3 b5 b6 b7 k
      rw [i_le, i_le, i_le, i_le] at a4'
      rw [i0] at a3 b5 b6 b7 k
      rw [t99] at a3
      rw [t999] at b5 b6 b7
      rw [t5] at k
      rw [t1, t9] at a4'
      obtain ⟨q, r, f1, f2, f3, -, -⟩ := i_d10 x4
      refine ⟨⟨rfl, rfl, rfl, ?_, rfl, rfl, rfl, rfl⟩, ⟨k, a3, a4'.1, a4'.2, b5, b6, b7, by rw [i0]; omega⟩, fun i0' => ?_, fun ip => ?_⟩
      · rw [Int32.add_comm, Int32.sub_add_cancel]
      · rcases d with d | d
        · exact d.2
        · exact absurd d.1 (by omega)
      · rcases d with d | d
        · exact absurd d.1 (by omega)
        · obtain ⟨j, hj, rfl⟩ := i_idx (by omega) d.2.2.1
          have d4 := d.2.2.2.1
          have d5 := d.2.2.2.2
          rw [nI_clamp (by omega)] at d4 d5 ⊢
          rw [old j (by omega) 2 (by decide), nI_toInt (by omega)]
          have k0 : ¬ x1.toInt = 0 := fun e => d.2.1 (i_eq.mpr e)
          refine ⟨by omega, by omega, ?_, d4⟩
          by_cases k5 : x1 = 5
          · rw [d4 k5, t2]; omega
          · have := i_le.mp (d5 k5); rw [t2] at this; exact this
    · have hlt : i < c := by omega
      have hpi := hp i hlt
      unfold J_part at hpi ⊢
      have o : ∀ kk ∈ [2, 3, 4, 5, 6, 7, 8, 9, 10, 80, 81, 82, 83, 84, 85, 86, 87], A.1 kk i = M.1 kk i := old i hic
      rw [o 2 (by decide), o 3 (by decide), o 4 (by decide), o 5 (by decide), o 6 (by decide), o 7 (by decide), o 8 (by decide), o 9 (by decide), o 10 (by decide), o 80 (by decide), o 81 (by decide), o 82 (by decide), o 83 (by decide), o 84 (by decide), o 85 (by decide), o 86 (by decide), o 87 (by decide)]
      refine ⟨hpi.1, hpi.2.1, hpi.2.2.1, fun ip => ?_⟩
      have hd := hpi.2.2.2 ip
      obtain ⟨j, hj, ej⟩ := nI_of (x := M.1 3 i) (fun q => by have := hd.2.1.1; rw [i_lt, i0] at q; omega)
      have hj2 := hd.2.1.2
      rw [ej, nI_toInt hj] at hj2
      rw [ej, nI_clamp hj] at hd ⊢
      rw [old j (by omega) 2 (by decide)]
      exact hd
  · unfold p_M1 p_M2
    exact v_fro (by decide) (v_frw (by decide) (v_frw (by decide) (v_frw (by decide) (v_frw (by decide) (v_frw (by decide) (v_frw (by decide) (v_frw (by decide) (v_frw (by decide) (v_fro (by decide) (v_frw (by decide) (v_frw (by decide) (v_frw (by decide) (v_frw (by decide) (v_frw (by decide) (v_frw (by decide) (v_frw (by decide) (v_frw (by decide) v_frR)))))))))))))))))
