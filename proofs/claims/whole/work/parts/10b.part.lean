/-! the drawing, and part -/
def v_bt (x : Int32) (a b : Int) : Prop := a ≤ x.toInt ∧ x.toInt ≤ b
def J_part (M : v_M) (i : Nat) : Prop :=
  (M.1 80 i = M.1 2 i ∧ M.1 81 i = M.1 3 i ∧ M.1 82 i = M.1 4 i ∧ M.1 83 i = M.1 5 i * 10 + M.1 6 i ∧ M.1 84 i = M.1 7 i ∧ M.1 85 i = M.1 8 i ∧ M.1 86 i = M.1 9 i ∧ M.1 87 i = M.1 10 i) ∧
  (v_bt (M.1 2 i) 0 5 ∧ v_bt (M.1 4 i) 0 99 ∧ v_bt (M.1 5 i) 1 9 ∧ v_bt (M.1 6 i) 1 9 ∧ v_bt (M.1 7 i) 0 999 ∧ v_bt (M.1 8 i) 0 999 ∧ v_bt (M.1 9 i) 0 999 ∧ v_bt (M.1 10 i) 0 9999) ∧
  (i = 0 → M.1 2 i = 0 ∧ M.1 3 i = -1) ∧
  (0 < i → 1 ≤ (M.1 2 i).toInt ∧ v_bt (M.1 3 i) 0 ((i : Int) - 1) ∧ (M.1 2 (M.1 3 i).toNatClampNeg).toInt ≤ 2 ∧ (M.1 2 i = 5 → M.1 2 (M.1 3 i).toNatClampNeg = 2))
def J_drawc (M : v_M) (c : Nat) : Prop := c ≤ 24 ∧ M.1 1 0 = nI c ∧ M.1 79 2 = nI c ∧ (∀ i, i < c → J_part M i) ∧ ∀ i, c ≤ i → i < 24 → M.1 10 i = 0
def J_draw (M : v_M) : Prop := ∃ c : Nat, J_drawc M c
theorem J_drawc.keep {W : List Nat} {O : List (Nat × Nat)} {M M' : v_M} {c : Nat} (hf : v_fr W O M M') (hk : ([2, 3, 4, 5, 6, 7, 8, 9, 10, 80, 81, 82, 83, 84, 85, 86, 87].all (fun k => !(W.contains k || O.any (fun q => q.1 == k)))) = true) (h1 : (W.contains 1 || O.contains (1, 0)) = false) (h2 : (W.contains 79 || O.contains (79, 2)) = false) (h : J_drawc M c) : J_drawc M' c := by
  have e : ∀ k ∈ [2, 3, 4, 5, 6, 7, 8, 9, 10, 80, 81, 82, 83, 84, 85, 86, 87], M'.1 k = M.1 k := fun k hm => v_keepR hf k (by have := List.all_eq_true.mp hk k hm; simpa using this)
  unfold J_drawc J_part at h ⊢
  rw [v_keepC hf 1 0 h1, v_keepC hf 79 2 h2, e 2 (by decide), e 3 (by decide), e 4 (by decide), e 5 (by decide), e 6 (by decide), e 7 (by decide), e 8 (by decide), e 9 (by decide), e 10 (by decide), e 80 (by decide), e 81 (by decide), e 82 (by decide), e 83 (by decide), e 84 (by decide), e 85 (by decide), e 86 (by decide), e 87 (by decide)]
  exact h
theorem i0 : (0 : Int32).toInt = 0 := rfl
theorem i1 : (1 : Int32).toInt = 1 := rfl
theorem nI_p {c : Nat} (h : c < 2 ^ 31) : (nI c - 1).toInt = (c : Int) - 1 := by
  cases c with
  | zero => rfl
  | succ c => rw [nI_pred, nI_toInt (by omega)]; omega
/-- a number between 0 and c - 1 is a place below c -/
theorem i_idx {x : Int32} {c : Nat} (hc : c < 2 ^ 31) (h : 0 ≤ x ∧ x ≤ nI c - 1) : ∃ j : Nat, j < c ∧ x = nI j := by
  have h1 := i_le.mp h.1
  have h2 := i_le.mp h.2
  rw [nI_p hc] at h2
  rw [i0] at h1
  obtain ⟨j, hj, rfl⟩ := nI_of (x := x) (fun q => by rw [i_lt, i0] at q; omega)
  rw [nI_toInt hj] at h2
  exact ⟨j, by omega, rfl⟩
theorem i_idx' {j c : Nat} (hc : c < 2 ^ 31) (h : j < c) : 0 ≤ nI j ∧ nI j ≤ nI c - 1 := by
  rw [i_le, i_le, nI_p hc, nI_toInt (by omega), i0]; omega
/-- may a part of kind k be driven so -/
def v_dr (K : Nat → Int32) (c : Nat) (k by' : Int32) : Prop := (c = 0 ∧ k = 0 ∧ by' = -1) ∨ (0 < c ∧ ¬ k = 0 ∧ (0 ≤ by' ∧ by' ≤ nI c - 1) ∧ (k = 5 → K by'.toNatClampNeg = 2) ∧ (¬ k = 5 → K by'.toNatClampNeg ≤ 2))
theorem e_isPart (N : Nat) (x : Int32) (M : v_M) : f_X12_isPart N x M = some (v_wi x 0 (M.1 79 2 - 1), M) := by
  unfold f_X12_isPart
  simp only [l_0, e_in2, Option.bind_some, v_wi01, v_ckT]
theorem e_isMachine (N : Nat) (x : Int32) (M : v_M) : f_X12_isMachine N x M = some (v_wi x 0 (M.1 79 3 - 1), M) := by
  unfold f_X12_isMachine
  simp only [l_0, e_in2, Option.bind_some, v_wi01, v_ckT]
theorem e_isDriven (N : Nat) (k x : Int32) {K : Nat → Int32} {M : v_M} {c : Nat} (hc : c ≤ 24) (e2 : M.1 79 2 = nI c) (hK : ∀ j, j < c → M.1 80 j = K j) : (v_dr K c k x → f_X12_isDriven N k x M = some (1, M)) ∧ (¬ v_dr K c k x → f_X12_isDriven N k x M = some (0, M)) := by
  unfold f_X12_isDriven
  by_cases k0 : k = 0
  · rw [if_pos k0, e2]
    by_cases c0 : c = 0
    · subst c0
      rw [if_pos (show nI 0 = 0 from rfl)]
      by_cases x0 : x = -1
      · rw [if_pos x0]
        exact ⟨fun _ => rfl, fun q => absurd (Or.inl ⟨rfl, k0, x0⟩) q⟩
      · rw [if_neg x0]
        refine ⟨fun q => ?_, fun _ => rfl⟩
        rcases q with q | q
        · exact absurd q.2.2 x0
        · exact absurd k0 q.2.1
    · rw [if_neg (nI_ne0 (by omega) (by omega))]
      refine ⟨fun q => ?_, fun _ => rfl⟩
      rcases q with q | q
      · exact absurd q.1 c0
      · exact absurd k0 q.2.1
  · rw [if_neg k0]
    by_cases c0 : c = 0
    · subst c0
      rw [if_pos (by rw [e2]; decide)]
      refine ⟨fun q => ?_, fun _ => rfl⟩
      rcases q with q | q
      · exact absurd q.2.1 k0
      · exact absurd q.1 (by omega)
    · rw [if_neg (by rw [e2]; exact nI_nle (by omega) (by omega))]
      simp only [e_isPart, Option.bind_some, e2]
      by_cases x0 : 0 ≤ x ∧ x ≤ nI c - 1
      · obtain ⟨j, hj, rfl⟩ := i_idx (by omega) x0
        simp only [v_wiT x0, if_neg (show ¬ (1 : Int32) = 0 by decide), v_ibN (show j < 24 by omega) (by omega), v_ckT, nI_clamp (show j < 2 ^ 31 by omega), hK j hj]
        by_cases k5 : k = 5
        · rw [if_pos k5]
          by_cases kd : K j = 2
          · rw [if_pos kd]
            exact ⟨fun _ => rfl, fun q => absurd (Or.inr ⟨by omega, k0, x0, fun _ => by rw [nI_clamp (by omega)]; exact kd, fun q => absurd k5 q⟩) q⟩
          · rw [if_neg kd]
            refine ⟨fun q => ?_, fun _ => rfl⟩
            rcases q with q | q
            · exact absurd q.1 c0
            · have := q.2.2.2.1 k5; rw [nI_clamp (by omega)] at this; exact absurd this kd
        · rw [if_neg k5]
          by_cases kd : 2 < K j
          · rw [if_pos kd]
            refine ⟨fun q => ?_, fun _ => rfl⟩
            rcases q with q | q
            · exact absurd q.1 c0
            · have := q.2.2.2.2 k5; rw [nI_clamp (by omega)] at this; exact absurd kd (Int32.not_lt.mpr this)
          · rw [if_neg kd]
            exact ⟨fun _ => rfl, fun q => absurd (Or.inr ⟨by omega, k0, x0, fun q => absurd q k5, fun _ => by rw [nI_clamp (by omega)]; exact Int32.not_lt.mp kd⟩) q⟩
      · simp only [v_wiF x0]
        refine ⟨fun q => ?_, fun _ => rfl⟩
        rcases q with q | q
        · exact absurd q.1 c0
        · exact absurd q.2.2.1 x0
theorem e_takesKind (N : Nat) (k x : Int32) {M : v_M} {c : Nat} (hc : c ≤ 24) (e1 : M.1 1 0 = nI c) : (c < 24 ∧ (0 ≤ k ∧ k ≤ 5) ∧ v_dr (M.1 2) c k x → f_X3_takesKind N k x M = some (1, M)) ∧ (¬ (c < 24 ∧ (0 ≤ k ∧ k ≤ 5) ∧ v_dr (M.1 2) c k x) → f_X3_takesKind N k x M = some (0, M)) := by
  unfold f_X3_takesKind
  by_cases c4 : c < 24
  · rw [e1, if_pos (show nI c < 24 from nI_lt (b := 24) c4 (by omega))]
    by_cases c0 : c = 0
    · subst c0
      rw [if_pos (show nI 0 = 0 from rfl)]
      by_cases k0 : k = 0
      · rw [if_pos k0]
        by_cases x0 : x = -1
        · rw [if_pos x0]
          exact ⟨fun _ => rfl, fun q => absurd ⟨c4, by rw [k0]; decide, Or.inl ⟨rfl, k0, x0⟩⟩ q⟩
        · rw [if_neg x0]
          refine ⟨fun q => ?_, fun _ => rfl⟩
          rcases q.2.2 with q | q
          · exact absurd q.2.2 x0
          · exact absurd k0 q.2.1
      · rw [if_neg k0]
        refine ⟨fun q => ?_, fun _ => rfl⟩
        rcases q.2.2 with q | q
        · exact absurd q.2.1 k0
        · exact absurd q.1 (by omega)
    · rw [if_neg (nI_ne0 (by omega) (by omega))]
      simp only [e_within, Option.bind_some, e1]
      by_cases k1 : 1 ≤ k ∧ k ≤ 5
      · have k0 : ¬ k = 0 := fun q => by rw [q] at k1; exact absurd k1.1 (by decide)
        have k2 : 0 ≤ k ∧ k ≤ 5 := ⟨by have := i_le.mp k1.1; rw [i_le]; rw [i1] at this; rw [i0]; omega, k1.2⟩
        simp only [v_wiT k1, if_neg (show ¬ (1 : Int32) = 0 by decide)]
        by_cases x0 : 0 ≤ x ∧ x ≤ nI c - 1
        · obtain ⟨j, hj, rfl⟩ := i_idx (by omega) x0
          simp only [v_wiT x0, if_neg (show ¬ (1 : Int32) = 0 by decide), v_ibN (show j < 24 by omega) (by omega), v_ckT, nI_clamp (show j < 2 ^ 31 by omega)]
          by_cases k5 : k = 5
          · rw [if_pos k5]
            by_cases kd : M.1 2 j = 2
            · rw [if_pos kd]
              exact ⟨fun _ => rfl, fun q => absurd ⟨c4, k2, Or.inr ⟨by omega, k0, x0, fun _ => by rw [nI_clamp (by omega)]; exact kd, fun q => absurd k5 q⟩⟩ q⟩
            · rw [if_neg kd]
              refine ⟨fun q => ?_, fun _ => rfl⟩
              rcases q.2.2 with q | q
              · exact absurd q.1 c0
              · have := q.2.2.2.1 k5; rw [nI_clamp (by omega)] at this; exact absurd this kd
          · rw [if_neg k5]
            by_cases kd : 2 < M.1 2 j
            · rw [if_pos kd]
              refine ⟨fun q => ?_, fun _ => rfl⟩
              rcases q.2.2 with q | q
              · exact absurd q.1 c0
              · have := q.2.2.2.2 k5; rw [nI_clamp (by omega)] at this; exact absurd kd (Int32.not_lt.mpr this)
            · rw [if_neg kd]
              exact ⟨fun _ => rfl, fun q => absurd ⟨c4, k2, Or.inr ⟨by omega, k0, x0, fun q => absurd q k5, fun _ => by rw [nI_clamp (by omega)]; exact Int32.not_lt.mp kd⟩⟩ q⟩
        · simp only [v_wiF x0]
          refine ⟨fun q => ?_, fun _ => rfl⟩
          rcases q.2.2 with q | q
          · exact absurd q.1 c0
          · exact absurd q.2.2.1 x0
      · simp only [v_wiF k1]
        refine ⟨fun q => ?_, fun _ => rfl⟩
        rcases q.2.2 with r | r
        · exact absurd r.1 c0
        · refine absurd ⟨?_, q.2.1.2⟩ k1
          have h1 := i_le.mp q.2.1.1
          have h2 : ¬ k.toInt = 0 := fun e => r.2.1 (i_eq.mpr e)
          rw [i_le, i1]; rw [i0] at h1; omega
  · rw [e1, if_neg (show ¬ nI c < 24 from nI_nlt (b := 24) (by omega) (by omega))]
    exact ⟨fun q => absurd q.1 c4, fun _ => rfl⟩
theorem v_rd (M : v_M) (k i : Nat) (v : Int32) (k' j : Nat) : (v_wr M k i v).1 k' j = if k' = k ∧ j = i then v else M.1 k' j := by
  by_cases e : k' = k
  · subst e
    rw [v_wr_1]
    by_cases f : j = i
    · subst f; rw [if_pos ⟨rfl, rfl⟩]; exact if_pos rfl
    · rw [if_neg (fun q => f q.2)]; exact if_neg f
  · rw [v_wr_n e, if_neg (fun q => e q.1)]
theorem v_rdn {M : v_M} {k i : Nat} {v : Int32} {k' j : Nat} (h : k' ≠ k) : (v_wr M k i v).1 k' j = M.1 k' j := by rw [v_wr_n h]
theorem i_d10 (x : Int32) : ∃ q r : Int, (x / 10).toInt = q ∧ (x - x / 10 * 10).toInt = r ∧ x.toInt = 10 * q + r ∧ (0 ≤ x.toInt → 0 ≤ r ∧ r ≤ 9 ∧ 0 ≤ q) ∧ (x.toInt < 0 → q ≤ 0 ∧ -9 ≤ r ∧ r ≤ 0) := by
  have b1 := Int32.toInt_lt x
  have b2 := Int32.le_toInt x
  have t10 : (10 : Int32).toInt = 10 := rfl
  have e1 : (x / 10).toInt = x.toInt.tdiv 10 := by rw [Jvm.Kit.i32_div (by rw [t10]; omega), t10]
  have key : ∃ q r : Int, x.toInt.tdiv 10 = q ∧ x.toInt = 10 * q + r ∧ (0 ≤ x.toInt → 0 ≤ r ∧ r ≤ 9 ∧ 0 ≤ q) ∧ (x.toInt < 0 → q ≤ 0 ∧ -9 ≤ r ∧ r ≤ 0) := by
    by_cases hx : 0 ≤ x.toInt
    · rw [Int.tdiv_eq_ediv_of_nonneg hx]
      exact ⟨x.toInt / 10, x.toInt % 10, rfl, by omega, by omega, by omega⟩
    · have e : x.toInt = -(-x.toInt) := by omega
      have e' : x.toInt.tdiv 10 = -((-x.toInt) / 10) := by
        rw [← Int.tdiv_eq_ediv_of_nonneg (by omega), ← Int.neg_tdiv, Int.neg_neg]
      exact ⟨-((-x.toInt) / 10), x.toInt + 10 * ((-x.toInt) / 10), e', by omega, by omega, by omega⟩
  obtain ⟨q, r, h1, h2, h3, h4⟩ := key
  rw [h1] at e1
  have e2 : (x / 10 * 10).toInt = 10 * q := by rw [Jvm.Kit.i32_mul (by rw [e1, t10]; omega) (by rw [e1, t10]; omega), e1, t10]; omega
  refine ⟨q, r, e1, ?_, h2, h3, h4⟩
  rw [Jvm.Kit.i32_sub (by rw [e2]; omega) (by rw [e2]; omega), e2]; omega
theorem v_shr (x : Int32) : ((1 ≤ x / 10 ∧ x / 10 ≤ 9) ∧ (1 ≤ x - x / 10 * 10 ∧ x - x / 10 * 10 ≤ 9)) ↔ ((11 ≤ x ∧ x ≤ 99) ∧ ¬ x - x / 10 * 10 = 0) := by
  obtain ⟨q, r, e1, e2, e3, h1, h2⟩ := i_d10 x
  have t1 : (1 : Int32).toInt = 1 := rfl
  have t9 : (9 : Int32).toInt = 9 := rfl
  have t11 : (11 : Int32).toInt = 11 := rfl
  have t99 : (99 : Int32).toInt = 99 := rfl
  rw [i_le, i_le, i_le, i_le, i_le, i_le, i_eq, e1, e2, t1, t9, t11, t99, i0]
  omega
