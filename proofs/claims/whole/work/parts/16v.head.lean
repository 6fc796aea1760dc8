/-! heads and things: the reference's loops -/
theorem e_clauseOf (N : Nat) {k : Nat} (hk : k < 4) (M : v_M) : f_X12_clauseOf N (nI k) M = some (1 + k, M) := by
  have : k = 0 ∨ k = 1 ∨ k = 2 ∨ k = 3 := by omega
  rcases this with rfl | rfl | rfl | rfl <;> rfl
theorem e_thingOf (N : Nat) {k : Nat} (hk : k < 4) (M : v_M) : f_X12_thingOf N (nI k) M = some (13 + k, M) := by
  have : k = 0 ∨ k = 1 ∨ k = 2 ∨ k = 3 := by omega
  rcases this with rfl | rfl | rfl | rfl <;> rfl
theorem t_ix_c : ∀ k, k < 4 → t_ix.getD (1 + k) 0 = k := by decide
theorem t_ix_t : ∀ k, k < 4 → t_ix.getD (13 + k) 0 = 4 + k := by decide
theorem e_cl11 {N : Nat} (hN : 1000 ≤ N) {B : v_M} {c : Nat → Nat} {T p : Nat} (h : PR B c T p) (x y : Int32) : ∀ (d k f : Nat), k + d = 4 → f_X12_clause_L11 N (f + d + 1) x y (nI k) B = if 260 + k ≤ t_tk c T p ∧ t_tk c T p ≤ 263 then f_X12_clause_L33 N x y (nI (t_tk c T p - 260)) B else f_X12_clause_L33 N x y 4 B := by
  intro d
  induction d with
  | zero =>
    intro k f hk
    obtain rfl : k = 4 := by omega
    rw [f_X12_clause_L11, if_pos (by decide), if_neg (by omega)]
    rfl
  | succ d ih =>
    intro k f hk
    rw [show f + (d + 1) + 1 = (f + d + 1) + 1 by omega, f_X12_clause_L11, if_neg (fun q => by have := (nI_leX (a := 4) (b := k) (by omega) (by omega)).mp q; omega), e_clauseOf N (by omega), Option.bind_some]
    dsimp only
    rw [e_stands hN h.1 (by omega) (by omega) h.2.1 h.2.2, t_ix_c k (by omega), Option.bind_some]
    dsimp only
    rw [v01_0, nI_1, ih (k + 1) f (by omega)]
    by_cases w : t_tk c T p = 260 + k
    · rw [decide_eq_true w, if_pos rfl, if_pos (by omega), show t_tk c T p - 260 = k by omega]
    · rw [decide_eq_false w, if_neg (by decide)]
      by_cases z : 260 + k ≤ t_tk c T p ∧ t_tk c T p ≤ 263
      · rw [if_pos z, if_pos (by omega)]
      · rw [if_neg z, if_neg (by omega)]
theorem e_cl207 {N : Nat} (hN : 1000 ≤ N) {B : v_M} {c : Nat → Nat} {T p : Nat} (h : PR B c T p) (x : Int32) : ∀ (d k f : Nat), k + d = 4 → f_X12_clause_L207 N (f + d + 1) x (nI k) B = if 264 + k ≤ t_tk c T p ∧ t_tk c T p ≤ 267 then f_X12_clause_L231 N x (nI (t_tk c T p - 264)) B else f_X12_clause_L231 N x 4 B := by
  intro d
  induction d with
  | zero =>
    intro k f hk
    obtain rfl : k = 4 := by omega
    rw [f_X12_clause_L207, if_pos (by decide), if_neg (by omega)]
    rfl
  | succ d ih =>
    intro k f hk
    rw [show f + (d + 1) + 1 = (f + d + 1) + 1 by omega, f_X12_clause_L207, if_neg (fun q => by have := (nI_leX (a := 4) (b := k) (by omega) (by omega)).mp q; omega), e_thingOf N (by omega), Option.bind_some]
    dsimp only
    rw [e_stands hN h.1 (by omega) (by omega) h.2.1 h.2.2, t_ix_t k (by omega), Option.bind_some]
    dsimp only
    rw [v01_0, nI_1, ih (k + 1) f (by omega)]
    by_cases w : t_tk c T p = 260 + (4 + k)
    · rw [decide_eq_true w, if_pos rfl, if_pos (by omega), show t_tk c T p - 264 = k by omega]
    · rw [decide_eq_false w, if_neg (by decide)]
      by_cases z : 264 + k ≤ t_tk c T p ∧ t_tk c T p ≤ 267
      · rw [if_pos z, if_pos (by omega)]
      · rw [if_neg z, if_neg (by omega)]
