/-! the pure part: small words -/
def v_wi (x a b : Int32) : Int32 := if a ≤ x ∧ x ≤ b then 1 else 0
theorem v_ckT {α : Type} (x : Option α) : v_ck true x = x := rfl
theorem v_b0 : v_b01 (0 : Int32) = true := rfl
theorem v_b1 : v_b01 (1 : Int32) = true := rfl
theorem v_nz10 : v_nz (10 : Int32) = true := by decide
theorem v_letE {α β : Type} (x : α) (f : α → β) : v_let x f = f x := rfl
theorem v_wi01 (x a b : Int32) : v_b01 (v_wi x a b) = true := by unfold v_wi; split <;> rfl
theorem v_wiT {x a b : Int32} (h : a ≤ x ∧ x ≤ b) : v_wi x a b = 1 := if_pos h
theorem v_wiF {x a b : Int32} (h : ¬ (a ≤ x ∧ x ≤ b)) : v_wi x a b = 0 := if_neg h
theorem v_wi0 {x a b : Int32} : v_wi x a b = 0 ↔ ¬ (a ≤ x ∧ x ≤ b) := by
  constructor
  · intro h hc; rw [v_wiT hc] at h; exact absurd h (by decide)
  · exact v_wiF
theorem i_le {x y : Int32} : x ≤ y ↔ x.toInt ≤ y.toInt := Int32.le_iff_toInt_le
theorem i_lt {x y : Int32} : x < y ↔ x.toInt < y.toInt := Int32.lt_iff_toInt_lt
theorem i_eq {x y : Int32} : x = y ↔ x.toInt = y.toInt := Int32.toInt_inj.symm
theorem e_within (N : Nat) (x a b : Int32) (M : v_M) : f_X11_within N x a b M = some (v_wi x a b, M) := by
  unfold f_X11_within
  by_cases h1 : x < a
  · rw [if_pos h1, v_wiF (fun h => by rw [i_lt] at h1; have := i_le.mp h.1; omega)]; rfl
  · rw [if_neg h1]
    by_cases h2 : b < x
    · rw [if_pos h2, v_wiF (fun h => by rw [i_lt] at h2; have := i_le.mp h.2; omega)]; rfl
    · rw [if_neg h2, v_wiT ⟨by rw [i_lt] at h1; rw [i_le]; omega, by rw [i_lt] at h2; rw [i_le]; omega⟩]; rfl
theorem e_in (N : Nat) {x a b : Int32} {la lb : Int64} (ha : a.toInt64 = la) (hb : b.toInt64 = lb) (M : v_M) : f_X12_in N x.toInt64 la lb M = some (v_wi x a b, M) := by
  subst ha hb
  unfold f_X12_in
  have e1 : (lg_cmp x.toInt64 a.toInt64 < 0) ↔ x < a := by rw [lg_cmp_lt, Int64.lt_iff_toInt_lt, Int32.toInt_toInt64, Int32.toInt_toInt64, i_lt]
  have e2 : (0 < lg_cmp x.toInt64 b.toInt64) ↔ b < x := by rw [lg_cmp_gt, Int64.lt_iff_toInt_lt, Int32.toInt_toInt64, Int32.toInt_toInt64, i_lt]
  simp only [e1, e2]
  exact (e_within N x a b M)
theorem e_in2 (N : Nat) (x a b : Int32) (M : v_M) : f_X12_in N x.toInt64 a.toInt64 b.toInt64 M = some (v_wi x a b, M) := e_in N rfl rfl M
theorem l_0 : (0 : Int64) = (0 : Int32).toInt64 := rfl
theorem l_1 : (1 : Int64) = (1 : Int32).toInt64 := rfl
theorem l_2 : (2 : Int64) = (2 : Int32).toInt64 := rfl
theorem l_4 : (4 : Int64) = (4 : Int32).toInt64 := rfl
theorem l_5 : (5 : Int64) = (5 : Int32).toInt64 := rfl
theorem l_9 : (9 : Int64) = (9 : Int32).toInt64 := rfl
theorem l_11 : (11 : Int64) = (11 : Int32).toInt64 := rfl
theorem l_15 : (15 : Int64) = (15 : Int32).toInt64 := rfl
theorem l_40 : (40 : Int64) = (40 : Int32).toInt64 := rfl
theorem l_99 : (99 : Int64) = (99 : Int32).toInt64 := rfl
theorem l_400 : (400 : Int64) = (400 : Int32).toInt64 := rfl
theorem l_999 : (999 : Int64) = (999 : Int32).toInt64 := rfl
theorem l_9999 : (9999 : Int64) = (9999 : Int32).toInt64 := rfl
theorem l_99999 : (99999 : Int64) = (99999 : Int32).toInt64 := rfl
theorem l_1000000 : (1000000 : Int64) = (1000000 : Int32).toInt64 := rfl
theorem l_3 : (3 : Int64) = (3 : Int32).toInt64 := rfl
theorem l_10 : (10 : Int64) = (10 : Int32).toInt64 := rfl
theorem l_60 : (60 : Int64) = (60 : Int32).toInt64 := rfl
theorem l_57 : (57 : Int64) = (57 : Int32).toInt64 := rfl
theorem l_48 : (48 : Int64) = (48 : Int32).toInt64 := rfl
theorem l_m99 : (-99 : Int64) = (-99 : Int32).toInt64 := rfl
/-- what a piece of the memory must keep to stay: cells named -/
theorem v_keepR {W : List Nat} {O : List (Nat × Nat)} {M M' : v_M} (h : v_fr W O M M') (k : Nat) (hk : (W.contains k || O.any (fun q => q.1 == k)) = false) : M'.1 k = M.1 k := by
  have hW : k ∉ W := fun hc => by
    have : W.contains k = true := List.contains_iff_mem.mpr hc
    rw [this] at hk; cases hk
  have hO : ∀ j, (k, j) ∉ O := fun j hc => by
    have : O.any (fun q => q.1 == k) = true := List.any_eq_true.mpr ⟨_, hc, beq_self_eq_true _⟩
    rw [this, Bool.or_true] at hk; cases hk
  exact funext (fun j => h.1 k j hW (hO j))
theorem v_keepC {W : List Nat} {O : List (Nat × Nat)} {M M' : v_M} (h : v_fr W O M M') (k j : Nat) (hk : (W.contains k || O.contains (k, j)) = false) : M'.1 k j = M.1 k j := by
  refine h.1 k j (fun hc => ?_) (fun hc => ?_)
  · have : W.contains k = true := List.contains_iff_mem.mpr hc
    rw [this] at hk; cases hk
  · have : O.contains (k, j) = true := List.contains_iff_mem.mpr hc
    rw [this, Bool.or_true] at hk; cases hk
/-! time -/
def JT (a b : Int32) : Prop := ∃ d : Nat, d ≤ 9999 ∧ a = nI d ∧ b = nI d
def J_time (M : v_M) : Prop := JT (M.1 0 0) (M.1 79 1)
theorem st_clock (N : Nat) (x : Int32) {M : v_M} (h : J_time M) : ∃ (r : Int32) (M1 M2 : v_M), f_X11_clock N x M = some (r, M1) ∧ f_X12_clock N x M1 = some (r, M2) ∧ J_time M2 ∧ v_fr [] [(0, 0), (79, 1)] M M2 := by
  obtain ⟨d, hd, e1, e2⟩ := h
  unfold f_X11_clock f_X12_clock
  simp only [e_within, l_9999, e_in2, Option.bind_some]
  by_cases c : M.1 0 0 ≤ x ∧ x ≤ 9999
  · have c' := v_wiT c
    refine ⟨1, v_wr M 0 0 x, v_wr (v_wr M 0 0 x) 79 1 x, ?_, ?_, ?_, v_fro (by decide) (v_fro (by decide) v_frR)⟩
    · rw [c']; rfl
    · rw [v_wr_n (by decide), e2, ← e1, c']; rfl
    · rw [e1] at c
      obtain ⟨j, hj, rfl⟩ := nI_of2 (x := x) (M := 9999) (n := 9999) rfl (fun hx => by have h1 := i_le.mp c.1; rw [nI_toInt (by omega)] at h1; rw [i_lt] at hx; have : (0 : Int32).toInt = 0 := rfl; omega) c.2
      exact ⟨j, hj, by rw [v_wr_n (by decide), v_wr_1]; exact if_pos rfl, by rw [v_wr_1]; exact if_pos rfl⟩
  · have c' := v_wiF c
    refine ⟨0, M, M, ?_, ?_, ⟨d, hd, e1, e2⟩, v_frR⟩
    · rw [c']; rfl
    · rw [e2, ← e1, c']; rfl
