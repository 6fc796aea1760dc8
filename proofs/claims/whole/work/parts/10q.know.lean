/-! knowing: the inner loops -/
def kin (nd : Int32) (g : Nat → Nat) : Nat → Nat → Nat → Nat
  | 0, _, v => v
  | s + 1, o, v => kin nd g s (o + 1) (if ((nd >>> (nI o &&& 31)) &&& 1) = 1 then max v (g o) else v)
theorem kin_le (nd : Int32) {g : Nat → Nat} : ∀ (s o v : Nat), (∀ i, i < o + s → g i ≤ 10000) → v ≤ 10000 → kin nd g s o v ≤ 10000 := by
  intro s
  induction s with
  | zero => intro o v _ h; exact h
  | succ s ih =>
    intro o v hg hv
    unfold kin
    refine ih (o + 1) _ (fun i hi => hg i (by omega)) ?_
    have := hg o (by omega)
    split <;> omega
theorem kin_top (nd : Int32) {g : Nat → Nat} : ∀ (s o : Nat), (∀ i, i < o + s → g i ≤ 10000) → kin nd g s o 10000 = 10000 := by
  intro s
  induction s with
  | zero => intro o _; rfl
  | succ s ih =>
    intro o hg
    unfold kin
    have h1 := hg o (by omega)
    have h2 : (if ((nd >>> (nI o &&& 31)) &&& 1) = 1 then max 10000 (g o) else 10000) = 10000 := by split <;> omega
    rw [h2]
    exact ih (o + 1) (fun i hi => hg i (by omega))
theorem v_mxN {a b : Nat} (ha : a < 2 ^ 31) (hb : b < 2 ^ 31) : v_mx (nI a) (nI b) = nI (max a b) := by
  unfold v_mx
  by_cases h : a < b
  · rw [if_pos (nI_lt h hb), Nat.max_eq_right (by omega)]
  · rw [if_neg (nI_nlt (by omega) ha), Nat.max_eq_left (by omega)]
theorem e_kin1 (N : Nat) (K : Int32 → Int32 → v_M → Option (Int32 × v_M)) (x1 : Int32) {k : Nat} {g : Nat → Nat} {M : v_M} (hk : k < 30) (hg : ∀ i, i < k → M.1 74 i = nI (g i) ∧ g i ≤ 10000) : ∀ (s o v f : Nat), o + s = k → s < f → v ≤ 10000 → f_X6_gatherKnowing_L36 N K f x1 (nI k) (nI v) (nI o) M = K x1 (nI (k + 1)) (v_wr M 74 k (nI (kin (M.1 75 k) g s o v))) := by
  have ibk := v_ibN hk (show 30 < 2 ^ 31 by omega)
  have clk := nI_clamp (show k < 2 ^ 31 by omega)
  intro s
  induction s with
  | zero =>
    intro o v f ho hf hv
    obtain ⟨f, rfl⟩ : ∃ q, f = q + 1 := ⟨f - 1, by omega⟩
    have ho : o = k := by omega
    subst ho
    rw [f_X6_gatherKnowing_L36, if_pos (nI_le (Nat.le_refl _) (by omega))]
    simp only [ibk, clk, v_ckT, v_letE, nI_1, kin]
  | succ s ih =>
    intro o v f ho hf hv
    obtain ⟨f, rfl⟩ : ∃ q, f = q + 1 := ⟨f - 1, by omega⟩
    obtain ⟨g1, g2⟩ := hg o (by omega)
    rw [f_X6_gatherKnowing_L36, if_neg (nI_ge (show o < k by omega) (by omega))]
    unfold f_X6_gatherKnowing_L69
    simp only [ibk, clk, v_ckT, v_letE, v_ibN (show o < 30 by omega) (show 30 < 2 ^ 31 by omega), nI_clamp (show o < 2 ^ 31 by omega), g1, v_mxN (show v < 2 ^ 31 by omega) (show g o < 2 ^ 31 by omega), nI_1]
    by_cases b : ((M.1 75 k >>> (nI o &&& 31)) &&& 1) = 1
    · rw [if_pos b, ih (o + 1) (max v (g o)) f (by omega) (by omega) (by omega), kin, if_pos b]
    · rw [if_neg b, ih (o + 1) v f (by omega) (by omega) hv, kin, if_neg b]
def enc (v : Nat) : Int32 := if v = 10000 then -1 else nI v
