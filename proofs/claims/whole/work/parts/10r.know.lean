theorem enc_m1 {v : Nat} (hv : v ≤ 10000) : enc v = -1 ↔ v = 10000 := by
  unfold enc
  by_cases h : v = 10000
  · rw [if_pos h]; exact ⟨fun _ => h, fun _ => rfl⟩
  · rw [if_neg h]; exact ⟨fun q => absurd q (nI_nm1 (by omega)), fun q => absurd q h⟩
theorem enc_n {v : Nat} (h : ¬ v = 10000) : enc v = nI v := if_neg h
theorem e_kin2 (N : Nat) (K : Int32 → Int32 → v_M → Option (Int32 × v_M)) (x1 : Int32) {k : Nat} {g : Nat → Nat} {M : v_M} (hk : k < 30) (hg : ∀ i, i < k → M.1 144 i = enc (g i) ∧ g i ≤ 10000) : ∀ (s o v f : Nat), o + s = k → s < f → v ≤ 10000 → f_X12_knows_L25 N K f x1 (nI k) (enc v) (nI o) M = K x1 (nI (k + 1)) (v_wr M 144 k (enc (kin (M.1 142 k) g s o v))) := by
  have ibk := v_ibN hk (show 30 < 2 ^ 31 by omega)
  have clk := nI_clamp (show k < 2 ^ 31 by omega)
  have fin : ∀ x3 : Int32, f_X12_knows_L95 N K x1 (nI k) x3 M = K x1 (nI (k + 1)) (v_wr M 144 k x3) := by
    intro x3
    unfold f_X12_knows_L95
    simp only [ibk, clk, v_ckT, v_letE, nI_1]
  intro s
  induction s with
  | zero =>
    intro o v f ho hf hv
    obtain ⟨f, rfl⟩ : ∃ q, f = q + 1 := ⟨f - 1, by omega⟩
    have ho : o = k := by omega
    subst ho
    rw [f_X12_knows_L25, if_pos (nI_le (Nat.le_refl _) (by omega)), fin, kin]
  | succ s ih =>
    intro o v f ho hf hv
    obtain ⟨f, rfl⟩ : ∃ q, f = q + 1 := ⟨f - 1, by omega⟩
    obtain ⟨g1, g2⟩ := hg o (by omega)
    have hgl : ∀ i, i < o + (s + 1) → g i ≤ 10000 := fun i hi => (hg i (by omega)).2
    rw [f_X12_knows_L25, if_neg (nI_ge (show o < k by omega) (by omega))]
    by_cases t : v = 10000
    · rw [if_pos ((enc_m1 hv).mpr t), fin]
      subst t
      rw [kin_top (M.1 142 k) (s + 1) o hgl]
    · rw [if_neg (fun q => t ((enc_m1 hv).mp q))]
      unfold f_X12_knows_L88 f_X12_knows_L89
      simp only [ibk, clk, v_ckT, v_ibN (show o < 30 by omega) (show 30 < 2 ^ 31 by omega), nI_clamp (show o < 2 ^ 31 by omega), g1, nI_1]
      by_cases b : ((M.1 142 k >>> (nI o &&& 31)) &&& 1) = 1
      · rw [if_pos b, kin, if_pos b]
        by_cases u : g o = 10000
        · rw [if_pos ((enc_m1 g2).mpr u), show (-1 : Int32) = enc (max v (g o)) from ((enc_m1 (by omega)).mpr (by omega)).symm]
          exact ih (o + 1) (max v (g o)) f (by omega) (by omega) (by omega)
        · rw [if_neg (fun q => u ((enc_m1 g2).mp q)), enc_n u, enc_n t]
          by_cases w : g o ≤ v
          · rw [if_pos (nI_le w (by omega)), show nI v = enc (max v (g o)) by rw [Nat.max_eq_left w, enc_n t]]
            exact ih (o + 1) (max v (g o)) f (by omega) (by omega) (by omega)
          · rw [if_neg (nI_ge (by omega) (by omega)), show nI (g o) = enc (max v (g o)) by rw [Nat.max_eq_right (by omega), enc_n u]]
            exact ih (o + 1) (max v (g o)) f (by omega) (by omega) (by omega)
      · rw [if_neg b, kin, if_neg b]
        exact ih (o + 1) v f (by omega) (by omega) hv
