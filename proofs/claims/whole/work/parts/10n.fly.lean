theorem e_115 (N : Nat) (k : Int32 → Int32 → Int32 → v_M → Option (Int32 × v_M)) (x1 x3 x4 t0 t1 : Int32) (M : v_M) : f_X12_fly_L115 N k x1 x3 x4 t0 t1 M = f_X12_fly_L143 N k x1 x3 x4 (if t1 + t0 ≤ 99 then t1 + t0 else 99) (24 * x1 + x4) M := by
  unfold f_X12_fly_L115
  rw [v_letE]
  by_cases h : t1 + t0 ≤ 99
  · rw [if_pos h, if_pos h]
  · rw [if_neg h, if_neg h]
theorem e_fly2 (N : Nat) {m np a b : Nat} {w c : Nat → Nat} (hm : m < 20) (hnp : np ≤ 24) (hab : a ≤ b) (hb : b ≤ 999999) : ∀ (f p : Nat) (M : v_M), p ≤ np → np - p < f → M.1 79 2 = nI np → M.1 92 m = nI b → (∀ i, i < np → M.1 87 i = nI (c i) ∧ c i ≤ 9999) → (∀ i, p ≤ i → i < np → M.1 88 (24 * m + i) = nI (w i) ∧ w i ≤ 99) → ∃ M' : v_M, f_X12_fly_L56 N f (nI m) (nI a) (nI p) M = some (nI b, M') ∧ v_fr [88] [] M M' ∧ (∀ j, M'.1 88 j = if 24 * m + p ≤ j ∧ j < 24 * m + np then nI (fw (w (j - 24 * m)) a b (c (j - 24 * m))) else M.1 88 j) := by
  intro f
  induction f with
  | zero => intro p M _ h; omega
  | succ f ih =>
    intro p M hp hf e e9 hc hw
    rw [f_X12_fly_L56]
    by_cases q : p = np
    · subst q
      rw [e, if_pos (nI_le (Nat.le_refl _) (by omega))]
      refine ⟨M, ?_, v_frR, fun j => by rw [if_neg (by omega)]⟩
      simp only [v_ibN hm (show 20 < 2 ^ 31 by omega), v_ckT, nI_clamp (show m < 2 ^ 31 by omega), e9]
    · have hp2 : p < np := by omega
      obtain ⟨c1, c2⟩ := hc p hp2
      obtain ⟨w1, w2⟩ := hw p (Nat.le_refl _) hp2
      have ib := v_ibN (show p < 24 by omega) (show 24 < 2 ^ 31 by omega)
      have cl := nI_clamp (show p < 2 ^ 31 by omega)
      have ib4 := v_ibN (show 24 * m + p < 480 by omega) (show 480 < 2 ^ 31 by omega)
      have cl4 := nI_clamp (show 24 * m + p < 2 ^ 31 by omega)
      have ibm := v_ibN hm (show 20 < 2 ^ 31 by omega)
      have clm := nI_clamp (show m < 2 ^ 31 by omega)
      rw [e, if_neg (nI_ge hp2 (by omega))]
      obtain ⟨M', g1, g2, g3⟩ := ih (p + 1) (v_wr M 88 (24 * m + p) (nI (fw (w p) a b (c p)))) (by omega) (by omega) (by rw [v_rdn (by decide), e]) (by rw [v_rdn (by decide), e9]) (fun i hi => by rw [v_rdn (by decide)]; exact hc i hi) (fun i h1 h2 => by rw [v_rd, if_neg (by omega)]; exact hw i (by omega) h2)
      refine ⟨M', ?_, v_frT (v_frw (by decide) v_frR) g2, fun j => ?_⟩
      · have key : ∀ v : Int32, v = nI (fw (w p) a b (c p)) → f_X12_fly_L143 N (f_X12_fly_L56 N f) (nI m) (nI a) (nI p) v (24 * nI m + nI p) M = some (nI b, M') := by
          intro v hv
          subst hv
          unfold f_X12_fly_L143
          simp only [nI_spot', ib4, cl4, v_ckT, v_letE, nI_1]
          exact g1
        simp only [e_115, nI_spot', ib, cl, ib4, cl4, ibm, clm, v_ckT, c1, w1, e9]
        have fm := fw_m w2 hab hb c2
        by_cases z : c p = 0
        · rw [if_pos (by rw [z]; rfl)]
          rw [if_pos (show nI (c p) = 0 by rw [z]; rfl)] at fm
          rw [← nI_spot']
          exact key _ fm
        · have z' : ¬ nI (c p) = 0 := nI_ne0 (by omega) (by omega)
          rw [if_neg z']
          rw [if_neg z'] at fm
          have nz : v_nz (nI (c p)) = true := by unfold v_nz; exact decide_eq_true z'
          simp only [nz, v_ckT]
          rw [← nI_spot']
          exact key _ fm
      · rw [g3, v_rd]
        by_cases y : j = 24 * m + p
        · subst y
          rw [if_neg (by omega), if_pos ⟨rfl, rfl⟩, if_pos (by omega), Nat.add_sub_cancel_left]
        · rw [if_neg (show ¬ (88 = 88 ∧ j = 24 * m + p) from fun k => y k.2)]
          by_cases u : 24 * m + (p + 1) ≤ j ∧ j < 24 * m + np
          · rw [if_pos u, if_pos (by omega)]
          · rw [if_neg u, if_neg (by omega)]
theorem v_btN {x : Int32} {n : Nat} (h : v_bt x 0 n) : x = nI x.toInt.toNat ∧ x.toInt.toNat ≤ n := by
  obtain ⟨h1, h2⟩ := h
  obtain ⟨j, hj, rfl⟩ := nI_of (x := x) (fun q => by rw [i_lt, i0] at q; omega)
  rw [nI_toInt hj] at h2 ⊢
  rw [Int.toNat_natCast]
  exact ⟨rfl, by omega⟩
theorem v_Nbt {n k : Nat} (h : n ≤ k) (hk : k < 2 ^ 31) : v_bt (nI n) 0 k := by
  unfold v_bt
  rw [nI_toInt (by omega)]
  omega
