/-! fly -/
theorem nI_div {a b : Nat} (ha : a < 2 ^ 31) (hb : b < 2 ^ 31) : nI a / nI b = nI (a / b) := by
  have hd := Nat.div_le_self a b
  refine i_eq.mpr ?_
  rw [Jvm.Kit.i32_div (by rw [nI_toInt ha, nI_toInt hb]; omega), nI_toInt ha, nI_toInt hb, nI_toInt (by omega), Int.tdiv_eq_ediv_of_nonneg (by omega), Int.natCast_ediv]
theorem nI_sub {a b : Nat} (h : b ≤ a) (ha : a < 2 ^ 31) : nI a - nI b = nI (a - b) := by
  refine i_eq.mpr ?_
  rw [Jvm.Kit.i32_sub (by rw [nI_toInt ha, nI_toInt (by omega)]; omega) (by rw [nI_toInt ha, nI_toInt (by omega)]; omega), nI_toInt ha, nI_toInt (by omega), nI_toInt (by omega)]
  omega
def fw (w a b c : Nat) : Nat := if c = 0 then w else min 99 (w + (b / c - a / c))
theorem fw_c {w a b c : Nat} (hw : w ≤ 99) (hab : a ≤ b) (hb : b ≤ 999999) (hc : 0 < c) (hc2 : c ≤ 9999) : v_mn 99 ((nI w + nI b / nI c) - nI a / nI c) = nI (fw w a b c) := by
  have h1 : a / c ≤ b / c := Nat.div_le_div_right hab
  have h2 := Nat.div_le_self b c
  rw [nI_div (by omega) (by omega), nI_div (by omega) (by omega), nI_add, nI_sub (by omega) (by omega)]
  unfold v_mn fw
  rw [if_neg (show ¬ c = 0 by omega)]
  generalize a / c = A at h1 ⊢
  generalize b / c = B at h1 h2 ⊢
  by_cases q : w + B - A < 99
  · rw [if_pos (show nI (w + B - A) < 99 from nI_lt (b := 99) q (by omega))]
    congr 1
    omega
  · rw [if_neg (show ¬ nI (w + B - A) < 99 from nI_nlt (b := 99) (by omega) (by omega))]
    rw [show (99 : Int32) = nI 99 from rfl]
    congr 1
    omega
theorem e_fly1 (N : Nat) {m np a b : Nat} {w c : Nat → Nat} (hm : m < 20) (hnp : np ≤ 24) (hab : a ≤ b) (hb : b ≤ 999999) : ∀ (f p : Nat) (M : v_M), p ≤ np → np - p < f → M.1 1 0 = nI np → (∀ i, i < np → M.1 10 i = nI (c i) ∧ c i ≤ 9999) → (∀ i, p ≤ i → i < np → M.1 12 (24 * m + i) = nI (w i) ∧ w i ≤ 99) → ∃ M' : v_M, f_X4_addFlights_L37 N 11 f (nI m) (nI a) (nI b) (nI p) M = some (0, M') ∧ v_fr [12, 16] [] M M' ∧ (∀ j, M'.1 12 j = if 24 * m + p ≤ j ∧ j < 24 * m + np then nI (fw (w (j - 24 * m)) a b (c (j - 24 * m))) else M.1 12 j) ∧ ∀ j, M'.1 16 j = if j = m then nI b else M.1 16 j := by
  intro f
  induction f with
  | zero => intro p M _ h; omega
  | succ f ih =>
    intro p M hp hf e hc hw
    rw [f_X4_addFlights_L37]
    by_cases q : p = np
    · subst q
      rw [e, if_pos (nI_le (Nat.le_refl _) (by omega))]
      refine ⟨v_wr M 16 m (nI b), ?_, v_frw (by decide) v_frR, fun j => ?_, fun j => ?_⟩
      · simp only [v_ibN hm (show 20 < 2 ^ 31 by omega), v_ckT, v_letE, nI_clamp (show m < 2 ^ 31 by omega)]
      · rw [if_neg (by omega), v_rdn (by decide)]
      · rw [v_rd]; simp
    · have hp2 : p < np := by omega
      obtain ⟨c1, c2⟩ := hc p hp2
      obtain ⟨w1, w2⟩ := hw p (Nat.le_refl _) hp2
      have ib := v_ibN (show p < 24 by omega) (show 24 < 2 ^ 31 by omega)
      have cl := nI_clamp (show p < 2 ^ 31 by omega)
      rw [e, if_neg (nI_ge hp2 (by omega))]
      simp only [ib, cl, v_ckT, v_letE, c1]
      unfold f_X4_addFlights_L99
      by_cases z : c p = 0
      · rw [if_pos (by rw [z]; decide), nI_1]
        obtain ⟨M', g1, g2, g3, g4⟩ := ih (p + 1) M (by omega) (by omega) e hc (fun i h1 h2 => hw i (by omega) h2)
        refine ⟨M', g1, g2, fun j => ?_, g4⟩
        rw [g3]
        by_cases y : j = 24 * m + p
        · subst y
          rw [if_neg (by omega), if_pos (by omega), Nat.add_sub_cancel_left, w1]
          unfold fw
          rw [if_pos z]
        · by_cases u : 24 * m + (p + 1) ≤ j ∧ j < 24 * m + np
          · rw [if_pos u, if_pos (by omega)]
          · rw [if_neg u, if_neg (by omega)]
      · rw [if_neg (nI_nle (by omega) (by omega))]
        have nz : v_nz (nI (c p)) = true := by unfold v_nz; exact decide_eq_true (nI_ne0 (by omega) (by omega))
        have ib4 := v_ibN (show 24 * m + p < 480 by omega) (show 480 < 2 ^ 31 by omega)
        have cl4 := nI_clamp (show 24 * m + p < 2 ^ 31 by omega)
        simp only [e_spot, Option.bind_some, nI_spot, ib4, cl4, nz, v_ckT, w1, fw_c w2 hab hb (show 0 < c p by omega) c2, nI_1]
        obtain ⟨M', g1, g2, g3, g4⟩ := ih (p + 1) (v_wr M 12 (24 * m + p) (nI (fw (w p) a b (c p)))) (by omega) (by omega) (by rw [v_rdn (by decide), e]) (fun i hi => by rw [v_rdn (by decide)]; exact hc i hi) (fun i h1 h2 => by rw [v_rd, if_neg (by omega)]; exact hw i (by omega) h2)
        refine ⟨M', g1, v_frT (v_frw (by decide) v_frR) g2, fun j => ?_, fun j => by rw [g4, v_rdn (by decide)]⟩
        rw [g3, v_rd]
        by_cases y : j = 24 * m + p
        · subst y
          rw [if_neg (by omega), if_pos ⟨rfl, rfl⟩, if_pos (by omega), Nat.add_sub_cancel_left]
        · rw [if_neg (show ¬ (12 = 12 ∧ j = 24 * m + p) from fun k => y k.2)]
          by_cases u : 24 * m + (p + 1) ≤ j ∧ j < 24 * m + np
          · rw [if_pos u, if_pos (by omega)]
          · rw [if_neg u, if_neg (by omega)]
theorem fw_le {w a b c : Nat} (hw : w ≤ 99) : fw w a b c ≤ 99 := by
  unfold fw
  split <;> omega
theorem fw_m {w a b c : Nat} (hw : w ≤ 99) (hab : a ≤ b) (hb : b ≤ 999999) (hc2 : c ≤ 9999) : (if nI w + (if nI c = 0 then 0 else nI b / nI c - nI a / nI c) ≤ 99 then nI w + (if nI c = 0 then 0 else nI b / nI c - nI a / nI c) else 99) = nI (fw w a b c) := by
  unfold fw
  by_cases z : c = 0
  · subst z
    rw [if_pos (show nI 0 = 0 from rfl), if_pos rfl, show nI w + 0 = nI w from nI_add w 0, if_pos (show nI w ≤ 99 from nI_le (b := 99) hw (by omega))]
  · have h1 : a / c ≤ b / c := Nat.div_le_div_right hab
    have h2 := Nat.div_le_self b c
    rw [if_neg (nI_ne0 (by omega) (by omega)), if_neg z, nI_div (by omega) (by omega), nI_div (by omega) (by omega), nI_sub h1 (by omega), nI_add]
    generalize a / c = A at h1 ⊢
    generalize b / c = B at h1 h2 ⊢
    by_cases q : w + (B - A) ≤ 99
    · rw [if_pos (show nI (w + (B - A)) ≤ 99 from nI_le (b := 99) q (by omega))]
      congr 1
      omega
    · rw [if_neg (show ¬ nI (w + (B - A)) ≤ 99 from nI_ge (a := 99) (by omega) (by omega))]
      rw [show (99 : Int32) = nI 99 from rfl]
      congr 1
      omega
