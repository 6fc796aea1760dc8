/-! learn, looks -/
def LNs (wo : Nat → Nat) (sd : Nat → Nat) (dn : Nat → Int32) : Nat → Nat → Int32
  | 0, _ => -1
  | i + 1, w => if w = wo i ∧ dn i = 0 then v_mx (LNs wo sd dn i w) (nI (sd i)) else LNs wo sd dn i w
def fds (wo : Nat → Nat) (sd : Nat → Nat) (dn : Nat → Int32) : Nat → Nat → Nat
  | 0, _ => 10000
  | i + 1, w => if w = wo i ∧ ¬ dn i = 0 then min (fds wo sd dn i w) (sd i) else fds wo sd dn i w
theorem fds_le (wo : Nat → Nat) (sd : Nat → Nat) (dn : Nat → Int32) (w : Nat) : ∀ i : Nat, fds wo sd dn i w ≤ 10000 := by
  intro i
  induction i with
  | zero => exact Nat.le_refl _
  | succ i ih => rw [fds]; split <;> omega
theorem e_learn1 (N : Nat) {ns : Nat} {wo sd : Nat → Nat} {dn : Nat → Int32} (hn : ns ≤ 100) : ∀ (s i f : Nat) (M : v_M), i + s = ns → s < f → M.1 52 9 = nI ns → (∀ j, j < ns → M.1 61 j = nI (wo j) ∧ wo j < 200 ∧ M.1 62 j = nI (sd j) ∧ sd j ≤ 9999 ∧ M.1 63 j = dn j) → (∀ w, w < 200 → M.1 65 w = LNs wo sd dn i w ∧ M.1 66 w = nI (fds wo sd dn i w)) → ∃ M' : v_M, f_X10_learn_L20 N f (nI i) M = some (0, M') ∧ v_fr [65, 66] [] M M' ∧ ∀ w, w < 200 → M'.1 65 w = LNs wo sd dn ns w ∧ M'.1 66 w = nI (fds wo sd dn ns w) := by
  intro s
  induction s with
  | zero =>
    intro i f M hi hf e hr h
    obtain ⟨f, rfl⟩ : ∃ q, f = q + 1 := ⟨f - 1, by omega⟩
    have : i = ns := by omega
    subst this
    refine ⟨M, ?_, v_frR, h⟩
    rw [f_X10_learn_L20, e, if_pos (nI_le (by omega) (by omega))]
  | succ s ih =>
    intro i f M hi hf e hr h
    obtain ⟨f, rfl⟩ : ∃ q, f = q + 1 := ⟨f - 1, by omega⟩
    obtain ⟨r1, r2, r3, r4, r5⟩ := hr i (by omega)
    obtain ⟨u1, u2⟩ := h (wo i) r2
    have fl := fds_le wo sd dn (wo i) i
    rw [f_X10_learn_L20, e, if_neg (nI_ge (show i < ns by omega) (by omega)), if_neg (show ¬ (100 : Int32) ≤ nI i from nI_ge (b := 100) (by omega) (by omega))]
    simp only [v_ibN (show i < 100 by omega) (show 100 < 2 ^ 31 by omega), nI_clamp (show i < 2 ^ 31 by omega), v_ckT, v_letE, r1, r3, r5, e_within, Option.bind_some, f_X10_learn_L109, nI_1]
    rw [v_wiTe (show (0 : Int32) ≤ nI (wo i) ∧ nI (wo i) ≤ 199 from ⟨nI_le (a := 0) (by omega) (by omega), nI_le (b := 199) (by omega) (by omega)⟩)]
    simp only [v_ibN r2 (show 200 < 2 ^ 31 by omega), nI_clamp (show wo i < 2 ^ 31 by omega), v_ckT, u1, u2]
    have nx : ∀ (A : v_M), v_fr [65, 66] [] M A → (∀ w, w < 200 → A.1 65 w = LNs wo sd dn (i + 1) w ∧ A.1 66 w = nI (fds wo sd dn (i + 1) w)) → ∃ M' : v_M, f_X10_learn_L20 N f (nI (i + 1)) A = some (0, M') ∧ v_fr [65, 66] [] M M' ∧ ∀ w, w < 200 → M'.1 65 w = LNs wo sd dn ns w ∧ M'.1 66 w = nI (fds wo sd dn ns w) := fun A fr hA => by
      obtain ⟨M', g1, g2, g3⟩ := ih (i + 1) f A (by omega) (by omega) (by rw [v_keepC fr 52 9 (by decide), e]) (fun j hj => by rw [v_keepR fr 61 (by decide), v_keepR fr 62 (by decide), v_keepR fr 63 (by decide)]; exact hr j hj) hA
      exact ⟨M', g1, v_frT fr g2, g3⟩
    by_cases c : dn i = 0
    · rw [if_pos c]
      refine nx _ (v_frw (by decide) v_frR) (fun w hw => ?_)
      obtain ⟨q1, q2⟩ := h w hw
      rw [LNs, fds, v_rd, v_rdn (by decide), if_neg (show ¬ (w = wo i ∧ ¬ dn i = 0) from fun z => z.2 c)]
      refine ⟨?_, q2⟩
      by_cases y : w = wo i
      · rw [if_pos ⟨rfl, y⟩, if_pos ⟨y, c⟩, y]
      · rw [if_neg (fun z => y z.2), if_neg (fun z => y z.1)]; exact q1
    · rw [if_neg c, v_mnN (by omega) (by omega)]
      refine nx _ (v_frw (by decide) v_frR) (fun w hw => ?_)
      obtain ⟨q1, q2⟩ := h w hw
      rw [LNs, fds, v_rdn (by decide), v_rd, if_neg (show ¬ (w = wo i ∧ dn i = 0) from fun z => c z.2)]
      refine ⟨q1, ?_⟩
      by_cases y : w = wo i
      · rw [if_pos ⟨rfl, y⟩, if_pos ⟨y, c⟩, y]
      · rw [if_neg (fun z => y z.2), if_neg (fun z => y z.1)]; exact q2
theorem e_learn {N : Nat} (hN : 300 ≤ N) {ns : Nat} {wo sd : Nat → Nat} {dn : Nat → Int32} (hn : ns ≤ 100) {M : v_M} (e : M.1 52 9 = nI ns) (hr : ∀ j, j < ns → M.1 61 j = nI (wo j) ∧ wo j < 200 ∧ M.1 62 j = nI (sd j) ∧ sd j ≤ 9999 ∧ M.1 63 j = dn j) : ∃ M' : v_M, f_X10_learn N M = some (0, M') ∧ v_fr [65, 66] [] M M' ∧ ∀ w, w < 200 → M'.1 65 w = LNs wo sd dn ns w ∧ M'.1 66 w = nI (fds wo sd dn ns w) := by
  obtain ⟨A, a1, a2, a3⟩ := e_fillAll (N := N) 65 (-1) (show 200 < 2 ^ 31 by omega) (by omega) M
  obtain ⟨B, b1, b2, b3⟩ := e_fillAll (N := N) 66 10000 (show 200 < 2 ^ 31 by omega) (by omega) A
  have fB : v_fr [65, 66] [] M B := v_frt (by decide) (by decide) (v_frt (by decide) (by decide) v_frR a2) b2
  obtain ⟨M', g1, g2, g3⟩ := e_learn1 N (wo := wo) (sd := sd) (dn := dn) hn ns 0 N B (by omega) (by omega) (by rw [v_keepC fB 52 9 (by decide), e]) (fun j hj => by rw [v_keepR fB 61 (by decide), v_keepR fB 62 (by decide), v_keepR fB 63 (by decide)]; exact hr j hj) (fun w hw => ⟨by rw [v_keepR b2 65 (by decide), a3, if_pos hw]; rfl, by rw [b3, if_pos hw]; rfl⟩)
  refine ⟨M', ?_, v_frT fB g2, g3⟩
  unfold f_X10_learn
  rw [a1, Option.bind_some, b1, Option.bind_some]
  exact g1
theorem r_look1 (N : Nat) {ns : Nat} {mm tt sd : Nat → Nat} {dn : Nat → Int32} (hn : ns ≤ 100) : ∀ (s i f : Nat) (M : v_M), i + s = ns → s < f → M.1 79 61 = nI ns → (∀ j, j < ns → M.1 128 j = nI (mm j) ∧ M.1 129 j = nI (tt j) ∧ 10 * mm j + tt j < 200 ∧ M.1 130 j = nI (sd j) ∧ sd j ≤ 9999 ∧ M.1 131 j = dn j) → (∀ w, w < 200 → M.1 135 w = LNs (fun j => 10 * mm j + tt j) sd dn i w ∧ M.1 134 w = enc (fds (fun j => 10 * mm j + tt j) sd dn i w)) → ∃ M' : v_M, f_X12_looks_L31 N f (nI i) M = f_X12_looks_L145 N N 0 M' ∧ v_fr [134, 135] [] M M' ∧ ∀ w, w < 200 → M'.1 135 w = LNs (fun j => 10 * mm j + tt j) sd dn ns w ∧ M'.1 134 w = enc (fds (fun j => 10 * mm j + tt j) sd dn ns w) := by
  intro s
  induction s with
  | zero =>
    intro i f M hi hf e hr h
    obtain ⟨f, rfl⟩ : ∃ q, f = q + 1 := ⟨f - 1, by omega⟩
    have : i = ns := by omega
    subst this
    refine ⟨M, ?_, v_frR, h⟩
    rw [f_X12_looks_L31, e, if_pos (nI_le (by omega) (by omega))]
  | succ s ih =>
    intro i f M hi hf e hr h
    obtain ⟨f, rfl⟩ : ∃ q, f = q + 1 := ⟨f - 1, by omega⟩
    obtain ⟨r1, r2, r3, r4, r5, r6⟩ := hr i (by omega)
    obtain ⟨u1, u2⟩ := h (10 * mm i + tt i) r3
    have fl := fds_le (fun j => 10 * mm j + tt j) sd dn (10 * mm i + tt i) i
    have ew : 10 * nI (mm i) + nI (tt i) = nI (10 * mm i + tt i) := by rw [show (10 : Int32) = nI 10 from rfl, nI_mul, nI_add]
    rw [f_X12_looks_L31, e, if_neg (nI_ge (show i < ns by omega) (by omega))]
    simp only [v_ibN (show i < 100 by omega) (show 100 < 2 ^ 31 by omega), nI_clamp (show i < 2 ^ 31 by omega), v_ckT, v_letE, r1, r2, r4, r6, ew, v_ibN r3 (show 200 < 2 ^ 31 by omega), nI_clamp (show 10 * mm i + tt i < 2 ^ 31 by omega), u1, u2, f_X12_looks_L136, f_X12_looks_L137, f_X12_looks_L97, f_X12_looks_L107, nI_1]
    have nx : ∀ (A : v_M), v_fr [134, 135] [] M A → (∀ w, w < 200 → A.1 135 w = LNs (fun j => 10 * mm j + tt j) sd dn (i + 1) w ∧ A.1 134 w = enc (fds (fun j => 10 * mm j + tt j) sd dn (i + 1) w)) → ∃ M' : v_M, f_X12_looks_L31 N f (nI (i + 1)) A = f_X12_looks_L145 N N 0 M' ∧ v_fr [134, 135] [] M M' ∧ ∀ w, w < 200 → M'.1 135 w = LNs (fun j => 10 * mm j + tt j) sd dn ns w ∧ M'.1 134 w = enc (fds (fun j => 10 * mm j + tt j) sd dn ns w) := fun A fr hA => by
      obtain ⟨M', g1, g2, g3⟩ := ih (i + 1) f A (by omega) (by omega) (by rw [v_keepC fr 79 61 (by decide), e]) (fun j hj => by rw [v_keepR fr 128 (by decide), v_keepR fr 129 (by decide), v_keepR fr 130 (by decide), v_keepR fr 131 (by decide)]; exact hr j hj) hA
      exact ⟨M', g1, v_frT fr g2, g3⟩
    by_cases c : dn i = 0
    · rw [if_pos c]
      have key : ∃ M' : v_M, f_X12_looks_L31 N f (nI (i + 1)) (v_wr M 135 (10 * mm i + tt i) (v_mx (LNs (fun j => 10 * mm j + tt j) sd dn i (10 * mm i + tt i)) (nI (sd i)))) = f_X12_looks_L145 N N 0 M' ∧ v_fr [134, 135] [] M M' ∧ ∀ w, w < 200 → M'.1 135 w = LNs (fun j => 10 * mm j + tt j) sd dn ns w ∧ M'.1 134 w = enc (fds (fun j => 10 * mm j + tt j) sd dn ns w) := by
        refine nx _ (v_frw (by decide) v_frR) (fun w hw => ?_)
        obtain ⟨q1, q2⟩ := h w hw
        rw [LNs, fds, v_rd, v_rdn (by decide), if_neg (show ¬ (w = 10 * mm i + tt i ∧ ¬ dn i = 0) from fun z => z.2 c)]
        refine ⟨?_, q2⟩
        by_cases y : w = 10 * mm i + tt i
        · rw [if_pos ⟨rfl, y⟩, if_pos ⟨y, c⟩, y]
        · rw [if_neg (fun z => y z.2), if_neg (fun z => y z.1)]; exact q1
      unfold v_mx at key
      by_cases z : nI (sd i) ≤ LNs (fun j => 10 * mm j + tt j) sd dn i (10 * mm i + tt i)
      · rw [if_pos z]
        rw [if_neg (fun q => by rw [i_le] at z; rw [i_lt] at q; omega)] at key
        exact key
      · rw [if_neg z]
        rw [if_pos (by rw [i_le] at z; rw [i_lt]; omega)] at key
        exact key
    · rw [if_neg c]
      have key : ∃ M' : v_M, f_X12_looks_L31 N f (nI (i + 1)) (v_wr M 134 (10 * mm i + tt i) (nI (min (fds (fun j => 10 * mm j + tt j) sd dn i (10 * mm i + tt i)) (sd i)))) = f_X12_looks_L145 N N 0 M' ∧ v_fr [134, 135] [] M M' ∧ ∀ w, w < 200 → M'.1 135 w = LNs (fun j => 10 * mm j + tt j) sd dn ns w ∧ M'.1 134 w = enc (fds (fun j => 10 * mm j + tt j) sd dn ns w) := by
        refine nx _ (v_frw (by decide) v_frR) (fun w hw => ?_)
        obtain ⟨q1, q2⟩ := h w hw
        rw [LNs, fds, v_rdn (by decide), v_rd, if_neg (show ¬ (w = 10 * mm i + tt i ∧ dn i = 0) from fun z => c z.2)]
        refine ⟨q1, ?_⟩
        by_cases y : w = 10 * mm i + tt i
        · rw [if_pos ⟨rfl, y⟩, if_pos ⟨y, c⟩, y, enc_n (by omega)]
        · rw [if_neg (fun z => y z.2), if_neg (fun z => y z.1)]; exact q2
      generalize fds (fun j => 10 * mm j + tt j) sd dn i (10 * mm i + tt i) = F at key fl
      by_cases z : F = 10000
      · rw [if_pos ((enc_m1 fl).mpr z)]
        rw [Nat.min_eq_right (by omega)] at key
        exact key
      · rw [if_neg (fun q => z ((enc_m1 fl).mp q)), enc_n z]
        by_cases y : F ≤ sd i
        · rw [if_pos (nI_le y (by omega))]
          rw [Nat.min_eq_left y] at key
          exact key
        · rw [if_neg (nI_ge (by omega) (by omega))]
          rw [Nat.min_eq_right (by omega)] at key
          exact key
theorem r_look0 (N : Nat) : ∀ (s k f : Nat) (M : v_M), k + s = 200 → s < f → (∀ w, w < k → M.1 134 w = -1 ∧ M.1 135 w = -1) → ∃ M' : v_M, f_X12_looks_L2 N f (nI k) M = f_X12_looks_L31 N N 0 M' ∧ v_fr [134, 135] [] M M' ∧ ∀ w, w < 200 → M'.1 134 w = -1 ∧ M'.1 135 w = -1 := by
  intro s
  induction s with
  | zero =>
    intro k f M hk hf h
    obtain ⟨f, rfl⟩ : ∃ q, f = q + 1 := ⟨f - 1, by omega⟩
    refine ⟨M, ?_, v_frR, fun w hw => h w (by omega)⟩
    rw [f_X12_looks_L2, if_pos (show (200 : Int32) ≤ nI k from nI_le (a := 200) (by omega) (by omega))]
  | succ s ih =>
    intro k f M hk hf h
    obtain ⟨f, rfl⟩ : ∃ q, f = q + 1 := ⟨f - 1, by omega⟩
    have fr : v_fr [134, 135] [] M (v_wr (v_wr M 134 k (-1)) 135 k (-1)) := v_frw (by decide) (v_frw (by decide) v_frR)
    obtain ⟨M', g1, g2, g3⟩ := ih (k + 1) f (v_wr (v_wr M 134 k (-1)) 135 k (-1)) (by omega) (by omega) (fun w hw => by
      simp only [v_rd, Nat.reduceEqDiff, false_and, if_false, true_and]
      by_cases y : w = k
      · rw [if_pos y, if_pos y]; exact ⟨rfl, rfl⟩
      · rw [if_neg y, if_neg y]; exact h w (by omega))
    refine ⟨M', ?_, v_frT fr g2, g3⟩
    rw [← g1, f_X12_looks_L2, if_neg (show ¬ (200 : Int32) ≤ nI k from nI_ge (b := 200) (by omega) (by omega)), v_ibN (show k < 200 by omega) (show 200 < 2 ^ 31 by omega), v_ckT, v_letE, v_ckT, v_letE, nI_clamp (show k < 2 ^ 31 by omega), nI_1]
