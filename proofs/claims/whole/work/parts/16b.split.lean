/-! the class splits the tape -/
def TP (M : v_M) (c : Nat → Nat) (T : Nat) : Prop := T ≤ 400 ∧ (∀ i, i < T → c i ≤ 255) ∧ M.1 36 0 = nI T ∧ ∀ i, i < T → M.1 37 i = nI (c i)
def TR (M : v_M) (c : Nat → Nat) (T : Nat) : Prop := T ≤ 400 ∧ (∀ i, i < T → c i ≤ 255) ∧ M.1 79 32 = nI T ∧ ∀ i, i < T → M.1 107 i = (nI (c i)).toInt8.toInt32
theorem tp_of {M : v_M} {n : Nat} (h : J_tapec M n) : ∃ c : Nat → Nat, TP M c n ∧ TR M c n := by
  obtain ⟨hn, e1, e2, hb⟩ := h
  refine ⟨fun i => (M.1 37 i).toInt.toNat, ⟨hn, fun i hi => (v_btN (n := 255) (hb i hi).2).2, e1, fun i hi => (v_btN (n := 255) (hb i hi).2).1⟩, ⟨hn, fun i hi => (v_btN (n := 255) (hb i hi).2).2, e2, fun i hi => ?_⟩⟩
  rw [(hb i hi).1]
  exact congrArg (fun x : Int32 => x.toInt8.toInt32) (v_btN (n := 255) (hb i hi).2).1
theorem TP.fr {M M' : v_M} {c : Nat → Nat} {T : Nat} (h : TP M c T) (e0 : M'.1 36 0 = M.1 36 0) (e1 : M'.1 37 = M.1 37) : TP M' c T := ⟨h.1, h.2.1, e0.trans h.2.2.1, fun i hi => by rw [e1]; exact h.2.2.2 i hi⟩
theorem TR.fr {M M' : v_M} {c : Nat → Nat} {T : Nat} (h : TR M c T) (e0 : M'.1 79 32 = M.1 79 32) (e1 : M'.1 107 = M.1 107) : TR M' c T := ⟨h.1, h.2.1, e0.trans h.2.2.1, fun i hi => by rw [e1]; exact h.2.2.2 i hi⟩
def t_by (c : Nat → Nat) (T p : Nat) : Int32 := if p < T then nI (c p) else -1
theorem t_by_eq {c : Nat → Nat} {T p k : Nat} (hc : ∀ i, i < T → c i ≤ 255) (hk : k < 2 ^ 31) : t_by c T p = nI k ↔ p < T ∧ c p = k := by
  unfold t_by
  by_cases h : p < T
  · rw [if_pos h, nI_eqX (by have := hc p h; omega) hk]
    exact ⟨fun q => ⟨h, q⟩, fun q => q.2⟩
  · rw [if_neg h]
    exact ⟨fun q => absurd q.symm (nI_nm1 hk), fun q => absurd q.1 h⟩
theorem e_byte (N : Nat) {M : v_M} {c : Nat → Nat} {T p : Nat} (h : TP M c T) (hp : p < 2 ^ 31) : f_X9_byteAt N (nI p) M = some (t_by c T p, M) := by
  obtain ⟨h1, h2, h3, h4⟩ := h
  unfold f_X9_byteAt t_by
  rw [if_neg (nI_pos hp), h3]
  by_cases k : p < T
  · rw [if_neg (fun q => by rw [nI_leX (by omega) hp] at q; omega), if_neg (fun q => by rw [show (400 : Int32) = nI 400 from rfl, nI_leX (by omega) hp] at q; omega), v_ibN (show p < 400 by omega) (by omega), v_ckT, nI_clamp hp, h4 p k, if_pos k]
  · rw [if_pos (by rw [nI_leX (by omega) hp]; omega), if_neg k]
theorem e_cDigit (N : Nat) {c : Nat → Nat} {T p : Nat} (hc : ∀ i, i < T → c i ≤ 255) (M : v_M) : f_X9_isDigit N (t_by c T p) M = some (v01 (decide (p < T) && t_isD (c p)), M) := by
  unfold f_X9_isDigit t_by
  by_cases h : p < T
  · have := hc p h
    rw [if_pos h, show (48 : Int32) = nI 48 from rfl, show (57 : Int32) = nI 57 from rfl]
    simp only [nI_ltX (show c p < 2 ^ 31 by omega) (show 48 < 2 ^ 31 by omega), nI_ltX (show 57 < 2 ^ 31 by omega) (show c p < 2 ^ 31 by omega)]
    unfold t_isD
    by_cases a : c p < 48
    · rw [if_pos a, v_b0, v_ckT, decide_eq_false (show ¬ 48 ≤ c p by omega)]; simp [v01]
    · rw [if_neg a]
      by_cases b : 57 < c p
      · rw [if_pos b, v_b0, v_ckT, decide_eq_false (show ¬ c p ≤ 57 by omega)]; simp [v01]
      · rw [if_neg b, v_b1, v_ckT, decide_eq_true h, decide_eq_true (show 48 ≤ c p by omega), decide_eq_true (show c p ≤ 57 by omega)]; rfl
  · rw [if_neg h, if_pos (by decide), v_b0, v_ckT, decide_eq_false h]; rfl
theorem e_cLetter (N : Nat) {c : Nat → Nat} {T p : Nat} (hc : ∀ i, i < T → c i ≤ 255) (M : v_M) : f_X9_isLetter N (t_by c T p) M = some (v01 (decide (p < T) && t_isL (c p)), M) := by
  unfold f_X9_isLetter t_by
  by_cases h : p < T
  · have := hc p h
    rw [if_pos h, show (97 : Int32) = nI 97 from rfl, show (122 : Int32) = nI 122 from rfl]
    simp only [nI_ltX (show c p < 2 ^ 31 by omega) (show 97 < 2 ^ 31 by omega), nI_ltX (show 122 < 2 ^ 31 by omega) (show c p < 2 ^ 31 by omega)]
    unfold t_isL
    by_cases a : c p < 97
    · rw [if_pos a, v_b0, v_ckT, decide_eq_false (show ¬ 97 ≤ c p by omega)]; simp [v01]
    · rw [if_neg a]
      by_cases b : 122 < c p
      · rw [if_pos b, v_b0, v_ckT, decide_eq_false (show ¬ c p ≤ 122 by omega)]; simp [v01]
      · rw [if_neg b, v_b1, v_ckT, decide_eq_true h, decide_eq_true (show 97 ≤ c p by omega), decide_eq_true (show c p ≤ 122 by omega)]; rfl
  · rw [if_neg h, if_pos (by decide), v_b0, v_ckT, decide_eq_false h]; rfl
theorem t_by_32 {c : Nat → Nat} {T p : Nat} (hc : ∀ i, i < T → c i ≤ 255) : t_by c T p = 32 ↔ p < T ∧ c p = 32 := t_by_eq (k := 32) hc (by omega)
theorem nI_400 {j : Nat} (h : j < 400) : ¬ (400 : Int32) ≤ nI j := fun q => by
  rw [show (400 : Int32) = nI 400 from rfl, nI_leX (by omega) (by omega)] at q
  omega
theorem e_cBlanks (N : Nat) {c : Nat → Nat} {T : Nat} : ∀ (d p j f : Nat) (M : v_M), TP M c T → T - p = d → p ≤ T → j + d ≤ 400 → M.1 36 2 = nI p → ∃ M' : v_M, f_X9_skipBlanks_L2 N (f + d + 1) (nI j) M = some (0, M') ∧ v_fr [] [(36, 2)] M M' ∧ M'.1 36 2 = nI (t_sk c T p) := by
  intro d
  induction d with
  | zero =>
    intro p j f M h hd hp hj e
    refine ⟨M, ?_, v_frR, by rw [t_sk_e (by omega)]; exact e⟩
    rw [f_X9_skipBlanks_L2]
    by_cases k : (400 : Int32) ≤ nI j
    · rw [if_pos k]
    · rw [if_neg k, e, e_byte N h (by have := h.1; omega), Option.bind_some]
      dsimp only
      rw [if_neg (fun q => by have := (t_by_32 h.2.1).mp q; omega)]
  | succ d ih =>
    intro p j f M h hd hp hj e
    have hT := h.1
    rw [show f + (d + 1) + 1 = (f + d + 1) + 1 by omega, f_X9_skipBlanks_L2, if_neg (nI_400 (by omega)), e, e_byte N h (by omega), Option.bind_some]
    dsimp only
    by_cases k : c p = 32
    · rw [if_pos ((t_by_32 h.2.1).mpr ⟨by omega, k⟩), v_letE, e, nI_1, nI_1]
      have h' : TP (v_wr M 36 2 (nI (p + 1))) c T := h.fr (by rw [v_rd, if_neg (by decide)]) (by rw [v_wr_n (by decide)])
      obtain ⟨M', a, b, g⟩ := ih (p + 1) (j + 1) f (v_wr M 36 2 (nI (p + 1))) h' (by omega) (by omega) (by omega) (by rw [v_rd, if_pos ⟨rfl, rfl⟩])
      exact ⟨M', a, v_frT (v_fro (by decide) v_frR) b, by rw [g, t_sk_t (p := p) (by omega) k]⟩
    · rw [if_neg (fun q => k ((t_by_32 h.2.1).mp q).2)]
      exact ⟨M, rfl, v_frR, by rw [t_sk_n k]; exact e⟩
theorem nI_subX {a b : Nat} (h : b ≤ a) : nI a - nI b = nI (a - b) := by
  have e : nI (a - b) + nI b = nI a := by rw [nI_add]; exact congrArg nI (by omega)
  rw [← e]
  exact Int32.add_sub_cancel _ _
theorem e_cNum (N : Nat) {c : Nat → Nat} {T : Nat} : ∀ (d p j f v : Nat) (x : Int32) (M : v_M), TP M c T → T - p = d → p ≤ T → j + d ≤ 400 → M.1 36 2 = nI p → (x = if 5 < j then -1 else nI v) → ∃ M' : v_M, f_X9_splitNumber_L4 N (f + d + 1) x (nI j) M = some (if 5 < j + (t_eD c T p - p) then -1 else nI (t_val c (t_eD c T p - p) p v), M') ∧ v_fr [] [(36, 2)] M M' ∧ M'.1 36 2 = nI (t_eD c T p) := by
  intro d
  induction d with
  | zero =>
    intro p j f v x M h hd hp hj e hx
    refine ⟨M, ?_, v_frR, by rw [t_eD_e (by omega)]; exact e⟩
    have hr : (if 5 < j + (t_eD c T p - p) then (-1 : Int32) else nI (t_val c (t_eD c T p - p) p v)) = x := by rw [t_eD_e (by omega), Nat.sub_self, Nat.add_zero, t_val, hx]
    rw [hr, f_X9_splitNumber_L4]
    by_cases k : (400 : Int32) ≤ nI j
    · rw [if_pos k]
    · rw [if_neg k, e, e_byte N h (by have := h.1; omega), Option.bind_some]
      dsimp only
      rw [e_cDigit N h.2.1, Option.bind_some, decide_eq_false (show ¬ p < T by omega)]
      rfl
  | succ d ih =>
    intro p j f v x M h hd hp hj e hx
    have hT := h.1
    rw [show f + (d + 1) + 1 = (f + d + 1) + 1 by omega, f_X9_splitNumber_L4, if_neg (nI_400 (by omega)), e, e_byte N h (by omega), Option.bind_some]
    dsimp only
    rw [e_cDigit N h.2.1, Option.bind_some, decide_eq_true (show p < T by omega), Bool.true_and]
    dsimp only
    rw [v01_0, e, e_byte N h (by omega), Option.bind_some]
    cases k : t_isD (c p) with
    | true =>
      have h' : TP (v_wr M 36 2 (nI (p + 1))) c T := h.fr (by rw [v_rd, if_neg (by decide)]) (by rw [v_wr_n (by decide)])
      have hk := t_isD_i.mp k
      have he : t_eD c T p = t_eD c T (p + 1) := t_eD_t (by omega) k
      have hg := t_eD_ge c T (p + 1)
      have hs : t_eD c T p - p = (t_eD c T (p + 1) - (p + 1)) + 1 := by omega
      simp only [if_true, f_X9_splitNumber_L50, v_letE, e, nI_1]
      rw [hs, t_val, show j + (t_eD c T (p + 1) - (p + 1) + 1) = (j + 1) + (t_eD c T (p + 1) - (p + 1)) by omega]
      by_cases j5 : 5 ≤ j
      · rw [if_pos (by rw [show (5 : Int32) = nI 5 from rfl, nI_leX (by omega) (by omega)]; exact j5)]
        obtain ⟨M', a, b, g⟩ := ih (p + 1) (j + 1) f (10 * v + c p - 48) (-1) (v_wr M 36 2 (nI (p + 1))) h' (by omega) (by omega) (by omega) (by rw [v_rd, if_pos ⟨rfl, rfl⟩]) (by rw [if_pos (by omega)])
        exact ⟨M', a, v_frT (v_fro (by decide) v_frR) b, by rw [g, he]⟩
      · rw [if_neg (fun q => by rw [show (5 : Int32) = nI 5 from rfl, nI_leX (by omega) (by omega)] at q; omega)]
        have hv : x * 10 + t_by c T p - 48 = nI (10 * v + c p - 48) := by
          rw [hx, if_neg (by omega), t_by, if_pos (by omega), show (10 : Int32) = nI 10 from rfl, show (48 : Int32) = nI 48 from rfl, nI_mul, nI_add, nI_subX (by omega), Nat.mul_comm]
        rw [hv]
        obtain ⟨M', a, b, g⟩ := ih (p + 1) (j + 1) f (10 * v + c p - 48) _ (v_wr M 36 2 (nI (p + 1))) h' (by omega) (by omega) (by omega) (by rw [v_rd, if_pos ⟨rfl, rfl⟩]) (by rw [if_neg (by omega)])
        exact ⟨M', a, v_frT (v_fro (by decide) v_frR) b, by rw [g, he]⟩
    | false =>
      rw [t_eD_n k, Nat.sub_self, t_val, show (if 5 < j + 0 then (-1 : Int32) else nI v) = x from hx.symm]
      exact ⟨M, rfl, v_frR, e⟩
