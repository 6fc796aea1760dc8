/-! the reference's scan -/
theorem b8_255 : ∀ k, k < 256 → (nI k).toInt8.toInt32 &&& 255 = nI k := by decide +kernel
theorem b8_let : ∀ k, k < 256 → (((nI k).toInt8.toInt32 < 97 ∨ 122 < (nI k).toInt8.toInt32) ↔ t_isL k = false) := by decide +kernel
theorem b8_lo : ∀ k, k < 128 → (nI k).toInt8.toInt32 = nI k := by decide +kernel
theorem b8_hi : ∀ k, k < 128 → (nI (k + 128)).toInt8.toInt32 < 0 := by decide +kernel
theorem b8_eq {k j : Nat} (hk : k ≤ 255) (hj : j < 128) : (nI k).toInt8.toInt32 = nI j ↔ k = j := by
  by_cases h : k < 128
  · rw [b8_lo k h, nI_eqX (by omega) (by omega)]
  · obtain ⟨i, rfl⟩ : ∃ i, k = i + 128 := ⟨k - 128, by omega⟩
    exact ⟨fun q => absurd (q ▸ b8_hi i (by omega)) (nI_pos (by omega)), fun q => by omega⟩
theorem e_sign (N : Nat) {M : v_M} {c : Nat → Nat} {T p : Nat} (h : TR M c T) (hp : p < 2 ^ 31) (e : M.1 79 33 = nI p) : f_X12_sign N M = some (t_by c T p, M) := by
  obtain ⟨h1, h2, h3, h4⟩ := h
  unfold f_X12_sign t_by
  rw [h3, e]
  by_cases k : p < T
  · rw [if_neg (fun q => by rw [nI_leX (by omega) hp] at q; omega), v_ibN (show p < 400 by omega) (by omega), v_ckT, nI_clamp hp, h4 p k, if_pos k, b8_255 _ (by have := h2 p k; omega)]
  · rw [if_pos (by rw [nI_leX (by omega) hp]; omega), if_neg k]
theorem e_rBlanks_L (N : Nat) {c : Nat → Nat} {T : Nat} : ∀ (d p f : Nat) (M : v_M), TR M c T → T - p = d → p < 2 ^ 31 → M.1 79 33 = nI p → ∃ M' : v_M, f_X12_blanks_L0 N (f + d + 1) M = some (0, M') ∧ v_fr [] [(79, 33)] M M' ∧ M'.1 79 33 = nI (t_sk c T p) := by
  intro d
  induction d with
  | zero =>
    intro p f M h hd hp e
    refine ⟨M, ?_, v_frR, by rw [t_sk_e (by omega)]; exact e⟩
    rw [f_X12_blanks_L0, e_sign N h hp e, Option.bind_some]
    dsimp only
    rw [if_neg (fun q => by have := (t_by_32 h.2.1).mp q; omega)]
  | succ d ih =>
    intro p f M h hd hp e
    have hT := h.1
    rw [show f + (d + 1) + 1 = (f + d + 1) + 1 by omega, f_X12_blanks_L0, e_sign N h hp e, Option.bind_some]
    dsimp only
    by_cases k : c p = 32
    · rw [if_pos ((t_by_32 h.2.1).mpr ⟨by omega, k⟩), v_letE, e, nI_1]
      have h' : TR (v_wr M 79 33 (nI (p + 1))) c T := h.fr (by rw [v_rd, if_neg (by decide)]) (by rw [v_wr_n (by decide)])
      obtain ⟨M', a, b, g⟩ := ih (p + 1) f (v_wr M 79 33 (nI (p + 1))) h' (by omega) (by omega) v_rdS
      exact ⟨M', a, v_frT (v_fro (by decide) v_frR) b, by rw [g, t_sk_t (p := p) (by omega) k]⟩
    · rw [if_neg (fun q => k ((t_by_32 h.2.1).mp q).2)]
      exact ⟨M, rfl, v_frR, by rw [t_sk_n k]; exact e⟩
theorem e_rBlanks {N : Nat} (hN : 1000 ≤ N) {c : Nat → Nat} {T p : Nat} {M : v_M} (h : TR M c T) (hp : p < 2 ^ 31) (e : M.1 79 33 = nI p) : ∃ M' : v_M, f_X12_blanks N M = some (0, M') ∧ v_fr [] [(79, 33)] M M' ∧ M'.1 79 33 = nI (t_sk c T p) := by
  have hT := h.1
  have := e_rBlanks_L N (T - p) p (N - (T - p) - 1) M h rfl hp e
  rw [show N - (T - p) - 1 + (T - p) + 1 = N by omega] at this
  exact this
theorem e_rDigit (N : Nat) {M : v_M} {c : Nat → Nat} {T p : Nat} (h : TR M c T) (hp : p < 2 ^ 31) (e : M.1 79 33 = nI p) : f_X12_isDigit N M = some (v01 (decide (p < T) && t_isD (c p)), M) := by
  unfold f_X12_isDigit
  rw [e_sign N h hp e, Option.bind_some]
  dsimp only
  rw [e_in N (a := 48) (b := 57) (la := 48) (lb := 57) rfl rfl, Option.bind_some]
  dsimp only
  have hv : v_wi (t_by c T p) 48 57 = v01 (decide (p < T) && t_isD (c p)) := by
    unfold v_wi t_by
    by_cases k : p < T
    · have := h.2.1 p k
      rw [if_pos k, decide_eq_true k, Bool.true_and]
      have e1 : ((48 : Int32) ≤ nI (c p)) ↔ 48 ≤ c p := nI_leX (a := 48) (by omega) (by omega)
      have e2 : (nI (c p) ≤ (57 : Int32)) ↔ c p ≤ 57 := nI_leX (b := 57) (by omega) (by omega)
      simp only [e1, e2]
      unfold v01
      by_cases d : t_isD (c p) = true
      · rw [if_pos (t_isD_i.mp d), if_pos d]
      · rw [if_neg (fun q => d (t_isD_i.mpr q)), if_neg d]
    · rw [if_neg k, if_neg (by decide), decide_eq_false k]; rfl
  rw [hv, v01_b, v_ckT]
theorem e_st63 (N : Nat) {M : v_M} {c : Nat → Nat} {T p s : Nat} (h : TR M c T) (hs : s < 21) (e : M.1 79 33 = nI p) (hp : p + (t_str s).length ≤ T) : ∀ (d j f : Nat), j + d = (t_str s).length → f_X12_stands_L63 N (f + d + 2) s 1 (nI j) M = some (v01 (decide (∀ k, k < d → c (p + (j + k)) = (t_str s).getD (j + k) 0)), M) := by
  have hT := h.1
  intro d
  induction d with
  | zero =>
    intro j f hj
    rw [f_X12_stands_L63, e_len N hs, Option.bind_some]
    dsimp only
    rw [if_pos (by rw [nI_leX (by omega) (by omega)]; omega), v_b1, v_ckT, decide_eq_true (fun k hk => absurd hk (Nat.not_lt_zero k))]
    rfl
  | succ d ih =>
    intro j f hj
    rw [show f + (d + 1) + 2 = (f + d + 2) + 1 by omega, f_X12_stands_L63, e_len N hs, Option.bind_some]
    dsimp only
    rw [if_neg (fun q => by rw [nI_leX (by omega) (by omega)] at q; omega), if_neg (by decide), e, nI_add, v_ibN (show p + j < 400 by omega) (by omega), v_ckT, e_chr N hs (by omega), Option.bind_some, nI_clamp (by omega), h.2.2.2 (p + j) (by omega)]
    dsimp only
    have hc := h.2.1 (p + j) (by omega)
    have hg := (t_str_b s hs).2.2.2 j (by omega)
    by_cases k : c (p + j) = (t_str s).getD j 0
    · rw [if_pos ((b8_eq hc hg).mpr k)]
      unfold f_X12_stands_L102
      rw [nI_1, ih (j + 1) f (by omega)]
      congr 2
      apply congrArg
      rw [decide_eq_decide]
      constructor
      · intro g i hi
        by_cases i0 : i = 0
        · subst i0; exact k
        · have := g (i - 1) (by omega)
          rw [show j + 1 + (i - 1) = j + i by omega] at this
          exact this
      · intro g i hi
        have := g (i + 1) (by omega)
        rw [show j + (i + 1) = j + 1 + i by omega] at this
        exact this
    · rw [if_neg (fun q => k ((b8_eq hc hg).mp q))]
      unfold f_X12_stands_L102
      rw [show f + d + 2 = (f + d + 1) + 1 by omega, f_X12_stands_L63, e_len N hs, Option.bind_some]
      dsimp only
      rw [decide_eq_false (fun g => k (g 0 (by omega)))]
      by_cases w : nI (t_str s).length ≤ nI j + 1
      · rw [if_pos w]; rfl
      · rw [if_neg w, if_pos rfl]; rfl
theorem e_st41 {N : Nat} (hN : 1000 ≤ N) {M : v_M} {c : Nat → Nat} {T p s x : Nat} (h : TR M c T) (hs : s < 21) (h0 : 0 < (t_str s).length) (e : M.1 79 33 = nI p) (hp : p ≤ x) (hx : x ≤ T) : f_X12_stands_L41 N s (nI x) M = some (v01 (t_wm c p x (t_str s)), M) := by
  have hT := h.1
  have hl := (t_str_b s hs).2.2.1
  unfold f_X12_stands_L41
  rw [e_len N hs, Option.bind_some, e, nI_subX hp]
  dsimp only
  unfold f_X12_stands_L59 t_wm
  by_cases k : x = p + (t_str s).length
  · rw [if_pos (by exact congrArg nI (by omega)), decide_eq_true k, Bool.true_and]
    have := e_st63 N h hs e (by omega) (t_str s).length 0 (N - (t_str s).length - 2) (by omega)
    rw [show N - (t_str s).length - 2 + (t_str s).length + 2 = N by omega] at this
    simp only [Nat.zero_add] at this
    exact this
  · rw [if_neg (fun q => k (by have := (nI_eqX (by omega) (by omega)).mp q; omega)), decide_eq_false k, Bool.false_and]
    obtain ⟨n, rfl⟩ : ∃ n, N = n + 1 := ⟨N - 1, by omega⟩
    rw [f_X12_stands_L63, e_len _ hs, Option.bind_some]
    dsimp only
    rw [if_neg (fun q => by rw [show (0 : Int32) = nI 0 from rfl, nI_leX (by omega) (by omega)] at q; omega), if_pos rfl]
    rfl
theorem e_st5 {N : Nat} (hN : 1000 ≤ N) {M : v_M} {c : Nat → Nat} {T p s : Nat} (h : TR M c T) (hs : s < 21) (h0 : 0 < (t_str s).length) (e : M.1 79 33 = nI p) : ∀ (d x f : Nat), T - x = d → p ≤ x → x ≤ T → f_X12_stands_L5 N (f + d + 1) s (nI x) M = some (v01 (t_wm c p (t_eL c T x) (t_str s)), M) := by
  have hT := h.1
  intro d
  induction d with
  | zero =>
    intro x f hd hp hx
    rw [f_X12_stands_L5, h.2.2.1, if_pos (by rw [nI_leX (by omega) (by omega)]; omega), e_st41 hN h hs h0 e hp hx, t_eL_e (by omega)]
  | succ d ih =>
    intro x f hd hp hx
    have hc := h.2.1 x (by omega)
    have hb := b8_let (c x) (by omega)
    rw [show f + (d + 1) + 1 = (f + d + 1) + 1 by omega, f_X12_stands_L5, h.2.2.1, if_neg (fun q => by rw [nI_leX (by omega) (by omega)] at q; omega), v_ibN (show x < 400 by omega) (by omega), v_ckT, v_ckT, nI_clamp (by omega), h.2.2.2 x (by omega), nI_1]
    cases k : t_isL (c x) with
    | false =>
      rw [e_st41 hN h hs h0 e hp hx, t_eL_n k]
      rcases hb.mpr k with w | w
      · rw [if_pos w]
      · by_cases w' : (nI (c x)).toInt8.toInt32 < 97
        · rw [if_pos w']
        · rw [if_neg w', if_pos w]
    | true =>
      rw [if_neg (fun q => by have := hb.mp (Or.inl q); rw [k] at this; cases this), if_neg (fun q => by have := hb.mp (Or.inr q); rw [k] at this; cases this), ih (x + 1) f (by omega) (by omega) (by omega), t_eL_t (p := x) (by omega) k]
theorem t_stand {c : Nat → Nat} {T p s : Nat} (hc : ∀ i, i < T → c i ≤ 255) (hs : 1 ≤ s) (hs2 : s < 21) : t_wm c p (t_eL c T p) (t_str s) = decide (t_tk c T p = 260 + t_ix.getD s 0) ∧ (t_tk c T p = 260 + t_ix.getD s 0 → t_te c T p = p + (t_str s).length) := by
  have hS : t_str s = t_wds.getD (t_ix.getD s 0) [] := if_neg (by omega)
  have hf : ∀ s, s < 21 → t_ix.getD s 0 < 20 := by decide +kernel
  have hi := hf s hs2
  have hg : ∀ s, s < 21 → 0 < (t_str s).length := by decide +kernel
  have h0 := hg s hs2
  by_cases w : p < T ∧ t_isL (c p) = true
  · have nd : ¬ t_isD (c p) = true := fun q => by have := t_isD_i.mp q; have := t_isL_i.mp w.2; omega
    have tk : t_tk c T p = t_wd c p (t_eL c T p) := by unfold t_tk; rw [if_neg (by omega), if_neg nd, if_pos w.2]
    have te : t_te c T p = t_eL c T p := by unfold t_te; rw [if_neg (by omega), if_neg nd, if_pos w.2]
    rw [tk, te]
    constructor
    · rw [hS]
      apply Bool.eq_iff_iff.mpr
      rw [decide_eq_true_iff]
      exact (t_wd_i hi).symm
    · intro q
      rw [hS]
      exact (t_wm_i.mp ((t_wd_i hi).mp q)).1
  · have el : t_eL c T p = p := by
      by_cases q : p < T
      · exact t_eL_n (Bool.eq_false_iff.mpr (fun l => w ⟨q, l⟩))
      · exact t_eL_e (by omega)
    have nt : ¬ t_tk c T p = 260 + t_ix.getD s 0 := by
      unfold t_tk
      by_cases q : T ≤ p
      · rw [if_pos q]; omega
      · have := hc p (by omega)
        rw [if_neg q]
        split
        · omega
        · rw [if_neg (fun l => w ⟨by omega, l⟩)]
          split
          · omega
          · split <;> omega
    refine ⟨?_, fun q => absurd q nt⟩
    rw [decide_eq_false nt]
    exact Bool.eq_false_iff.mpr (fun q => by have := (t_wm_i.mp q).1; omega)
theorem e_stands {N : Nat} (hN : 1000 ≤ N) {M : v_M} {c : Nat → Nat} {T p s : Nat} (h : TR M c T) (hs : 1 ≤ s) (hs2 : s < 21) (hp : p ≤ T) (e : M.1 79 33 = nI p) : f_X12_stands N s M = some (v01 (decide (t_tk c T p = 260 + t_ix.getD s 0)), M) := by
  have hT := h.1
  have hg : ∀ s, s < 21 → 0 < (t_str s).length := by decide +kernel
  unfold f_X12_stands
  rw [v_letE, e]
  have := e_st5 hN h hs2 (hg s hs2) e (T - p) p (N - (T - p) - 1) rfl (Nat.le_refl _) hp
  rw [show N - (T - p) - 1 + (T - p) + 1 = N by omega, (t_stand h.2.1 hs hs2).1] at this
  exact this
