/-! words -/
def t_flat : List Nat := t_wds.flatMap (fun s => s ++ [32])
def t_ix : List Nat := [0, 0, 1, 2, 3, 15, 8, 9, 10, 11, 12, 13, 14, 4, 5, 6, 7, 16, 19, 18, 17]
def t_str (s : Nat) : List Nat := if s = 0 then t_flat else t_wds.getD (t_ix.getD s 0) []
theorem t_str_b : ∀ s, s < 21 → v_sb.getD s [] = (t_str s).map nI ∧ v_sn.getD s 0 = (t_str s).length ∧ (t_str s).length ≤ 200 ∧ ∀ i, i < (t_str s).length → (t_str s).getD i 0 < 128 := by decide +kernel
theorem nI_255 : ∀ k, k < 256 → nI k &&& 255 = nI k := by decide +kernel
theorem e_len (N : Nat) {s : Nat} (hs : s < 21) (M : v_M) : f_J0_length_8abf5 N s M = some (nI (t_str s).length, M) := by
  unfold f_J0_length_8abf5
  rw [decide_eq_true hs, v_ckT, (t_str_b s hs).2.1]
  rfl
theorem e_chr (N : Nat) {s i : Nat} (hs : s < 21) (hi : i < (t_str s).length) (M : v_M) : f_J0_charAt_5068e N s (nI i) M = some (nI ((t_str s).getD i 0), M) := by
  obtain ⟨a, b, d, g⟩ := t_str_b s hs
  unfold f_J0_charAt_5068e
  rw [decide_eq_true hs, v_ckT, b, v_ibN hi (by omega), v_ckT, nI_clamp (by omega), a]
  have e : ((t_str s).map nI).getD i 0 = nI ((t_str s).getD i 0) := by simp [List.getD, List.getElem?_map, List.getElem?_eq_getElem hi]
  rw [e, nI_255 _ (by have := g i hi; omega)]
theorem t_by_in {c : Nat → Nat} {T p : Nat} (h : p < T) : t_by c T p = nI (c p) := if_pos h
theorem e_same (N : Nat) {c : Nat → Nat} {T b p e : Nat} (hb : b + (e - p) ≤ t_flat.length) (he : e ≤ T) : ∀ (d i f : Nat) (M : v_M), TP M c T → M.1 36 2 = nI e → p ≤ i → i + d = e → f_X9_isSame_L2 N (f + d + 1) (nI b) (nI p) (nI i) M = some (v01 (decide (∀ k, k < d → t_flat.getD (b + (i - p) + k) 0 = c (i + k))), M) := by
  have hl : t_flat.length ≤ 200 := (t_str_b 0 (by omega)).2.2.1
  intro d
  induction d with
  | zero =>
    intro i f M h e2 hp hi
    have hT := h.1
    rw [f_X9_isSame_L2, e2, if_pos (by rw [nI_leX (by omega) (by omega)]; omega), v_b1, v_ckT, decide_eq_true (fun k hk => absurd hk (Nat.not_lt_zero k))]
    rfl
  | succ d ih =>
    intro i f M h e2 hp hi
    have hT := h.1
    rw [show f + (d + 1) + 1 = (f + d + 1) + 1 by omega, f_X9_isSame_L2, e2, if_neg (fun q => by rw [nI_leX (by omega) (by omega)] at q; omega), v_letE, e_len N (by omega), Option.bind_some]
    dsimp only
    have ea : nI b + nI i - nI p = nI (b + (i - p)) := by rw [nI_add, nI_subX (by omega)]; exact congrArg nI (by omega)
    have hlt : b + (i - p) < (t_str 0).length := by show b + (i - p) < t_flat.length; omega
    rw [ea, if_neg (fun q => by rw [nI_leX (by show t_flat.length < _; omega) (by omega)] at q; omega), e_chr N (by omega) hlt, Option.bind_some, e_byte N h (by omega), Option.bind_some]
    dsimp only
    rw [t_by_in (by omega)]
    have h0 := (t_str_b 0 (by omega)).2.2.2 _ hlt
    have h1 := h.2.1 i (by omega)
    by_cases k : (t_str 0).getD (b + (i - p)) 0 = c i
    · rw [if_pos (by rw [k]), nI_1, ih (i + 1) f M h e2 (by omega) (by omega)]
      congr 2
      apply congrArg
      rw [decide_eq_decide]
      constructor
      · intro g j hj
        by_cases j0 : j = 0
        · subst j0; exact k
        · have := g (j - 1) (by omega)
          rw [show b + (i + 1 - p) + (j - 1) = b + (i - p) + j by omega, show i + 1 + (j - 1) = i + j by omega] at this
          exact this
      · intro g j hj
        have := g (j + 1) (by omega)
        rw [show b + (i - p) + (j + 1) = b + (i + 1 - p) + j by omega, show i + (j + 1) = i + 1 + j by omega] at this
        exact this
    · rw [if_neg (fun q => k ((nI_eqX (by omega) (by omega)).mp q)), v_b0, v_ckT, decide_eq_false (fun g => k (g 0 (by omega)))]
      rfl
def t_at : List (List Nat) → Nat → Bool
  | [], b => decide (b = t_flat.length)
  | s :: ss, b => decide (b + s.length < t_flat.length) && (List.range s.length).all (fun j => decide (t_flat.getD (b + j) 0 = s.getD j 0) && !decide (s.getD j 0 = 32)) && decide (t_flat.getD (b + s.length) 0 = 32) && t_at ss (b + s.length + 1)
theorem t_at_wds : t_at t_wds 0 = true := by decide +kernel
theorem e_word1 (N : Nat) {c : Nat → Nat} {T b p e i : Nat} {s : List Nat} {M : v_M} (h : TP M c T) (e2 : M.1 36 2 = nI e) (hp : p ≤ e) (he : e ≤ T) (hN : 401 ≤ N) (h1 : b + s.length < t_flat.length) (h2 : ∀ j, j < s.length → t_flat.getD (b + j) 0 = s.getD j 0 ∧ ¬ s.getD j 0 = 32) (h3 : t_flat.getD (b + s.length) 0 = 32) : ∀ (d j f : Nat), j + d = s.length → f_X9_splitWord_L51 N (f + d + 1) (nI p) (nI i) (nI b) (nI (b + j)) M = if t_wm c p e s then some (260 + nI i, M) else f_X9_splitWord_L51 N f (nI p) (nI (i + 1)) (nI (b + s.length + 1)) (nI (b + s.length + 1)) M := by
  have hl : t_flat.length ≤ 200 := (t_str_b 0 (by omega)).2.2.1
  have hT := h.1
  intro d
  induction d with
  | zero =>
    intro j f hj
    obtain rfl : j = s.length := by omega
    rw [f_X9_splitWord_L51, e_len N (by omega), Option.bind_some]
    dsimp only
    rw [if_neg (fun q => by rw [nI_leX (by show t_flat.length < _; omega) (by omega)] at q; exact absurd h1 (by show ¬ b + s.length < (t_str 0).length; omega)), e_chr N (by omega) (show b + s.length < (t_str 0).length from h1), Option.bind_some]
    dsimp only
    rw [show (t_str 0).getD (b + s.length) 0 = 32 from h3, if_pos (show nI 32 = 32 from rfl), e2, nI_subX (show b ≤ b + s.length by omega), nI_subX hp, show b + s.length - b = s.length by omega]
    by_cases k : s.length = e - p
    · rw [if_pos (by rw [k])]
      unfold f_X9_isSame
      have hs := e_same N (c := c) (T := T) (b := b) (p := p) (e := e) (by omega) he (e - p) p (N - (e - p) - 1) M h e2 (Nat.le_refl _) (by omega)
      rw [show N - (e - p) - 1 + (e - p) + 1 = N by omega] at hs
      rw [hs, Option.bind_some]
      dsimp only
      rw [v01_0]
      have hw : decide (∀ k, k < e - p → t_flat.getD (b + (p - p) + k) 0 = c (p + k)) = t_wm c p e s := by
        unfold t_wm
        rw [decide_eq_true (show e = p + s.length by omega), Bool.true_and, decide_eq_decide, ← k]
        constructor
        · intro g a ha
          have := g a ha
          rw [show b + (p - p) + a = b + a by omega, (h2 a ha).1] at this
          exact this.symm
        · intro g a ha
          rw [show b + (p - p) + a = b + a by omega, (h2 a ha).1]
          exact (g a ha).symm
      rw [hw]
      unfold f_X9_splitWord_L101 f_X9_splitWord_L109
      rw [v_letE, nI_1, nI_1]
    · rw [if_neg (fun q => k ((nI_eqX (by omega) (by omega)).mp q)), if_neg (fun q => k (by have := (t_wm_i.mp q).1; omega))]
      unfold f_X9_splitWord_L101 f_X9_splitWord_L109
      rw [v_letE, nI_1, nI_1]
  | succ d ih =>
    intro j f hj
    have hlt : b + j < (t_str 0).length := by show b + j < t_flat.length; omega
    rw [show f + (d + 1) + 1 = (f + d + 1) + 1 by omega, f_X9_splitWord_L51, e_len N (by omega), Option.bind_some]
    dsimp only
    rw [if_neg (fun q => by rw [nI_leX (by show t_flat.length < _; omega) (by omega)] at q; omega), e_chr N (by omega) hlt, Option.bind_some]
    dsimp only
    have h0 := (t_str_b 0 (by omega)).2.2.2 _ hlt
    rw [if_neg (fun q => by
      rw [show (32 : Int32) = nI 32 from rfl, nI_eqX (by omega) (by omega)] at q
      exact (h2 j (by omega)).2 ((h2 j (by omega)).1.symm.trans q))]
    unfold f_X9_splitWord_L109
    rw [nI_1]
    exact ih (j + 1) f (by omega)
theorem e_words (N : Nat) {c : Nat → Nat} {T p e : Nat} {M : v_M} (h : TP M c T) (e2 : M.1 36 2 = nI e) (hp : p ≤ e) (he : e ≤ T) (hN : 401 ≤ N) : ∀ (ss : List (List Nat)) (b i f : Nat), b ≤ t_flat.length → t_at ss b = true → f_X9_splitWord_L51 N (f + (t_flat.length - b) + 1) (nI p) (nI i) (nI b) (nI b) M = some (nI (t_wix c p e ss i), M) := by
  intro ss
  induction ss with
  | nil =>
    intro b i f hb ha
    have hl : t_flat.length ≤ 200 := (t_str_b 0 (by omega)).2.2.1
    have : b = t_flat.length := of_decide_eq_true ha
    subst this
    rw [f_X9_splitWord_L51, e_len N (by omega), Option.bind_some]
    dsimp only
    rw [if_pos (by show nI t_flat.length ≤ nI t_flat.length; rw [nI_leX (by omega) (by omega)]; omega)]
    rfl
  | cons s ss ih =>
    intro b i f hb ha
    rw [t_at] at ha
    simp only [Bool.and_eq_true, decide_eq_true_eq, List.all_eq_true, List.mem_range, Bool.not_eq_true', decide_eq_false_iff_not] at ha
    obtain ⟨⟨⟨a1, a2⟩, a3⟩, a4⟩ := ha
    have hw := e_word1 N (i := i) h e2 hp he hN a1 a2 a3 s.length 0 (f + (t_flat.length - (b + s.length + 1)) + 1) (by omega)
    rw [show f + (t_flat.length - (b + s.length + 1)) + 1 + s.length + 1 = f + (t_flat.length - b) + 1 by omega] at hw
    rw [show nI (b + 0) = nI b from rfl] at hw
    rw [hw, ih (b + s.length + 1) (i + 1) f (by omega) a4, t_wix]
    by_cases k : t_wm c p e s = true
    · rw [if_pos k, if_pos k, show (260 : Int32) = nI 260 from rfl, nI_add]
    · rw [if_neg k, if_neg k]
theorem e_word (N : Nat) {c : Nat → Nat} {T : Nat} (hN : 1000 ≤ N) {p0 : Nat} : ∀ (d p j f : Nat) (M : v_M), TP M c T → T - p = d → p0 ≤ p → p ≤ T → j + d ≤ 400 → M.1 36 2 = nI p → ∃ M' : v_M, f_X9_splitWord_L7 N (f + d + 1) (nI p0) (nI j) M = some (nI (t_wd c p0 (t_eL c T p)), M') ∧ v_fr [] [(36, 2)] M M' ∧ M'.1 36 2 = nI (t_eL c T p) := by
  have hl : t_flat.length ≤ 200 := (t_str_b 0 (by omega)).2.2.1
  have fin : ∀ (p : Nat) (M : v_M), TP M c T → p0 ≤ p → p ≤ T → M.1 36 2 = nI p → f_X9_splitWord_L44 N (nI p0) M = some (nI (t_wd c p0 p), M) := by
    intro p M h h0 hp e
    unfold f_X9_splitWord_L44
    have := e_words N h e h0 hp (by omega) t_wds 0 0 (N - t_flat.length - 1) (by omega) t_at_wds
    rw [show N - t_flat.length - 1 + (t_flat.length - 0) + 1 = N by omega] at this
    exact this
  intro d
  induction d with
  | zero =>
    intro p j f M h hd h0 hp hj e
    refine ⟨M, ?_, v_frR, by rw [t_eL_e (by omega)]; exact e⟩
    rw [t_eL_e (by omega), f_X9_splitWord_L7, fin p M h h0 hp e]
    by_cases k : (400 : Int32) ≤ nI j
    · rw [if_pos k]
    · rw [if_neg k, e, e_byte N h (by have := h.1; omega), Option.bind_some]
      dsimp only
      rw [e_cLetter N h.2.1, Option.bind_some, decide_eq_false (show ¬ p < T by omega)]
      exact fin p M h h0 hp e
  | succ d ih =>
    intro p j f M h hd h0 hp hj e
    have hT := h.1
    rw [show f + (d + 1) + 1 = (f + d + 1) + 1 by omega, f_X9_splitWord_L7, if_neg (nI_400 (by omega)), e, e_byte N h (by omega), Option.bind_some]
    dsimp only
    rw [e_cLetter N h.2.1, Option.bind_some, decide_eq_true (show p < T by omega), Bool.true_and]
    dsimp only
    rw [v01_0]
    cases k : t_isL (c p) with
    | true =>
      have h' : TP (v_wr M 36 2 (nI (p + 1))) c T := h.fr (by rw [v_rd, if_neg (by decide)]) (by rw [v_wr_n (by decide)])
      have he : t_eL c T p = t_eL c T (p + 1) := t_eL_t (by omega) k
      simp only [if_true, v_letE, e, nI_1]
      obtain ⟨M', a, b, g⟩ := ih (p + 1) (j + 1) f (v_wr M 36 2 (nI (p + 1))) h' (by omega) (by omega) (by omega) (by omega) (by rw [v_rd, if_pos ⟨rfl, rfl⟩])
      exact ⟨M', by rw [he]; exact a, v_frT (v_fro (by decide) v_frR) b, by rw [g, he]⟩
    | false =>
      rw [t_eL_n k]
      exact ⟨M, by rw [if_neg (by decide)]; exact fin p M h h0 hp e, v_frR, e⟩
