/-! orders: both evaluations -/
theorem e_both (N : Nat) {j : Nat} {x y : Int64} {a b : Int} (hx : x.toInt = a) (hy : y.toInt = b) (h : mayJ j a b) (M : v_M) : ∃ r : Int64, f_X12_both N (nI j) x y M = some (r, M) ∧ r.toInt = bth j a b := by
  have lt : (lg_cmp x y < 0) ↔ a < b := by rw [lg_cmp_lt, Int64.lt_iff_toInt_lt, hx, hy]
  have gt : (0 < lg_cmp x y) ↔ b < a := by rw [lg_cmp_gt, Int64.lt_iff_toInt_lt, hx, hy]
  have ge : (0 ≤ lg_cmp x y) ↔ b ≤ a := by
    rw [show (0 ≤ lg_cmp x y) ↔ ¬ (lg_cmp x y < 0) by rw [i_le, i_lt]; omega, lt]; omega
  have le : (lg_cmp x y ≤ 0) ↔ a ≤ b := by
    rw [show (lg_cmp x y ≤ 0) ↔ ¬ (0 < lg_cmp x y) by rw [i_le, i_lt]; omega, gt]; omega
  have eq' : (lg_cmp x y = 0) ↔ a = b := by
    rw [show (lg_cmp x y = 0) ↔ (0 ≤ lg_cmp x y ∧ lg_cmp x y ≤ 0) by rw [i_eq, i_le, i_le, i0]; omega, ge, le]; omega
  unfold f_X12_both f_X12_truth
  rcases j_cases h with rfl | rfl | rfl | rfl | rfl | rfl | rfl | rfl | rfl
  · rcases h with ⟨-, h1, h2⟩ | h | h
    · have e : (x + y).toInt = a + b := by
        simp only [bth, if_true] at h1 h2
        rw [Int64.toInt_add, hx, hy, l_bm (by omega) (by omega)]
      exact ⟨x + y, rfl, e⟩
    · omega
    · omega
  · rcases h with ⟨-, h1, h2⟩ | h | h
    · have e : (x - y).toInt = a - b := by
        simp [bth] at h1 h2
        rw [Int64.toInt_sub, hx, hy, l_bm (by omega) (by omega)]
      exact ⟨x - y, rfl, e⟩
    · omega
    · omega
  · rw [if_neg (by decide), if_neg (by decide), if_pos (show nI 4 = 4 from rfl)]
    by_cases z : a < b
    · rw [if_neg (fun q => by have := ge.mp q; omega)]; exact ⟨1, rfl, by simp [bth, z]⟩
    · rw [if_pos (ge.mpr (by omega))]; exact ⟨0, rfl, by simp [bth, z]⟩
  · rw [if_neg (by decide), if_neg (by decide), if_neg (by decide), if_pos (show nI 5 = 5 from rfl)]
    by_cases z : a ≤ b
    · rw [if_neg (fun q => by have := gt.mp q; omega)]; exact ⟨1, rfl, by simp [bth, z]⟩
    · rw [if_pos (gt.mpr (by omega))]; exact ⟨0, rfl, by simp [bth, z]⟩
  · rw [if_neg (by decide), if_neg (by decide), if_neg (by decide), if_neg (by decide), if_pos (show nI 6 = 6 from rfl)]
    by_cases z : a = b
    · rw [if_pos (eq'.mpr z)]; exact ⟨1, rfl, by simp [bth, z]⟩
    · rw [if_neg (fun q => z (eq'.mp q))]; exact ⟨0, rfl, by simp [bth, z]⟩
  · rw [if_neg (by decide), if_neg (by decide), if_neg (by decide), if_neg (by decide), if_neg (by decide), if_pos (show nI 7 = 7 from rfl)]
    by_cases z : b ≤ a
    · rw [if_neg (fun q => by have := lt.mp q; omega)]; exact ⟨1, rfl, by simp [bth, z]⟩
    · rw [if_pos (lt.mpr (by omega))]; exact ⟨0, rfl, by simp [bth, z]⟩
  · rw [if_neg (by decide), if_neg (by decide), if_neg (by decide), if_neg (by decide), if_neg (by decide), if_neg (by decide), if_pos (show nI 8 = 8 from rfl)]
    by_cases z : b < a
    · rw [if_neg (fun q => by have := le.mp q; omega)]; exact ⟨1, rfl, by simp [bth, z]⟩
    · rw [if_pos (le.mpr (by omega))]; exact ⟨0, rfl, by simp [bth, z]⟩
  · rcases h with h | h | ⟨-, h1, h2⟩
    · omega
    · omega
    · exact ⟨x &&& y, rfl, by rw [(l_and1 hx hy h1 h2).1]; rfl⟩
  · rcases h with h | h | ⟨-, h1, h2⟩
    · omega
    · omega
    · exact ⟨x ||| y, rfl, by rw [(l_and1 hx hy h1 h2).2]; rfl⟩
theorem cod1 : ∀ k : Nat, k < 7 → ¬ (-1 - nI k : Int32) < -7 ∧ (-1 - nI k : Int32) < 0 ∧ (-1 : Int32) - (-1 - nI k) = nI k := by decide
theorem codj {j v : Nat} {a b : Int} (h : mayJ j a b) : cod (j, v) < -7 ∧ ¬ cod (j, v) = -8 := by
  rcases j_cases h with rfl | rfl | rfl | rfl | rfl | rfl | rfl | rfl | rfl <;> (refine ⟨?_, ?_⟩ <;> simp [cod])
theorem nI_m2 (p : Nat) : nI (p + 2) + (-1) - 1 = nI p := by
  rw [nI_m1, nI_pred]
theorem e_val1 (N q : Nat) {F : Nat → Int} (hq : 51 ≠ q + 6 ∧ 50 ≠ q + 6) : ∀ (L : List Op) (i f : Nat) (S S' : List Int) (M : v_M), run F L S S' → i + L.length ≤ 400 → L.length < f → S.length ≤ 64 → (∀ p o, L[p]? = some o → M.1 (q + 6) (i + p) = cod o) → (∀ k, k < 7 → (M.1 50 k).toInt = F k) → stI (M.1 51) S → ∃ M' : v_M, f_X0_valueOf_L10 N q f (nI (i + L.length)) (nI S.length) (nI i) M = some (M'.1 51 0, M') ∧ v_fr [51] [] M M' ∧ stI (M'.1 51) S' := by
  intro L
  induction L with
  | nil =>
    intro i f S S' M hr hi hf hS hc hF hst
    obtain ⟨f, rfl⟩ : ∃ q, f = q + 1 := ⟨f - 1, by omega⟩
    rw [show S' = S from hr]
    refine ⟨M, ?_, v_frR, hst⟩
    rw [f_X0_valueOf_L10, if_pos (nI_le (show i + ([] : List Op).length ≤ i from Nat.le_refl _) (by rw [List.length_nil] at hi; omega))]
    rfl
  | cons o L ih =>
    intro i f S S' M hr hi hf hS hc hF hst
    obtain ⟨f, rfl⟩ : ∃ q, f = q + 1 := ⟨f - 1, by omega⟩
    rw [List.length_cons] at hi hf ⊢
    obtain ⟨R, h1, h2⟩ := hr
    have c0 : M.1 (q + 6) i = cod o := hc 0 o rfl
    have nxt : ∀ (A : v_M), v_fr [51] [] M A → R.length ≤ 64 → stI (A.1 51) R → ∃ M' : v_M, f_X0_valueOf_L10 N q f (nI (i + 1 + L.length)) (nI R.length) (nI (i + 1)) A = some (M'.1 51 0, M') ∧ v_fr [51] [] M M' ∧ stI (M'.1 51) S' := fun A fr hR hA => by
      obtain ⟨M', g1, g2, g3⟩ := ih (i + 1) f R S' A h2 (by omega) (by omega) hR (fun p o' e => by
        rw [v_keepR fr (q + 6) (by simp; omega), show i + 1 + p = i + (p + 1) by omega]
        exact hc (p + 1) o' e) (fun k hk => by rw [v_keepR fr 50 (by decide)]; exact hF k hk) hA
      exact ⟨M', g1, v_frT fr g2, g3⟩
    rw [f_X0_valueOf_L10, if_neg (nI_ge (show i < i + (L.length + 1) by omega) (by omega)), if_neg (show ¬ (400 : Int32) ≤ nI i from nI_ge (b := 400) (by omega) (by omega)), v_ibN (show i < 400 by omega) (show 400 < 2 ^ 31 by omega), v_ckT, nI_clamp (show i < 2 ^ 31 by omega), c0, v_letE, show i + (L.length + 1) = i + 1 + L.length by omega]
    obtain ⟨j, v⟩ := o
    rcases h1 with ⟨e1, e2, e3, e4⟩ | ⟨e1, e2, e3, e4⟩ | ⟨e1, a, R', e2, e3, e4⟩ | ⟨n0, n1, n9, a, b, R', e2, e3, e4⟩
    · have e1' : j = 0 := e1
      subst e1'
      have e3' : v ≤ 99999 := e3
      rw [show cod (0, v) = nI v from rfl, if_neg (fun z => by rw [i_lt, nI_toInt (by omega), show (-7 : Int32).toInt = -7 from rfl] at z; omega), if_neg (show ¬ (64 : Int32) ≤ nI S.length from nI_ge (b := 64) (by omega) (by omega)), if_neg (nI_pos (by omega))]
      unfold f_X0_valueOf_L72 f_X0_valueOf_L153
      rw [v_ibN e2 (show 64 < 2 ^ 31 by omega), v_ckT, v_letE, nI_clamp (show S.length < 2 ^ 31 by omega), nI_1, nI_1]
      have := nxt (v_wr M 51 S.length (nI v)) (v_frw (by decide) v_frR) (by rw [e4, List.length_cons]; omega) (by
        rw [e4]
        exact ⟨by rw [v_rd, if_pos ⟨rfl, rfl⟩, nI_toInt (by omega)], stI_u S hst (fun k hk => by rw [v_rd, if_neg (fun z => by omega)])⟩)
      rw [e4, List.length_cons] at this
      exact this
    · have e1' : j = 1 := e1
      subst e1'
      have e3' : v < 7 := e3
      obtain ⟨d1, d2, d3⟩ := cod1 v e3'
      rw [show cod (1, v) = -1 - nI v from rfl, if_neg d1, if_neg (show ¬ (64 : Int32) ≤ nI S.length from nI_ge (b := 64) (by omega) (by omega)), if_pos d2, d3, v_ibN e3' (show 7 < 2 ^ 31 by omega), v_ckT, nI_clamp (show v < 2 ^ 31 by omega)]
      unfold f_X0_valueOf_L72 f_X0_valueOf_L153
      rw [v_ibN e2 (show 64 < 2 ^ 31 by omega), v_ckT, v_letE, nI_clamp (show S.length < 2 ^ 31 by omega), nI_1, nI_1]
      have := nxt (v_wr M 51 S.length (M.1 50 v)) (v_frw (by decide) v_frR) (by rw [e4, List.length_cons]; omega) (by
        rw [e4]
        exact ⟨by rw [v_rd, if_pos ⟨rfl, rfl⟩]; exact hF v e3', stI_u S hst (fun k hk => by rw [v_rd, if_neg (fun z => by omega)])⟩)
      rw [e4, List.length_cons] at this
      exact this
    · have e1' : j = 9 := e1
      subst e1'
      subst e2
      rw [List.length_cons] at hS ⊢
      obtain ⟨g1, g2⟩ := hst
      rw [show cod (9, v) = -8 from rfl, if_pos (by decide), if_pos rfl, if_neg (nI_nle (by omega) (by omega)), nI_pred]
      unfold f_X0_valueOf_L153
      rw [v_ibN (show R'.length < 64 by omega) (show 64 < 2 ^ 31 by omega), v_ckT, v_ckT, v_letE, nI_clamp (show R'.length < 2 ^ 31 by omega), nI_1]
      have := nxt (v_wr M 51 R'.length (1 - M.1 51 R'.length)) (v_frw (by decide) v_frR) (by rw [e4, List.length_cons]; omega) (by
        rw [e4]
        refine ⟨?_, stI_u R' g2 (fun k hk => by rw [v_rd, if_neg (fun z => by omega)])⟩
        rw [v_rd, if_pos ⟨rfl, rfl⟩, Jvm.Kit.i32_sub (by rw [g1, i1]; omega) (by rw [g1, i1]; omega), g1, i1])
      rw [e4, List.length_cons] at this
      exact this
    · subst e2
      rw [List.length_cons, List.length_cons] at hS ⊢
      obtain ⟨g1, g2, g3⟩ := hst
      rw [List.length_cons] at g1
      obtain ⟨r, r1, r2⟩ := e_joined N (v := v) g2 g1 e3 M
      obtain ⟨d1, d2⟩ := codj (v := v) e3
      have d1' : cod (j, v) < -7 := d1
      rw [if_pos d1', if_neg d2, if_neg (show ¬ nI (R'.length + 1 + 1) ≤ 1 from nI_ge (a := 1) (by omega) (by omega)), nI_m2, nI_m1]
      unfold f_X0_valueOf_L153
      rw [v_ibN (show R'.length < 64 by omega) (show 64 < 2 ^ 31 by omega), v_ckT, v_ibN (show R'.length + 1 < 64 by omega) (show 64 < 2 ^ 31 by omega), v_ckT, nI_clamp (show R'.length < 2 ^ 31 by omega), nI_clamp (show R'.length + 1 < 2 ^ 31 by omega)]
      have r1' : f_X0_joined N (cod (j, v)) (M.1 51 R'.length) (M.1 51 (R'.length + 1)) M = some (r, M) := r1
      rw [r1', Option.bind_some, v_ckT, v_letE, nI_1]
      have := nxt (v_wr M 51 R'.length r) (v_frw (by decide) v_frR) (by rw [e4, List.length_cons]; omega) (by
        rw [e4]
        exact ⟨by rw [v_rd, if_pos ⟨rfl, rfl⟩]; exact r2, stI_u R' g3 (fun k hk => by rw [v_rd, if_neg (fun z => by omega)])⟩)
      rw [e4, List.length_cons] at this
      exact this
theorem wl_r (M : v_M) (k i j : Nat) (v : Int64) : (v_wl M k i v).2 k j = if j = i then v else M.2 k j := by rw [v_wl_2]; rfl
theorem e_ans1 (N : Nat) {F : Nat → Int} {w : Nat} (hw : w < 12) : ∀ (L : List Op) (i f : Nat) (S S' : List Int) (M : v_M), run F L S S' → i + L.length ≤ 300 → L.length < f → S.length ≤ 64 → (∀ p o, L[p]? = some o → M.1 108 (300 * w + (i + p)) = nI o.1 ∧ M.1 109 (300 * w + (i + p)) = nI o.2) → (∀ k, k < 7 → (M.2 120 k).toInt = F k) → stL (M.2 121) S → ∃ M' : v_M, f_X12_answer_L6 N f (nI w) (nI (i + L.length)) (nI S.length) (nI i) M = some (M'.2 121 0, M') ∧ v_fr [121] [] M M' ∧ stL (M'.2 121) S' := by
  intro L
  induction L with
  | nil =>
    intro i f S S' M hr hi hf hS hc hF hst
    obtain ⟨f, rfl⟩ : ∃ q, f = q + 1 := ⟨f - 1, by omega⟩
    rw [show S' = S from hr]
    refine ⟨M, ?_, v_frR, hst⟩
    rw [f_X12_answer_L6, if_pos (nI_le (show i + ([] : List Op).length ≤ i from Nat.le_refl _) (by rw [List.length_nil] at hi; omega))]
    rfl
  | cons o L ih =>
    intro i f S S' M hr hi hf hS hc hF hst
    obtain ⟨f, rfl⟩ : ∃ q, f = q + 1 := ⟨f - 1, by omega⟩
    rw [List.length_cons] at hi hf ⊢
    obtain ⟨R, h1, h2⟩ := hr
    obtain ⟨c0, c1⟩ := hc 0 o rfl
    rw [Nat.add_zero] at c0 c1
    have ea : (300 : Int32) * nI w + nI i = nI (300 * w + i) := by rw [show (300 : Int32) = nI 300 from rfl, nI_mul, nI_add]
    have nxt : ∀ (A : v_M), v_fr [121] [] M A → R.length ≤ 64 → stL (A.2 121) R → ∃ M' : v_M, f_X12_answer_L6 N f (nI w) (nI (i + 1 + L.length)) (nI R.length) (nI (i + 1)) A = some (M'.2 121 0, M') ∧ v_fr [121] [] M M' ∧ stL (M'.2 121) S' := fun A fr hR hA => by
      obtain ⟨M', g1, g2, g3⟩ := ih (i + 1) f R S' A h2 (by omega) (by omega) hR (fun p o' e => by
        rw [v_keepR fr 108 (by decide), v_keepR fr 109 (by decide), show i + 1 + p = i + (p + 1) by omega]
        exact hc (p + 1) o' e) (fun k hk => by rw [fr.2 120 (by decide)]; exact hF k hk) hA
      exact ⟨M', g1, v_frT fr g2, g3⟩
    rw [f_X12_answer_L6, if_neg (nI_ge (show i < i + (L.length + 1) by omega) (by omega)), ea, v_ibN (show 300 * w + i < 3600 by omega) (show 3600 < 2 ^ 31 by omega), v_ckT, v_letE, v_ckT, v_letE, nI_clamp (show 300 * w + i < 2 ^ 31 by omega), c0, c1, show i + (L.length + 1) = i + 1 + L.length by omega]
    obtain ⟨j, v⟩ := o
    rcases h1 with ⟨e1, e2, e3, e4⟩ | ⟨e1, e2, e3, e4⟩ | ⟨e1, a, R', e2, e3, e4⟩ | ⟨n0, n1, n9, a, b, R', e2, e3, e4⟩
    · have e1' : j = 0 := e1
      subst e1'
      have e3' : v ≤ 99999 := e3
      rw [if_pos (show nI 0 = 0 from rfl)]
      unfold f_X12_answer_L53 f_X12_answer_L77 f_X12_answer_L147
      rw [if_pos (show nI 0 = 0 from rfl), v_ibN (show S.length < 300 by omega) (show 300 < 2 ^ 31 by omega), v_ckT, v_letE, nI_clamp (show S.length < 2 ^ 31 by omega), nI_1, nI_1]
      have := nxt (v_wl M 121 S.length (nI v).toInt64) (v_frl (by decide) v_frR) (by rw [e4, List.length_cons]; omega) (by
        rw [e4]
        exact ⟨by rw [wl_r, if_pos rfl, Int32.toInt_toInt64, nI_toInt (by omega)], stL_u S hst (fun k hk => by rw [wl_r, if_neg (by omega)])⟩)
      rw [e4, List.length_cons] at this
      exact this
    · have e1' : j = 1 := e1
      subst e1'
      have e3' : v < 7 := e3
      rw [if_neg (show ¬ nI 1 = 0 by decide), if_pos (show nI 1 = 1 from rfl)]
      unfold f_X12_answer_L53 f_X12_answer_L77 f_X12_answer_L147
      rw [if_neg (show ¬ nI 1 = 0 by decide), v_ibN e3' (show 7 < 2 ^ 31 by omega), v_ckT, nI_clamp (show v < 2 ^ 31 by omega), v_ibN (show S.length < 300 by omega) (show 300 < 2 ^ 31 by omega), v_ckT, v_letE, nI_clamp (show S.length < 2 ^ 31 by omega), nI_1, nI_1]
      have := nxt (v_wl M 121 S.length (M.2 120 v)) (v_frl (by decide) v_frR) (by rw [e4, List.length_cons]; omega) (by
        rw [e4]
        exact ⟨by rw [wl_r, if_pos rfl]; exact hF v e3', stL_u S hst (fun k hk => by rw [wl_r, if_neg (by omega)])⟩)
      rw [e4, List.length_cons] at this
      exact this
    · have e1' : j = 9 := e1
      subst e1'
      subst e2
      rw [List.length_cons] at hS ⊢
      obtain ⟨g1, g2⟩ := hst
      rw [if_neg (show ¬ nI 9 = 0 by decide), if_neg (show ¬ nI 9 = 1 by decide), if_pos (show nI 9 = 9 from rfl), nI_pred]
      unfold f_X12_answer_L147
      rw [v_ibN (show R'.length < 300 by omega) (show 300 < 2 ^ 31 by omega), v_ckT, v_ckT, v_letE, nI_clamp (show R'.length < 2 ^ 31 by omega), nI_1]
      have := nxt (v_wl M 121 R'.length (1 - M.2 121 R'.length)) (v_frl (by decide) v_frR) (by rw [e4, List.length_cons]; omega) (by
        rw [e4]
        refine ⟨?_, stL_u R' g2 (fun k hk => by rw [wl_r, if_neg (by omega)])⟩
        rw [wl_r, if_pos rfl, Int64.toInt_sub, g1, show (1 : Int64).toInt = 1 from rfl, l_bm (by omega) (by omega)])
      rw [e4, List.length_cons] at this
      exact this
    · subst e2
      rw [List.length_cons, List.length_cons] at hS ⊢
      obtain ⟨g1, g2, g3⟩ := hst
      rw [List.length_cons] at g1
      obtain ⟨r, r1, r2⟩ := e_both N g2 g1 e3 M
      have jl : j < 2 ^ 31 := by rcases j_cases e3 with h | h | h | h | h | h | h | h | h <;> omega
      have n0' : ¬ nI j = 0 := fun z => n0 ((nI_eqX (b := 0) jl (by omega)).mp z)
      have n1' : ¬ nI j = 1 := fun z => n1 ((nI_eqX (b := 1) jl (by omega)).mp z)
      have n9' : ¬ nI j = 9 := fun z => n9 ((nI_eqX (b := 9) jl (by omega)).mp z)
      rw [if_neg n0', if_neg n1', if_neg n9', nI_m2, nI_m1]
      unfold f_X12_answer_L147
      rw [v_ibN (show R'.length < 300 by omega) (show 300 < 2 ^ 31 by omega), v_ckT, v_ibN (show R'.length + 1 < 300 by omega) (show 300 < 2 ^ 31 by omega), v_ckT, nI_clamp (show R'.length < 2 ^ 31 by omega), nI_clamp (show R'.length + 1 < 2 ^ 31 by omega)]
      have r1' : f_X12_both N (nI j) (M.2 121 R'.length) (M.2 121 (R'.length + 1)) M = some (r, M) := r1
      rw [r1', Option.bind_some, v_ckT, v_letE, nI_1]
      have := nxt (v_wl M 121 R'.length r) (v_frl (by decide) v_frR) (by rw [e4, List.length_cons]; omega) (by
        rw [e4]
        exact ⟨by rw [wl_r, if_pos rfl]; exact r2, stL_u R' g3 (fun k hk => by rw [wl_r, if_neg (by omega)])⟩)
      rw [e4, List.length_cons] at this
      exact this
