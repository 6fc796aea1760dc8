/-! forgetting: the reference's side -/
theorem r_fg3 (N : Nat) {n nk : Nat} {G : Nat → Int32} (hn : n ≤ 30) : ∀ (s i f : Nat) (M : v_M), i + s = n → s < f → M.1 79 80 = nI n → M.1 79 3 = nI nk → (∀ j, j < i → M.1 140 j = pgo nk (G j)) → (∀ j, i ≤ j → j < n → M.1 140 j = G j) → ∃ M' : v_M, f_X12_forgets_L176 N f (nI i) M = some (0, M') ∧ v_fr [140] [] M M' ∧ ∀ j, j < n → M'.1 140 j = pgo nk (G j) := by
  intro s
  induction s with
  | zero =>
    intro i f M hi hf e e3 h1 h2
    obtain ⟨f, rfl⟩ : ∃ q, f = q + 1 := ⟨f - 1, by omega⟩
    refine ⟨M, ?_, v_frR, fun j hj => h1 j (by omega)⟩
    rw [f_X12_forgets_L176, e, if_pos (nI_le (by omega) (by omega))]
  | succ s ih =>
    intro i f M hi hf e e3 h1 h2
    obtain ⟨f, rfl⟩ : ∃ q, f = q + 1 := ⟨f - 1, by omega⟩
    have hG := h2 i (Nat.le_refl _) (by omega)
    have step : f_X12_forgets_L176 N (f + 1) (nI i) M = f_X12_forgets_L176 N f (nI (i + 1)) (v_wr M 140 i (pgo nk (G i))) := by
      rw [f_X12_forgets_L176, e, if_neg (nI_ge (show i < n by omega) (by omega))]
      simp only [v_ibN (show i < 30 by omega) (show 30 < 2 ^ 31 by omega), nI_clamp (show i < 2 ^ 31 by omega), v_ckT, v_letE, hG, e3, f_X12_forgets_L212, nI_1]
      unfold pgo
      by_cases c : G i < nI nk
      · rw [if_pos c, if_neg (fun z => by rw [i_le] at z; rw [i_lt] at c; omega)]
      · rw [if_neg c, if_pos (by rw [i_le]; rw [i_lt] at c; omega)]
    rw [step]
    have fr : v_fr [140] [] M (v_wr M 140 i (pgo nk (G i))) := v_frw (by decide) v_frR
    obtain ⟨M', q1, q2, q3⟩ := ih (i + 1) f (v_wr M 140 i (pgo nk (G i))) (by omega) (by omega) (by rw [v_rdn (by decide), e]) (by rw [v_rdn (by decide), e3]) (fun j hj => by
      rw [v_rd]
      by_cases q : j = i
      · rw [if_pos ⟨rfl, q⟩, q]
      · rw [if_neg (fun y => q y.2)]; exact h1 j (by omega)) (fun j a b => by rw [v_rd, if_neg (fun y => by omega)]; exact h2 j (by omega) b)
    exact ⟨M', q1, v_frT fr q2, q3⟩
theorem r_fg2 {N : Nat} {n nk : Nat} {mm tt : Nat → Nat} {a d : Nat → Int32} (hn : n ≤ 100) (hm : ∀ i, i < n → mm i < 20 ∧ tt i < 10 ∧ (d i = 0 ∨ d i = 1)) (hk : nk ≤ 20) : ∀ (s i f : Nat) (M : v_M), i + s = n → s < f → M.1 79 61 = nI n → M.1 79 3 = nI nk → (cmp (M.1 128) (fun j => nI (mm j)) (pre (sel mm nk) i) ∧ cmp (M.1 129) (fun j => nI (tt j)) (pre (sel mm nk) i) ∧ cmp (M.1 130) a (pre (sel mm nk) i) ∧ cmp (M.1 131) d (pre (sel mm nk) i)) → (∀ j, i ≤ j → j < n → M.1 128 j = nI (mm j) ∧ M.1 129 j = nI (tt j) ∧ M.1 130 j = a j ∧ M.1 131 j = d j) → ∃ M' : v_M, f_X12_forgets_L91 N f (nI (pre (sel mm nk) i).length) (nI i) M = f_X12_forgets_L176 N N 0 M' ∧ v_fr [128, 129, 130, 131] [(79, 61)] M M' ∧ M'.1 79 61 = nI (pre (sel mm nk) n).length ∧ cmp (M'.1 128) (fun j => nI (mm j)) (pre (sel mm nk) n) ∧ cmp (M'.1 129) (fun j => nI (tt j)) (pre (sel mm nk) n) ∧ cmp (M'.1 130) a (pre (sel mm nk) n) ∧ cmp (M'.1 131) d (pre (sel mm nk) n) := by
  intro s
  induction s with
  | zero =>
    intro i f M hi hf e e3 hr ho
    obtain ⟨f, rfl⟩ : ∃ q, f = q + 1 := ⟨f - 1, by omega⟩
    have : i = n := by omega
    subst this
    have fr : v_fr [128, 129, 130, 131] [(79, 61)] M (v_wr M 79 61 (nI (pre (sel mm nk) i).length)) := v_fro (by decide) v_frR
    refine ⟨v_wr M 79 61 (nI (pre (sel mm nk) i).length), ?_, fr, by rw [v_rd, if_pos ⟨rfl, rfl⟩], ?_⟩
    · rw [f_X12_forgets_L91, e, if_pos (nI_le (by omega) (by omega)), v_letE]
    · rw [v_wr_n (by decide), v_wr_n (by decide), v_wr_n (by decide), v_wr_n (by decide)]
      exact hr
  | succ s ih =>
    intro i f M hi hf e e3 hr ho
    obtain ⟨f, rfl⟩ : ∃ q, f = q + 1 := ⟨f - 1, by omega⟩
    obtain ⟨o1, o2, o3, o4⟩ := ho i (Nat.le_refl _) (by omega)
    obtain ⟨m1, m2, m3⟩ := hm i (by omega)
    have pl := pre_le (sel mm nk) i
    rw [f_X12_forgets_L91, e, if_neg (nI_ge (show i < n by omega) (by omega))]
    simp only [v_ibN (show i < 100 by omega) (show 100 < 2 ^ 31 by omega), nI_clamp (show i < 2 ^ 31 by omega), v_ibN (show (pre (sel mm nk) i).length < 100 by omega) (show 100 < 2 ^ 31 by omega), nI_clamp (show (pre (sel mm nk) i).length < 2 ^ 31 by omega), v_ckT, v_letE, v_rdn, ne_eq, Nat.reduceEqDiff, not_false_eq_true, o1, o2, o3, o4, e3, v_nar01 m3, f_X12_forgets_L163, nI_1]
    by_cases c : mm i < nk
    · have hs : sel mm nk i = some i := if_pos c
      rw [if_neg (nI_ge (by omega) (by omega))]
      generalize hA : v_wr (v_wr (v_wr (v_wr M 128 (pre (sel mm nk) i).length (nI (mm i))) 129 (pre (sel mm nk) i).length (nI (tt i))) 130 (pre (sel mm nk) i).length (a i)) 131 (pre (sel mm nk) i).length (d i) = A
      have fr : v_fr [128, 129, 130, 131] [(79, 61)] M A := by rw [← hA]; exact v_frw (by decide) (v_frw (by decide) (v_frw (by decide) (v_frw (by decide) v_frR)))
      have r : ∀ j, A.1 128 j = (if j = (pre (sel mm nk) i).length then nI (mm i) else M.1 128 j) ∧ A.1 129 j = (if j = (pre (sel mm nk) i).length then nI (tt i) else M.1 129 j) ∧ A.1 130 j = (if j = (pre (sel mm nk) i).length then a i else M.1 130 j) ∧ A.1 131 j = (if j = (pre (sel mm nk) i).length then d i else M.1 131 j) := fun j => by
        rw [← hA]
        simp only [v_rd, Nat.reduceEqDiff, false_and, if_false, true_and, and_self]
      have r79 : A.1 79 = M.1 79 := by rw [← hA, v_wr_n (by decide), v_wr_n (by decide), v_wr_n (by decide), v_wr_n (by decide)]
      have lg : (pre (sel mm nk) (i + 1)).length = (pre (sel mm nk) i).length + 1 := by rw [pre_s hs, List.length_append]; rfl
      have go := ih (i + 1) f A (by omega) (by omega) (by rw [r79, e]) (by rw [r79, e3]) (by
        rw [pre_s hs]
        refine ⟨cmp_a (cmp_u hr.1 (fun s hs => by rw [(r s).1, if_neg (by omega)])) (by rw [(r _).1, if_pos rfl]), cmp_a (cmp_u hr.2.1 (fun s hs => by rw [(r s).2.1, if_neg (by omega)])) (by rw [(r _).2.1, if_pos rfl]), cmp_a (cmp_u hr.2.2.1 (fun s hs => by rw [(r s).2.2.1, if_neg (by omega)])) (by rw [(r _).2.2.1, if_pos rfl]), cmp_a (cmp_u hr.2.2.2 (fun s hs => by rw [(r s).2.2.2, if_neg (by omega)])) (by rw [(r _).2.2.2, if_pos rfl])⟩) (fun j h1 h2 => by
        rw [(r j).1, (r j).2.1, (r j).2.2.1, (r j).2.2.2, if_neg (by omega), if_neg (by omega), if_neg (by omega), if_neg (by omega)]
        exact ho j (by omega) h2)
      rw [lg] at go
      obtain ⟨M', q1, q2, q3⟩ := go
      exact ⟨M', q1, v_frT fr q2, q3⟩
    · have hs : sel mm nk i = none := if_neg c
      rw [if_pos (nI_le (by omega) (by omega))]
      have := pre_n hs
      have go := ih (i + 1) f M (by omega) (by omega) e e3 (by rw [this]; exact hr) (fun j h1 h2 => ho j (by omega) h2)
      rw [this] at go
      exact go
theorem r_fg1 {N : Nat} {n nk : Nat} {mm tt : Nat → Nat} {a d : Nat → Int32} (hn : n ≤ 200) (hm : ∀ i, i < n → mm i < 20 ∧ tt i < 10) (hk : nk ≤ 20) : ∀ (s i f : Nat) (M : v_M), i + s = n → s < f → M.1 79 60 = nI n → M.1 79 3 = nI nk → (cmp (M.1 122) (fun j => nI (mm j)) (pre (sel mm nk) i) ∧ cmp (M.1 123) (fun j => nI (tt j)) (pre (sel mm nk) i) ∧ cmp (M.1 124) a (pre (sel mm nk) i) ∧ cmp (M.1 125) d (pre (sel mm nk) i)) → (∀ j, i ≤ j → j < n → M.1 122 j = nI (mm j) ∧ M.1 123 j = nI (tt j) ∧ M.1 124 j = a j ∧ M.1 125 j = d j) → ∃ M' : v_M, f_X12_forgets_L4 N f (nI (pre (sel mm nk) i).length) (nI i) M = f_X12_forgets_L91 N N 0 0 M' ∧ v_fr [122, 123, 124, 125] [(79, 60)] M M' ∧ M'.1 79 60 = nI (pre (sel mm nk) n).length ∧ cmp (M'.1 122) (fun j => nI (mm j)) (pre (sel mm nk) n) ∧ cmp (M'.1 123) (fun j => nI (tt j)) (pre (sel mm nk) n) ∧ cmp (M'.1 124) a (pre (sel mm nk) n) ∧ cmp (M'.1 125) d (pre (sel mm nk) n) := by
  intro s
  induction s with
  | zero =>
    intro i f M hi hf e e3 hr ho
    obtain ⟨f, rfl⟩ : ∃ q, f = q + 1 := ⟨f - 1, by omega⟩
    have : i = n := by omega
    subst this
    have fr : v_fr [122, 123, 124, 125] [(79, 60)] M (v_wr M 79 60 (nI (pre (sel mm nk) i).length)) := v_fro (by decide) v_frR
    refine ⟨v_wr M 79 60 (nI (pre (sel mm nk) i).length), ?_, fr, by rw [v_rd, if_pos ⟨rfl, rfl⟩], ?_⟩
    · rw [f_X12_forgets_L4, e, if_pos (nI_le (by omega) (by omega)), v_letE]
    · rw [v_wr_n (by decide), v_wr_n (by decide), v_wr_n (by decide), v_wr_n (by decide)]
      exact hr
  | succ s ih =>
    intro i f M hi hf e e3 hr ho
    obtain ⟨f, rfl⟩ : ∃ q, f = q + 1 := ⟨f - 1, by omega⟩
    obtain ⟨o1, o2, o3, o4⟩ := ho i (Nat.le_refl _) (by omega)
    obtain ⟨m1, m2⟩ := hm i (by omega)
    have pl := pre_le (sel mm nk) i
    rw [f_X12_forgets_L4, e, if_neg (nI_ge (show i < n by omega) (by omega))]
    simp only [v_ibN (show i < 200 by omega) (show 200 < 2 ^ 31 by omega), nI_clamp (show i < 2 ^ 31 by omega), v_ibN (show (pre (sel mm nk) i).length < 200 by omega) (show 200 < 2 ^ 31 by omega), nI_clamp (show (pre (sel mm nk) i).length < 2 ^ 31 by omega), v_ckT, v_letE, v_rdn, ne_eq, Nat.reduceEqDiff, not_false_eq_true, o1, o2, o3, o4, e3, f_X12_forgets_L76, nI_1]
    by_cases c : mm i < nk
    · have hs : sel mm nk i = some i := if_pos c
      rw [if_neg (nI_ge (by omega) (by omega))]
      generalize hA : v_wr (v_wr (v_wr (v_wr M 122 (pre (sel mm nk) i).length (nI (mm i))) 123 (pre (sel mm nk) i).length (nI (tt i))) 124 (pre (sel mm nk) i).length (a i)) 125 (pre (sel mm nk) i).length (d i) = A
      have fr : v_fr [122, 123, 124, 125] [(79, 60)] M A := by rw [← hA]; exact v_frw (by decide) (v_frw (by decide) (v_frw (by decide) (v_frw (by decide) v_frR)))
      have r : ∀ j, A.1 122 j = (if j = (pre (sel mm nk) i).length then nI (mm i) else M.1 122 j) ∧ A.1 123 j = (if j = (pre (sel mm nk) i).length then nI (tt i) else M.1 123 j) ∧ A.1 124 j = (if j = (pre (sel mm nk) i).length then a i else M.1 124 j) ∧ A.1 125 j = (if j = (pre (sel mm nk) i).length then d i else M.1 125 j) := fun j => by
        rw [← hA]
        simp only [v_rd, Nat.reduceEqDiff, false_and, if_false, true_and, and_self]
      have r79 : A.1 79 = M.1 79 := by rw [← hA, v_wr_n (by decide), v_wr_n (by decide), v_wr_n (by decide), v_wr_n (by decide)]
      have lg : (pre (sel mm nk) (i + 1)).length = (pre (sel mm nk) i).length + 1 := by rw [pre_s hs, List.length_append]; rfl
      have go := ih (i + 1) f A (by omega) (by omega) (by rw [r79, e]) (by rw [r79, e3]) (by
        rw [pre_s hs]
        refine ⟨cmp_a (cmp_u hr.1 (fun s hs => by rw [(r s).1, if_neg (by omega)])) (by rw [(r _).1, if_pos rfl]), cmp_a (cmp_u hr.2.1 (fun s hs => by rw [(r s).2.1, if_neg (by omega)])) (by rw [(r _).2.1, if_pos rfl]), cmp_a (cmp_u hr.2.2.1 (fun s hs => by rw [(r s).2.2.1, if_neg (by omega)])) (by rw [(r _).2.2.1, if_pos rfl]), cmp_a (cmp_u hr.2.2.2 (fun s hs => by rw [(r s).2.2.2, if_neg (by omega)])) (by rw [(r _).2.2.2, if_pos rfl])⟩) (fun j h1 h2 => by
        rw [(r j).1, (r j).2.1, (r j).2.2.1, (r j).2.2.2, if_neg (by omega), if_neg (by omega), if_neg (by omega), if_neg (by omega)]
        exact ho j (by omega) h2)
      rw [lg] at go
      obtain ⟨M', q1, q2, q3⟩ := go
      exact ⟨M', q1, v_frT fr q2, q3⟩
    · have hs : sel mm nk i = none := if_neg c
      rw [if_pos (nI_le (by omega) (by omega))]
      have := pre_n hs
      have go := ih (i + 1) f M (by omega) (by omega) e e3 (by rw [this]; exact hr) (fun j h1 h2 => ho j (by omega) h2)
      rw [this] at go
      exact go
theorem e_carB {N : Nat} (hN : 1000 ≤ N) {k : Nat} (hk : k < 4) {M : v_M} (e : M.1 79 92 = 1) : ∃ M' : v_M, f_X12_carries N (nI k) M = some (0, M') ∧ v_fr [88, 89, 90, 91, 92, 93] [(79, 91)] M M' ∧ (∀ i, i < 480 → M'.1 88 i = mkr M (2000 * k) i ∧ M'.1 89 i = mkr M (2000 * k + 480) i ∧ M'.1 90 i = mkr M (2000 * k + 960) i ∧ M'.1 91 i = mkr M (2000 * k + 1440) i) ∧ (∀ i, i < 20 → M'.1 92 i = mkr M (2000 * k + 1920) i ∧ M'.1 93 i = mkr M (2000 * k + 1940) i) := by
  have f0 : v_fr [] [(79, 91)] M (v_wr M 79 91 (nI (2000 * k))) := v_fro (by decide) v_frR
  obtain ⟨A, a1, a2, a3, a4⟩ := e_carryB hN 88 (n1 := 480) (o := 2000 * k) (by decide) (by decide) (by omega) (by omega) (M := v_wr M 79 91 (nI (2000 * k))) (by rw [v_keepC f0 79 92 (by decide), e]) (by rw [v_rd, if_pos ⟨rfl, rfl⟩])
  have fA : v_fr [88] [(79, 91)] M A := v_frT (v_frt (W := [88]) (O := [(79, 91)]) (by decide) (by decide) v_frR f0) a2
  obtain ⟨B, b1, b2, b3, b4⟩ := e_carryB hN 89 (n1 := 480) (o := 2000 * k + 480) (by decide) (by decide) (by omega) (by omega) (M := A) (by rw [v_keepC fA 79 92 (by decide), e]) a3
  have fB : v_fr [88, 89] [(79, 91)] M B := v_frt (by decide) (by decide) (v_frt (W := [88, 89]) (O := [(79, 91)]) (by decide) (by decide) v_frR fA) b2
  obtain ⟨C, c1, c2, c3, c4⟩ := e_carryB hN 90 (n1 := 480) (o := 2000 * k + 960) (by decide) (by decide) (by omega) (by omega) (M := B) (by rw [v_keepC fB 79 92 (by decide), e]) b3
  have fC : v_fr [88, 89, 90] [(79, 91)] M C := v_frt (by decide) (by decide) (v_frt (W := [88, 89, 90]) (O := [(79, 91)]) (by decide) (by decide) v_frR fB) c2
  obtain ⟨D, d1, d2, d3, d4⟩ := e_carryB hN 91 (n1 := 480) (o := 2000 * k + 1440) (by decide) (by decide) (by omega) (by omega) (M := C) (by rw [v_keepC fC 79 92 (by decide), e]) c3
  have fD : v_fr [88, 89, 90, 91] [(79, 91)] M D := v_frt (by decide) (by decide) (v_frt (W := [88, 89, 90, 91]) (O := [(79, 91)]) (by decide) (by decide) v_frR fC) d2
  obtain ⟨E, g1, g2, g3, g4⟩ := e_carryB hN 92 (n1 := 20) (o := 2000 * k + 1920) (by decide) (by decide) (by omega) (by omega) (M := D) (by rw [v_keepC fD 79 92 (by decide), e]) d3
  have fE : v_fr [88, 89, 90, 91, 92] [(79, 91)] M E := v_frt (by decide) (by decide) (v_frt (W := [88, 89, 90, 91, 92]) (O := [(79, 91)]) (by decide) (by decide) v_frR fD) g2
  obtain ⟨F, h1, h2, h3, h4⟩ := e_carryB hN 93 (n1 := 20) (o := 2000 * k + 1940) (by decide) (by decide) (by omega) (by omega) (M := E) (by rw [v_keepC fE 79 92 (by decide), e]) g3
  refine ⟨F, ?_, v_frt (by decide) (by decide) (v_frt (W := [88, 89, 90, 91, 92, 93]) (O := [(79, 91)]) (by decide) (by decide) v_frR fE) h2, fun i hi => ⟨?_, ?_, ?_, ?_⟩, fun i hi => ⟨?_, ?_⟩⟩
  · unfold f_X12_carries
    rw [show (2000 : Int32) = nI 2000 from rfl, nI_mul, v_letE, a1, Option.bind_some, b1, Option.bind_some, c1, Option.bind_some, d1, Option.bind_some, g1, Option.bind_some, h1]
    rfl
  · unfold mkr
    rw [v_keepR h2 88 (by decide), v_keepR g2 88 (by decide), v_keepR d2 88 (by decide), v_keepR c2 88 (by decide), v_keepR b2 88 (by decide), a4 i hi, v_rdn (by decide)]
  · unfold mkr
    rw [v_keepR h2 89 (by decide), v_keepR g2 89 (by decide), v_keepR d2 89 (by decide), v_keepR c2 89 (by decide), b4 i hi, v_keepR fA 145 (by decide)]
  · unfold mkr
    rw [v_keepR h2 90 (by decide), v_keepR g2 90 (by decide), v_keepR d2 90 (by decide), c4 i hi, v_keepR fB 145 (by decide)]
  · unfold mkr
    rw [v_keepR h2 91 (by decide), v_keepR g2 91 (by decide), d4 i hi, v_keepR fC 145 (by decide)]
  · unfold mkr
    rw [v_keepR h2 92 (by decide), g4 i hi, v_keepR fD 145 (by decide)]
  · unfold mkr
    rw [h4 i hi, v_keepR fE 145 (by decide)]
theorem e_clears (N : Nat) {m p : Nat} (hm : m < 20) (hp : p < 24) (M : v_M) : f_X12_clears N (nI m) (nI p) M = some (0, v_wr (v_wr (v_wr (v_wr M 88 (24 * m + p) 0) 89 (24 * m + p) 0) 90 (24 * m + p) 0) 91 (24 * m + p) 0) := by
  unfold f_X12_clears
  simp only [nI_spot', v_ibN (show 24 * m + p < 480 by omega) (show 480 < 2 ^ 31 by omega), nI_clamp (show 24 * m + p < 2 ^ 31 by omega), v_ckT, v_letE]
/-- rows of which what lies behind the parts is 0 -/
def clr (M : v_M) (nm np : Nat) : Prop := ∀ i, i < 24 * nm → np ≤ i % 24 → M.1 88 i = 0 ∧ M.1 89 i = 0 ∧ M.1 90 i = 0 ∧ M.1 91 i = 0
theorem v_wr_id {M : v_M} {k i : Nat} {v : Int32} (h : M.1 k i = v) : (v_wr M k i v).1 = M.1 := by
  funext k' j
  rw [v_rd]
  by_cases c : k' = k ∧ j = i
  · rw [if_pos c, c.1, c.2, h]
  · rw [if_neg c]
theorem r_clr1 (N : Nat) (K : Int32 → Int32 → v_M → Option (Int32 × v_M)) (x1 : Int32) {m nm np : Nat} (hm : m < nm) (hn : nm ≤ 20) : ∀ (s p f : Nat) (M : v_M), p + s = 24 → np ≤ p → s < f → clr M nm np → ∃ M' : v_M, f_X12_back_L70 N K f x1 (nI m) (nI p) M = K x1 (nI (m + 1)) M' ∧ M'.1 = M.1 ∧ M'.2 = M.2 := by
  intro s
  induction s with
  | zero =>
    intro p f M hp h0 hf hc
    obtain ⟨f, rfl⟩ : ∃ q, f = q + 1 := ⟨f - 1, by omega⟩
    refine ⟨M, ?_, rfl, rfl⟩
    rw [f_X12_back_L70, if_pos (show (24 : Int32) ≤ nI p from nI_le (a := 24) (by omega) (by omega)), nI_1]
  | succ s ih =>
    intro p f M hp h0 hf hc
    obtain ⟨f, rfl⟩ : ∃ q, f = q + 1 := ⟨f - 1, by omega⟩
    rw [f_X12_back_L70, if_neg (show ¬ (24 : Int32) ≤ nI p from nI_ge (b := 24) (by omega) (by omega)), e_clears N (by omega) (by omega), Option.bind_some, nI_1]
    obtain ⟨c1, c2, c3, c4⟩ := hc (24 * m + p) (by omega) (by omega)
    have e1 : (v_wr (v_wr (v_wr (v_wr M 88 (24 * m + p) 0) 89 (24 * m + p) 0) 90 (24 * m + p) 0) 91 (24 * m + p) 0).1 = M.1 := by
      have a1 : (v_wr M 88 (24 * m + p) 0).1 = M.1 := v_wr_id c1
      have a2 : (v_wr (v_wr M 88 (24 * m + p) 0) 89 (24 * m + p) 0).1 = M.1 := by rw [v_wr_id (by rw [a1, c2]), a1]
      have a3 : (v_wr (v_wr (v_wr M 88 (24 * m + p) 0) 89 (24 * m + p) 0) 90 (24 * m + p) 0).1 = M.1 := by rw [v_wr_id (by rw [a2, c3]), a2]
      rw [v_wr_id (by rw [a3, c4]), a3]
    obtain ⟨M', q1, q2, q3⟩ := ih (p + 1) f _ (by omega) (by omega) (by omega) (show clr (v_wr (v_wr (v_wr (v_wr M 88 (24 * m + p) 0) 89 (24 * m + p) 0) 90 (24 * m + p) 0) 91 (24 * m + p) 0) nm np by unfold clr; rw [e1]; exact hc)
    exact ⟨M', q1, by rw [q2, e1], by rw [q3]; rfl⟩
theorem r_clr2 {N : Nat} (hN : 100 ≤ N) {k nm np : Nat} (hk : k < 4) (hn : nm ≤ 20) (hp : np ≤ 24) : ∀ (s m f : Nat) (M : v_M), m + s = nm → s < f → M.1 79 3 = nI nm → M.1 146 k = nI np → clr M nm np → ∃ M' : v_M, f_X12_back_L55 N f (nI k) (nI m) M = ((f_X12_forgets N M').bind fun z1 => some ((z1.2.1 79 1), z1.2)) ∧ M'.1 = M.1 ∧ M'.2 = M.2 := by
  intro s
  induction s with
  | zero =>
    intro m f M hm hf e e2 hc
    obtain ⟨f, rfl⟩ : ∃ q, f = q + 1 := ⟨f - 1, by omega⟩
    refine ⟨M, ?_, rfl, rfl⟩
    rw [f_X12_back_L55, e, if_pos (nI_le (by omega) (by omega))]
  | succ s ih =>
    intro m f M hm hf e e2 hc
    obtain ⟨f, rfl⟩ : ∃ q, f = q + 1 := ⟨f - 1, by omega⟩
    rw [f_X12_back_L55, e, if_neg (nI_ge (show m < nm by omega) (by omega)), v_ibN (show k < 4 by omega) (show 4 < 2 ^ 31 by omega), v_ckT, nI_clamp (show k < 2 ^ 31 by omega), v_letE, e2]
    obtain ⟨A, a1, a2, a3⟩ := r_clr1 N (f_X12_back_L55 N f) (nI k) (show m < nm by omega) hn (24 - np) np N M (by omega) (Nat.le_refl _) (by omega) hc
    rw [a1]
    obtain ⟨M', q1, q2, q3⟩ := ih (m + 1) f A (by omega) (by omega) (by rw [a2, e]) (by rw [a2, e2]) (by unfold clr; rw [a2]; exact hc)
    exact ⟨M', q1, by rw [q2, a2], by rw [q3, a3]⟩
