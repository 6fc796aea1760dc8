/-! mark -/
theorem JFa_c {np nm : Nat} {w s b l f t w' s' b' l' f' t' : Nat → Int32} (h : JFa np nm w s b l f t) (e1 : ∀ i, i < 480 → w' i = w i ∧ s' i = s i ∧ b' i = b i ∧ l' i = l i) (e2 : ∀ i, i < 20 → f' i = f i ∧ t' i = t i) : JFa np nm w' s' b' l' f' t' := by
  obtain ⟨h1, h2, h3, h4⟩ := h
  refine ⟨h1, fun i hi hc => ?_, fun i hi => ?_, fun m hm => ?_⟩
  · obtain ⟨a, b, c, d⟩ := e1 i hi; rw [a, b, c, d]; exact h2 i hi hc
  · obtain ⟨a, b, c, d⟩ := e1 i hi; rw [a, b, c, d]; exact h3 i hi
  · obtain ⟨a, b⟩ := e2 m hm; rw [a, b]; exact h4 m hm
theorem JFb_c {nm : Nat} (hn : nm ≤ 20) {w s b l f t w' s' b' l' f' t' W S B L F T W' S' B' L' F' T' : Nat → Int32} (h : JFb nm w s b l f t w' s' b' l' f' t') (e1 : ∀ i, i < 480 → W i = w i ∧ S i = s i ∧ B i = b i ∧ L i = l i) (e2 : ∀ i, i < 20 → F i = f i ∧ T i = t i) (e3 : ∀ i, i < 480 → W' i = w' i ∧ S' i = s' i ∧ B' i = b' i ∧ L' i = l' i) (e4 : ∀ i, i < 20 → F' i = f' i ∧ T' i = t' i) : JFb nm W S B L F T W' S' B' L' F' T' := by
  obtain ⟨h1, h2⟩ := h
  refine ⟨fun i hi => ?_, fun m hm => ?_⟩
  · obtain ⟨a1, a2, a3, a4⟩ := e1 i (by omega)
    obtain ⟨b1, b2, b3, b4⟩ := e3 i (by omega)
    rw [a1, a2, a3, a4, b1, b2, b3, b4]
    exact h1 i hi
  · obtain ⟨a1, a2⟩ := e2 m (by omega)
    obtain ⟨b1, b2⟩ := e4 m (by omega)
    rw [a1, a2, b1, b2]
    exact h2 m hm
def mkr (M : v_M) (o i : Nat) : Int32 := M.1 145 (o + i)
def mkd (M : v_M) (q k npk nmk dk : Nat) : Prop := (M.1 149 k = 1 ∧ M.1 78 k = nI dk ∧ M.1 148 k = nI dk ∧ M.1 146 k = nI npk ∧ M.1 147 k = nI nmk ∧ M.1 q 0 = nI nmk) ∧ JFa npk nmk (M.1 (q + 1)) (M.1 (q + 2)) (M.1 (q + 3)) (M.1 (q + 4)) (M.1 (q + 5)) (M.1 (q + 6)) ∧ JFb nmk (M.1 (q + 1)) (M.1 (q + 2)) (M.1 (q + 3)) (M.1 (q + 4)) (M.1 (q + 5)) (M.1 (q + 6)) (mkr M (2000 * k)) (mkr M (2000 * k + 480)) (mkr M (2000 * k + 960)) (mkr M (2000 * k + 1440)) (mkr M (2000 * k + 1920)) (mkr M (2000 * k + 1940))
def J_mk (P : v_P) (M : v_M) (np k : Nat) : Prop := (P 77 k = none ∧ M.1 149 k = 0) ∨ ∃ q npk nmk dk : Nat, P 77 k = some q ∧ 150 ≤ q ∧ npk ≤ np ∧ dk ≤ 9999 ∧ mkd M q k npk nmk dk
def J_mrk (P : v_P) (M : v_M) (np : Nat) : Prop := (∀ k, k < 4 → J_mk P M np k) ∧ ∀ k k' q, k < 4 → k' < 4 → P 77 k = some q → P 77 k' = some q → k = k'
theorem J_mrk.more {P : v_P} {M : v_M} {np np' : Nat} (h : J_mrk P M np) (hn : np ≤ np') : J_mrk P M np' := ⟨fun k hk => by
  rcases h.1 k hk with a | ⟨q, npk, nmk, dk, a, b, c, d, e⟩
  · exact Or.inl a
  · exact Or.inr ⟨q, npk, nmk, dk, a, b, by omega, d, e⟩, h.2⟩
theorem e_carS {N : Nat} (hN : 1000 ≤ N) {k : Nat} (hk : k < 4) {M : v_M} (e : M.1 79 92 = 0) : ∃ M' : v_M, f_X12_carries N (nI k) M = some (0, M') ∧ v_fr [145] [(79, 91)] M M' ∧ (∀ i, i < 480 → mkr M' (2000 * k) i = M.1 88 i ∧ mkr M' (2000 * k + 480) i = M.1 89 i ∧ mkr M' (2000 * k + 960) i = M.1 90 i ∧ mkr M' (2000 * k + 1440) i = M.1 91 i) ∧ (∀ i, i < 20 → mkr M' (2000 * k + 1920) i = M.1 92 i ∧ mkr M' (2000 * k + 1940) i = M.1 93 i) ∧ ∀ j, j < 2000 * k ∨ 2000 * k + 1960 ≤ j → M'.1 145 j = M.1 145 j := by
  have f0 : v_fr [145] [(79, 91)] M (v_wr M 79 91 (nI (2000 * k))) := v_fro (by decide) v_frR
  obtain ⟨A, a1, a2, a3, a4⟩ := e_carryS hN 88 (n1 := 480) (o := 2000 * k) (by decide) (by decide) (by omega) (by omega) (M := v_wr M 79 91 (nI (2000 * k))) (by rw [v_keepC f0 79 92 (by decide), e]) (by rw [v_rd, if_pos ⟨rfl, rfl⟩])
  have fA := v_frT f0 a2
  obtain ⟨B, b1, b2, b3, b4⟩ := e_carryS hN 89 (n1 := 480) (o := 2000 * k + 480) (by decide) (by decide) (by omega) (by omega) (M := A) (by rw [v_keepC fA 79 92 (by decide), e]) a3
  have fB := v_frT fA b2
  obtain ⟨C, c1, c2, c3, c4⟩ := e_carryS hN 90 (n1 := 480) (o := 2000 * k + 960) (by decide) (by decide) (by omega) (by omega) (M := B) (by rw [v_keepC fB 79 92 (by decide), e]) b3
  have fC := v_frT fB c2
  obtain ⟨D, d1, d2, d3, d4⟩ := e_carryS hN 91 (n1 := 480) (o := 2000 * k + 1440) (by decide) (by decide) (by omega) (by omega) (M := C) (by rw [v_keepC fC 79 92 (by decide), e]) c3
  have fD := v_frT fC d2
  obtain ⟨E, g1, g2, g3, g4⟩ := e_carryS hN 92 (n1 := 20) (o := 2000 * k + 1920) (by decide) (by decide) (by omega) (by omega) (M := D) (by rw [v_keepC fD 79 92 (by decide), e]) d3
  have fE := v_frT fD g2
  obtain ⟨F, h1, h2, h3, h4⟩ := e_carryS hN 93 (n1 := 20) (o := 2000 * k + 1940) (by decide) (by decide) (by omega) (by omega) (M := E) (by rw [v_keepC fE 79 92 (by decide), e]) g3
  refine ⟨F, ?_, v_frT fE h2, fun i hi => ⟨?_, ?_, ?_, ?_⟩, fun i hi => ⟨?_, ?_⟩, fun j hj => ?_⟩
  · unfold f_X12_carries
    rw [show (2000 : Int32) = nI 2000 from rfl, nI_mul, v_letE, a1, Option.bind_some, b1, Option.bind_some, c1, Option.bind_some, d1, Option.bind_some, g1, Option.bind_some, h1]
    rfl
  · unfold mkr
    rw [h4, if_neg (by omega), g4, if_neg (by omega), d4, if_neg (by omega), c4, if_neg (by omega), b4, if_neg (by omega), a4, if_pos (by omega), v_keepR f0 88 (by decide), show 2000 * k + i - 2000 * k = i by omega]
  · unfold mkr
    rw [h4, if_neg (by omega), g4, if_neg (by omega), d4, if_neg (by omega), c4, if_neg (by omega), b4, if_pos (by omega), v_keepR fA 89 (by decide), show 2000 * k + 480 + i - (2000 * k + 480) = i by omega]
  · unfold mkr
    rw [h4, if_neg (by omega), g4, if_neg (by omega), d4, if_neg (by omega), c4, if_pos (by omega), v_keepR fB 90 (by decide), show 2000 * k + 960 + i - (2000 * k + 960) = i by omega]
  · unfold mkr
    rw [h4, if_neg (by omega), g4, if_neg (by omega), d4, if_pos (by omega), v_keepR fC 91 (by decide), show 2000 * k + 1440 + i - (2000 * k + 1440) = i by omega]
  · unfold mkr
    rw [h4, if_neg (by omega), g4, if_pos (by omega), v_keepR fD 92 (by decide), show 2000 * k + 1920 + i - (2000 * k + 1920) = i by omega]
  · unfold mkr
    rw [h4, if_pos (by omega), v_keepR fE 93 (by decide), show 2000 * k + 1940 + i - (2000 * k + 1940) = i by omega]
  · rw [h4, if_neg (by omega), g4, if_neg (by omega), d4, if_neg (by omega), c4, if_neg (by omega), b4, if_neg (by omega), a4, if_neg (by omega), v_rdn (by decide)]
theorem mark_core {N : Nat} (hN : 1000 ≤ N) {k : Nat} (hk : k < 4) {M B : v_M} {q np nm d : Nat} (hq : 150 ≤ q) (hb : ∀ c, c < 150 → B.1 c = M.1 c) (hd9 : d ≤ 9999) (t1 : M.1 0 0 = nI d) (t2 : M.1 79 1 = nI d) (hd : J_drawc M np) (hf : J_fleetc M np nm) : ∃ A M2 : v_M, f_X4_become N q 11 B = some (0, A) ∧ f_X12_mark N (nI k) (v_wr A 78 k (A.1 0 0)) = some (A.1 0 0, M2) ∧ A.1 0 0 = nI d ∧ mkd M2 q k np nm d ∧ (∀ c j, (c < q ∨ q + 6 < c) → c ∉ [78, 145, 146, 147, 148, 149] → (c, j) ∉ [(79, 91), (79, 92)] → M2.1 c j = B.1 c j) ∧ (∀ c, c ∉ [78, 145, 146, 147, 148, 149] → M2.2 c = B.2 c) ∧ (∀ k', k' ≠ k → M2.1 78 k' = B.1 78 k' ∧ M2.1 146 k' = B.1 146 k' ∧ M2.1 147 k' = B.1 147 k' ∧ M2.1 148 k' = B.1 148 k' ∧ M2.1 149 k' = B.1 149 k') ∧ ∀ j, j < 2000 * k ∨ 2000 * k + 1960 ≤ j → M2.1 145 j = B.1 145 j := by
  obtain ⟨A, a1, a2, a3, a4, a5, a6, -⟩ := e_become N q 11 (by omega) B
  have low : ∀ c, c < 150 → A.1 c = M.1 c := fun c hc => by rw [a5 c (by omega), hb c hc]
  have e00 : A.1 0 0 = nI d := by rw [low 0 (by omega), t1]
  have fr : v_fr [78, 146, 147, 148, 149] [(79, 92)] A (v_wr (v_wr (v_wr (v_wr (v_wr (v_wr A 78 k (nI d)) 149 k 1) 148 k (nI d)) 146 k (nI np)) 147 k (nI nm)) 79 92 0) := v_fro (by decide) (v_frw (by decide) (v_frw (by decide) (v_frw (by decide) (v_frw (by decide) (v_frw (by decide) v_frR)))))
  obtain ⟨C, c1, c2, c3, c4, c5⟩ := e_carS hN hk (M := v_wr (v_wr (v_wr (v_wr (v_wr (v_wr A 78 k (nI d)) 149 k 1) 148 k (nI d)) 146 k (nI np)) 147 k (nI nm)) 79 92 0) (by rw [v_rd, if_pos ⟨rfl, rfl⟩])
  have rk : ∀ j, C.1 78 j = (if j = k then nI d else A.1 78 j) ∧ C.1 149 j = (if j = k then 1 else A.1 149 j) ∧ C.1 148 j = (if j = k then nI d else A.1 148 j) ∧ C.1 146 j = (if j = k then nI np else A.1 146 j) ∧ C.1 147 j = (if j = k then nI nm else A.1 147 j) := fun j => by
    rw [v_keepR c2 78 (by decide), v_keepR c2 146 (by decide), v_keepR c2 147 (by decide), v_keepR c2 148 (by decide), v_keepR c2 149 (by decide)]
    simp only [v_rd, Nat.reduceEqDiff, false_and, if_false, true_and, and_self]
  have qk : ∀ c, 150 ≤ c → C.1 c = A.1 c := fun c hc => by
    rw [v_keepR c2 c (by simp; omega), v_keepR fr c (by simp; omega)]
  have r88 : ∀ c, c ∈ [88, 89, 90, 91, 92, 93] → (v_wr (v_wr (v_wr (v_wr (v_wr (v_wr A 78 k (nI d)) 149 k 1) 148 k (nI d)) 146 k (nI np)) 147 k (nI nm)) 79 92 0).1 c = M.1 c := fun c hc => by
    have : c < 150 ∧ c ≠ 78 ∧ c ≠ 146 ∧ c ≠ 147 ∧ c ≠ 148 ∧ c ≠ 149 ∧ c ≠ 79 := by
      simp only [List.mem_cons, List.not_mem_nil, or_false] at hc
      omega
    rw [v_wr_n (by omega), v_wr_n (by omega), v_wr_n (by omega), v_wr_n (by omega), v_wr_n (by omega), v_wr_n (by omega), low c this.1]
  refine ⟨A, C, a1, ?_, e00, ⟨⟨?_, ?_, ?_, ?_, ?_, ?_⟩, ?_, ?_⟩, fun c j h1 h2 h3 => ?_, fun c h2 => ?_, fun k' hk' => ?_, fun j hj => ?_⟩
  · unfold f_X12_mark
    rw [show (0 : Int64) = (0 : Int32).toInt64 from rfl, show (3 : Int64) = (3 : Int32).toInt64 from rfl, e_in2, Option.bind_some, v_wiTe (show (0 : Int32) ≤ nI k ∧ nI k ≤ 3 from ⟨nI_le (a := 0) (by omega) (by omega), nI_le (b := 3) (by omega) (by omega)⟩)]
    simp only [v_ibN (show k < 4 by omega) (show 4 < 2 ^ 31 by omega), nI_clamp (show k < 2 ^ 31 by omega), v_ckT, v_letE, v_rdn, ne_eq, Nat.reduceEqDiff, not_false_eq_true, v_b0, show vp_nar .boolean (1 : Int32) = 1 from rfl, low 79 (by omega), t2, hd.2.2.1, hf.2.1, e00]
    rw [c1, Option.bind_some, v_keepC c2 79 1 (by decide), v_keepC fr 79 1 (by decide), low 79 (by omega), t2]
  · rw [(rk k).2.1, if_pos rfl]
  · rw [(rk k).1, if_pos rfl]
  · rw [(rk k).2.2.1, if_pos rfl]
  · rw [(rk k).2.2.2.1, if_pos rfl]
  · rw [(rk k).2.2.2.2, if_pos rfl]
  · rw [qk q hq, a2, hb 11 (by omega), hf.1]
  · refine JFa_c hf.2.2.1 (fun i hi => ?_) (fun i hi => ?_)
    · obtain ⟨u1, u2, u3, u4⟩ := a3 i hi
      rw [qk (q + 1) (by omega), qk (q + 2) (by omega), qk (q + 3) (by omega), qk (q + 4) (by omega), u1, u2, u3, u4, hb (11 + 1) (by omega), hb (11 + 2) (by omega), hb (11 + 3) (by omega), hb (11 + 4) (by omega)]
      exact ⟨rfl, rfl, rfl, rfl⟩
    · obtain ⟨u1, u2⟩ := a4 i hi
      rw [qk (q + 5) (by omega), qk (q + 6) (by omega), u1, u2, hb (11 + 5) (by omega), hb (11 + 6) (by omega)]
      exact ⟨rfl, rfl⟩
  · refine JFb_c hf.2.2.1.1 hf.2.2.2 (fun i hi => ?_) (fun i hi => ?_) (fun i hi => ?_) (fun i hi => ?_)
    · obtain ⟨u1, u2, u3, u4⟩ := a3 i hi
      rw [qk (q + 1) (by omega), qk (q + 2) (by omega), qk (q + 3) (by omega), qk (q + 4) (by omega), u1, u2, u3, u4, hb (11 + 1) (by omega), hb (11 + 2) (by omega), hb (11 + 3) (by omega), hb (11 + 4) (by omega)]
      exact ⟨rfl, rfl, rfl, rfl⟩
    · obtain ⟨u1, u2⟩ := a4 i hi
      rw [qk (q + 5) (by omega), qk (q + 6) (by omega), u1, u2, hb (11 + 5) (by omega), hb (11 + 6) (by omega)]
      exact ⟨rfl, rfl⟩
    · obtain ⟨u1, u2, u3, u4⟩ := c3 i hi
      rw [u1, u2, u3, u4, r88 88 (by decide), r88 89 (by decide), r88 90 (by decide), r88 91 (by decide)]
      exact ⟨rfl, rfl, rfl, rfl⟩
    · obtain ⟨u1, u2⟩ := c4 i hi
      rw [u1, u2, r88 92 (by decide), r88 93 (by decide)]
      exact ⟨rfl, rfl⟩
  · rw [c2.1 c j (fun z => h2 (by rw [List.mem_singleton] at z; rw [z]; decide)) (fun z => h3 (by rw [List.mem_singleton] at z; rw [z]; decide)), fr.1 c j (fun z => h2 (by simp only [List.mem_cons, List.not_mem_nil, or_false] at z ⊢; omega)) (fun z => h3 (by rw [List.mem_singleton] at z; rw [z]; decide)), a5 c h1]
  · rw [c2.2 c (fun z => h2 (by rw [List.mem_singleton] at z; rw [z]; decide)), fr.2 c (fun z => h2 (by simp only [List.mem_cons, List.not_mem_nil, or_false] at z ⊢; omega)), a6]
  · obtain ⟨u1, u2, u3, u4, u5⟩ := rk k'
    rw [u1, u2, u3, u4, u5, if_neg hk', if_neg hk', if_neg hk', if_neg hk', if_neg hk', a5 78 (by omega), a5 146 (by omega), a5 147 (by omega), a5 148 (by omega), a5 149 (by omega)]
    exact ⟨rfl, rfl, rfl, rfl, rfl⟩
  · rw [c5 j hj, v_wr_n (by decide), v_wr_n (by decide), v_wr_n (by decide), v_wr_n (by decide), v_wr_n (by decide), v_wr_n (by decide), a5 145 (by omega)]
