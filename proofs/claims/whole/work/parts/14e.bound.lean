/-! all clauses, all orders -/
theorem e_cls {N : Nat} (hN : 500 ≤ N) {q o dn dg nc m : Nat} (hq : q = 41 ∨ 150 ≤ q) (ho : o < 12) (hdn : dn < 1024) {M : v_M} {L : List Op} (hcd : J_code M q o L) (hnc : nc ≤ 12) (e1 : M.1 q 2 = nI nc) (e2 : M.1 112 o = nI nc) (hcl : ∀ c, c < nc → J_cl M q o L c) (hnow : M.1 79 1 - M.1 111 o = nI dg) (hdg : dg ≤ 9999) {F : Nat → Int} (hFo : Fok F) : ∀ (s c f f' : Nat) (A : v_M) (ow la lo gr : Int32) (fo : Int), c + s = nc → s < f → s < f' → v_fr bdW [] M A → (∀ k, k < 7 → (A.1 50 k).toInt = F k) → (-100000000 ≤ fo ∧ fo ≤ 999) → BC A dn ow la lo gr fo → ∃ (A' : v_M) (ow' la' lo' gr' : Int32) (fo' : Int), f_X0_bindBy_L14 N q f (nI dg) (nI c) A = some (0, A') ∧ v_fr bdW [] M A' ∧ A'.1 50 = A.1 50 ∧ (-100000000 ≤ fo' ∧ fo' ≤ 999) ∧ BC A' dn ow' la' lo' gr' fo' ∧ ∀ (K : Int32 → Int32 → Int32 → v_M → Option (Int32 × v_M)) (B : v_M), v_fr bdV bdO M B → (∀ k, k < 7 → (B.2 120 k).toInt = F k) → BR B ow la lo gr fo → ∃ B' : v_M, f_X12_binds_L236 N K f' (nI m) (nI dn) (nI o) 1 (nI (12 * o + c)) B = K (nI m) (nI dn) (nI (o + 1)) B' ∧ v_fr bdV bdO M B' ∧ B'.2 120 = B.2 120 ∧ BR B' ow' la' lo' gr' fo' := by
  have q49 : ∀ j, j ≤ 6 → (bdW.contains (q + j) || ([] : List (Nat × Nat)).any (fun p => p.1 == q + j)) = false := fun j hj => by simp [bdW]; omega
  have q49' : (bdW.contains q || ([] : List (Nat × Nat)).any (fun p => p.1 == q)) = false := q49 0 (by omega)
  intro s
  induction s with
  | zero =>
    intro c f f' A ow la lo gr fo hc hf hf' fr hF hfo hb
    obtain ⟨f, rfl⟩ : ∃ q, f = q + 1 := ⟨f - 1, by omega⟩
    obtain ⟨f', rfl⟩ : ∃ q, f' = q + 1 := ⟨f' - 1, by omega⟩
    refine ⟨A, ow, la, lo, gr, fo, ?_, fr, rfl, hfo, hb, fun K B hB hFB hR => ⟨B, ?_, hB, rfl, hR⟩⟩
    · rw [f_X0_bindBy_L14, v_keepR fr q q49', e1, if_pos (nI_le (by omega) (by omega))]
    · rw [f_X12_binds_L236, v_ibN ho (show 12 < 2 ^ 31 by omega), v_ckT, nI_clamp (show o < 2 ^ 31 by omega), v_keepR hB 112 (by decide), e2, show (12 : Int32) = nI 12 from rfl, nI_mul, nI_add, if_pos (nI_le (by omega) (by omega)), f_X12_binds_L312, nI_1]
  | succ s ih =>
    intro c f f' A ow la lo gr fo hc hf hf' fr hF hfo hb
    obtain ⟨f, rfl⟩ : ∃ q, f = q + 1 := ⟨f - 1, by omega⟩
    obtain ⟨f', rfl⟩ : ∃ q, f' = q + 1 := ⟨f' - 1, by omega⟩
    have hcc : c < 12 := by omega
    have h300 := hcd.1
    have jcl := hcl c (by omega)
    obtain ⟨ft, tt, ⟨f1, f2⟩, ⟨t1, t2, t3, t4⟩, tw, -⟩ := id jcl
    have l14 : f_X0_bindBy_L14 N q (f + 1) (nI dg) (nI c) A = if nI ft = nI tt then f_X0_bindBy_L63 N q (f_X0_bindBy_L14 N q f) (nI dg) (nI c) A else ((f_X0_valueOf N q (nI ft) (nI tt) A).bind fun z3 => if z3.1 = 0 then f_X0_bindBy_L14 N q f (nI dg) (nI (c + 1)) z3.2 else f_X0_bindBy_L63 N q (f_X0_bindBy_L14 N q f) (nI dg) (nI c) z3.2) := by
      rw [f_X0_bindBy_L14, v_keepR fr q q49', e1, if_neg (nI_ge (show c < nc by omega) (by omega)), if_neg (show ¬ (12 : Int32) ≤ nI c from nI_ge (b := 12) (by omega) (by omega))]
      simp only [v_ibN hcc (show 12 < 2 ^ 31 by omega), nI_clamp (show c < 2 ^ 31 by omega), v_ckT, v_letE, v_keepR fr (q + 4) (q49 4 (by omega)), v_keepR fr (q + 5) (q49 5 (by omega)), t1, t2, f_X0_bindBy_L70, nI_1]
    have l236 : ∀ (K : Int32 → Int32 → Int32 → v_M → Option (Int32 × v_M)) (B : v_M), v_fr bdV bdO M B → f_X12_binds_L236 N K (f' + 1) (nI m) (nI dn) (nI o) 1 (nI (12 * o + c)) B = if nI ft = nI tt then f_X12_binds_L298 N K (f_X12_binds_L236 N K f') (nI m) (nI dn) (nI o) 1 (nI (12 * o + c)) B else ((f_X12_answer N (nI o) (nI ft) (nI tt) B).bind fun z1 => if lg_cmp z1.1 (1 : Int64) = 0 then f_X12_binds_L298 N K (f_X12_binds_L236 N K f') (nI m) (nI dn) (nI o) 1 (nI (12 * o + c)) z1.2 else f_X12_binds_L236 N K f' (nI m) (nI dn) (nI o) 1 (nI (12 * o + (c + 1))) z1.2) := fun K B hB => by
      rw [f_X12_binds_L236, v_ibN ho (show 12 < 2 ^ 31 by omega), v_ckT, nI_clamp (show o < 2 ^ 31 by omega), v_keepR hB 112 (by decide), e2, show (12 : Int32) = nI 12 from rfl, nI_mul, nI_add, if_neg (nI_ge (by omega) (by omega)), if_neg (show ¬ (1 : Int32) = 0 by decide)]
      simp only [v_ibN (show 12 * o + c < 144 by omega) (show 144 < 2 ^ 31 by omega), nI_clamp (show 12 * o + c < 2 ^ 31 by omega), v_ckT, v_keepR hB 117 (by decide), v_keepR hB 118 (by decide), t3, t4, f_X12_binds_L306, nI_1, Nat.add_assoc]
    -- the clause binds
    have bind : ∀ A1, v_fr bdW [] M A1 → (∀ k, k < 7 → (A1.1 50 k).toInt = F k) → BC A1 dn ow la lo gr fo → ∃ (A' : v_M) (ow' la' lo' gr' : Int32) (fo' : Int), f_X0_bindBy_L63 N q (f_X0_bindBy_L14 N q f) (nI dg) (nI c) A1 = some (0, A') ∧ v_fr bdW [] M A' ∧ A'.1 50 = A1.1 50 ∧ (-100000000 ≤ fo' ∧ fo' ≤ 999) ∧ BC A' dn ow' la' lo' gr' fo' ∧ ∀ (K : Int32 → Int32 → Int32 → v_M → Option (Int32 × v_M)) (B : v_M), v_fr bdV bdO M B → (∀ k, k < 7 → (B.2 120 k).toInt = F k) → BR B ow la lo gr fo → ∃ B' : v_M, f_X12_binds_L298 N K (f_X12_binds_L236 N K f') (nI m) (nI dn) (nI o) 1 (nI (12 * o + c)) B = K (nI m) (nI dn) (nI (o + 1)) B' ∧ v_fr bdV bdO M B' ∧ B'.2 120 = B.2 120 ∧ BR B' ow' la' lo' gr' fo' := fun A1 fr1 hF1 hb1 => by
      obtain ⟨A2, ow2, la2, lo2, gr2, fo2, g1, g2, g3, g4, g5, g6⟩ := e_clause hN hq ho hcc hdn hcd jcl hnow hdg fr1 hFo hF1 hfo hb1
      obtain ⟨A3, ow3, la3, lo3, gr3, fo3, k1, k2, k3, k4, k5, k6⟩ := ih (c + 1) f f' A2 ow2 la2 lo2 gr2 fo2 (by omega) (by omega) (by omega) g2 (fun k hk => by rw [g3]; exact hF1 k hk) g4 g5
      refine ⟨A3, ow3, la3, lo3, gr3, fo3, ?_, k2, by rw [k3, g3], k4, k5, fun K B hB hFB hR => ?_⟩
      · unfold f_X0_bindBy_L63 f_X0_bindBy_L70
        rw [g1, Option.bind_some, nI_1]
        exact k1
      · obtain ⟨B2, j1, j2, j3, j4⟩ := g6 B hB hFB hR
        obtain ⟨B3, y1, y2, y3, y4⟩ := k6 K B2 j2 (fun k hk => by rw [j3]; exact hFB k hk) j4
        refine ⟨B3, ?_, y2, by rw [y3, j3], y4⟩
        unfold f_X12_binds_L298 f_X12_binds_L306
        rw [j1, Option.bind_some, nI_1]
        exact y1
    rw [l14]
    by_cases eq : ft = tt
    · rw [if_pos (by rw [eq])]
      obtain ⟨A', ow', la', lo', gr', fo', g1, g2, g3, g4, g5, g6⟩ := bind A fr hF hb
      refine ⟨A', ow', la', lo', gr', fo', g1, g2, g3, g4, g5, fun K B hB hFB hR => ?_⟩
      rw [l236 K B hB, if_pos (by rw [eq])]
      exact g6 K B hB hFB hR
    · have ne : ¬ nI ft = nI tt := fun z => eq ((nI_eqX (by omega) (by omega)).mp z)
      obtain ⟨v, v1, v2⟩ := tw (by omega) F hFo
      obtain ⟨r, A1, a1, a2, a3⟩ := e_value hN hq f1 f2 hcd fr hF v2
      have fr1 : v_fr bdW [] M A1 := v_frt (by decide) (by decide) fr a2
      have hb1 : BC A1 dn ow la lo gr fo := by
        unfold BC at hb ⊢
        rw [v_keepR a2 49 (by decide)]
        exact hb
      have hF1 : ∀ k, k < 7 → (A1.1 50 k).toInt = F k := fun k hk => by rw [v_keepR a2 50 (by decide)]; exact hF k hk
      have hB1 : ∀ B B1 : v_M, v_fr [121] [] B B1 → v_fr bdV bdO M B → BR B ow la lo gr fo → v_fr bdV bdO M B1 ∧ B1.2 120 = B.2 120 ∧ BR B1 ow la lo gr fo := fun B B1 c2 hB hR => by
        refine ⟨v_frt (by decide) (by decide) hB c2, c2.2 120 (by decide), ?_⟩
        unfold BR at hR ⊢
        rw [v_keepR c2 79 (by decide)]
        exact hR
      rw [if_neg ne, a1, Option.bind_some]
      rcases v1 with v1 | v1
      · have r0 : r = 0 := i_eq.mpr (by rw [a3, v1]; rfl)
        rw [if_pos r0]
        obtain ⟨A', ow', la', lo', gr', fo', g1, g2, g3, g4, g5, g6⟩ := ih (c + 1) f f' A1 ow la lo gr fo (by omega) (by omega) (by omega) fr1 hF1 hfo hb1
        refine ⟨A', ow', la', lo', gr', fo', g1, g2, by rw [g3, v_keepR a2 50 (by decide)], g4, g5, fun K B hB hFB hR => ?_⟩
        obtain ⟨l, B1, c1, c2, c3⟩ := e_answer hN ho f1 f2 hcd hB hFB v2
        obtain ⟨d1, d2, d3⟩ := hB1 B B1 c2 hB hR
        have nl : ¬ lg_cmp l (1 : Int64) = 0 := fun z => by
          have h1 : ¬ (lg_cmp l (1 : Int64) < 0) := by rw [z]; decide
          rw [lg_cmp_lt, Int64.lt_iff_toInt_lt, c3, v1, show (1 : Int64).toInt = 1 from rfl] at h1
          omega
        obtain ⟨B2, y1, y2, y3, y4⟩ := g6 K B1 d1 (fun k hk => by rw [d2]; exact hFB k hk) d3
        refine ⟨B2, ?_, y2, by rw [y3, d2], y4⟩
        rw [l236 K B hB, if_neg ne, c1, Option.bind_some, if_neg nl]
        exact y1
      · have r1 : ¬ r = 0 := fun z => by rw [z, v1] at a3; exact absurd a3 (by decide)
        rw [if_neg r1]
        obtain ⟨A', ow', la', lo', gr', fo', g1, g2, g3, g4, g5, g6⟩ := bind A1 fr1 hF1 hb1
        refine ⟨A', ow', la', lo', gr', fo', g1, g2, by rw [g3, v_keepR a2 50 (by decide)], g4, g5, fun K B hB hFB hR => ?_⟩
        obtain ⟨l, B1, c1, c2, c3⟩ := e_answer hN ho f1 f2 hcd hB hFB v2
        obtain ⟨d1, d2, d3⟩ := hB1 B B1 c2 hB hR
        have nl : lg_cmp l (1 : Int64) = 0 := by
          have h1 : ¬ (lg_cmp l (1 : Int64) < 0) := by rw [lg_cmp_lt, Int64.lt_iff_toInt_lt, c3, v1, show (1 : Int64).toInt = 1 from rfl]; omega
          have h2 : ¬ (0 < lg_cmp l (1 : Int64)) := by rw [lg_cmp_gt, Int64.lt_iff_toInt_lt, c3, v1, show (1 : Int64).toInt = 1 from rfl]; omega
          rw [i_lt, i0] at h1 h2
          rw [i_eq, i0]
          omega
        obtain ⟨B2, y1, y2, y3, y4⟩ := g6 K B1 d1 (fun k hk => by rw [d2]; exact hFB k hk) d3
        refine ⟨B2, ?_, y2, by rw [y3, d2], y4⟩
        rw [l236 K B hB, if_neg ne, c1, Option.bind_some, if_pos nl]
        exact y1
def J_ordc (P : v_P) (M : v_M) (no : Nat) : Prop := (no ≤ 12 ∧ M.1 0 1 = nI no ∧ M.1 79 35 = nI no) ∧ (∀ o, o < no → ∃ (q : Nat) (L : List Op), P 48 o = some q ∧ (q = 41 ∨ 150 ≤ q) ∧ J_or1 M q o L) ∧ (∀ o o' q, o < no → o' < no → P 48 o = some q → P 48 o' = some q → o = o') ∧ ∀ o q, o < no → P 48 o = some q → P 35 1 ≠ some q
theorem e_ords {N : Nat} (hN : 500 ≤ N) {P : v_P} {M : v_M} {no nm np m dn d : Nat} (hm : m < nm) (hf : J_fleetc M np nm) (hO : J_ordc P M no) (hdn : dn < 1024) (hd : d ≤ 9999) (t1 : M.1 0 0 = nI d) (t2 : M.1 79 1 = nI d) {F : Nat → Int} (hFo : ∀ k, k < 6 → 0 ≤ F k ∧ F k ≤ 1000000) : ∀ (s o f f' : Nat) (A : v_M) (ow la lo gr : Int32) (fo : Int), o + s = no → s < f → s < f' → v_fr bdW [] M A → (∀ k, k < 6 → (A.1 50 k).toInt = F k) → (-100000000 ≤ fo ∧ fo ≤ 999) → BC A dn ow la lo gr fo → ∃ (A' : v_M) (ow' la' lo' gr' : Int32) (fo' : Int), f_X11_gatherBinding_L34 N P f (nI m) (nI o) A = some (0, A') ∧ v_fr bdW [] M A' ∧ (-100000000 ≤ fo' ∧ fo' ≤ 999) ∧ BC A' dn ow' la' lo' gr' fo' ∧ ∀ B : v_M, v_fr bdV bdO M B → (∀ k, k < 6 → (B.2 120 k).toInt = F k) → BR B ow la lo gr fo → ∃ B' : v_M, f_X12_binds_L150 N f' (nI m) (nI dn) (nI o) B = some (0, B') ∧ v_fr bdV bdO M B' ∧ BR B' ow' la' lo' (if gr' = 0 ∧ la' = 0 then 0 else 1) fo' := by
  obtain ⟨⟨n12, o1, o2⟩, oo, -, -⟩ := hO
  have h20 : nm ≤ 20 := hf.2.2.1.1
  intro s
  induction s with
  | zero =>
    intro o f f' A ow la lo gr fo ho hf1 hf2 fr hF hfo hb
    obtain ⟨f, rfl⟩ : ∃ q, f = q + 1 := ⟨f - 1, by omega⟩
    obtain ⟨f', rfl⟩ : ∃ q, f' = q + 1 := ⟨f' - 1, by omega⟩
    refine ⟨A, ow, la, lo, gr, fo, ?_, fr, hfo, hb, fun B hB hFB hR => ?_⟩
    · rw [f_X11_gatherBinding_L34, v_keepC fr 0 1 (by decide), o1, if_pos (nI_le (by omega) (by omega))]
    · obtain ⟨q0, q1, q2, q3, q4⟩ := hR
      have st : f_X12_binds_L150 N (f' + 1) (nI m) (nI dn) (nI o) B = some (0, v_wr B 79 59 (if gr = 0 ∧ la = 0 then 0 else 1)) := by
        rw [f_X12_binds_L150, v_keepC hB 79 35 (by decide), o2, if_pos (nI_le (by omega) (by omega)), q3, q1]
        unfold f_X12_binds_L333
        simp only [v_b0, v_b1, v_ckT, v_letE]
        by_cases z1 : gr = 0
        · rw [if_pos z1]
          by_cases z2 : la = 0
          · rw [if_pos z2, if_pos ⟨z1, z2⟩]
          · rw [if_neg z2, if_neg (fun y => z2 y.2)]
        · rw [if_neg z1, if_neg (fun y => z1 y.1)]
      refine ⟨_, st, v_fro (by decide) hB, ?_⟩
      unfold BR
      simp only [v_rd, true_and, Nat.reduceEqDiff, if_false, if_true, q0, q1, q2, q4, and_self]
  | succ s ih =>
    intro o f f' A ow la lo gr fo ho hf1 hf2 fr hF hfo hb
    obtain ⟨f, rfl⟩ : ∃ q, f = q + 1 := ⟨f - 1, by omega⟩
    obtain ⟨f', rfl⟩ : ∃ q, f' = q + 1 := ⟨f' - 1, by omega⟩
    have o12 : o < 12 := by omega
    obtain ⟨q, L, p1, p2, p3, ⟨dd, p4, p5, p6⟩, p7, nc, p8, p9, p10, p11⟩ := oo o (by omega)
    have q49 : (bdW.contains q || ([] : List (Nat × Nat)).any (fun p => p.1 == q)) = false := by simp [bdW]; omega
    have tk : A.1 17 m = M.1 17 m := by rw [v_keepR fr 17 (by decide)]
    have a11 : A.1 11 0 = nI nm := by rw [v_keepR fr 11 (by decide)]; exact hf.1
    have hT : f_X4_hasTaken N 11 (nI m) (nI o) A = some (v01 (decide ((M.1 17 m >>> (nI o &&& 31)) &&& 1 = 1)), A) := by
      unfold f_X4_hasTaken
      rw [e_within, Option.bind_some, a11, v_wiTe (i_idx' (by omega) hm)]
      simp only [v_ibN (show m < 20 by omega) (show 20 < 2 ^ 31 by omega), nI_clamp (show m < 2 ^ 31 by omega), v_ckT, Nat.reduceAdd, tk]
      by_cases y : (M.1 17 m >>> (nI o &&& 31)) &&& 1 = 1
      · rw [if_pos y, decide_eq_true y]; rfl
      · rw [if_neg y, decide_eq_false y]; rfl
    -- not bound
    have skip : ∃ (A' : v_M) (ow' la' lo' gr' : Int32) (fo' : Int), f_X11_gatherBinding_L34 N P f (nI m) (nI (o + 1)) A = some (0, A') ∧ v_fr bdW [] M A' ∧ (-100000000 ≤ fo' ∧ fo' ≤ 999) ∧ BC A' dn ow' la' lo' gr' fo' ∧ ∀ B : v_M, v_fr bdV bdO M B → (∀ k, k < 6 → (B.2 120 k).toInt = F k) → BR B ow la lo gr fo → ∃ B' : v_M, f_X12_binds_L208 N (f_X12_binds_L150 N f') (nI m) (nI dn) (nI o) B = some (0, B') ∧ v_fr bdV bdO M B' ∧ BR B' ow' la' lo' (if gr' = 0 ∧ la' = 0 then 0 else 1) fo' := by
      obtain ⟨A', ow', la', lo', gr', fo', g1, g2, g3, g4, g5⟩ := ih (o + 1) f f' A ow la lo gr fo (by omega) (by omega) (by omega) fr hF hfo hb
      refine ⟨A', ow', la', lo', gr', fo', g1, g2, g3, g4, fun B hB hFB hR => ?_⟩
      have f120 : v_fr bdV bdO M (v_wl B 120 6 (B.1 79 1 - B.1 111 o).toInt64) := v_frl (by decide) hB
      obtain ⟨B', k1, k2, k3⟩ := g5 (v_wl B 120 6 (B.1 79 1 - B.1 111 o).toInt64) f120 (fun k hk => by rw [wl_r, if_neg (by omega)]; exact hFB k hk) hR
      refine ⟨B', ?_, k2, k3⟩
      unfold f_X12_binds_L208 f_X12_binds_L209
      rw [v_ibN o12 (show 12 < 2 ^ 31 by omega), v_ckT, show v_ib (6 : Int32) 7 = true from rfl, v_ckT, v_letE, v_letE, nI_clamp (show o < 2 ^ 31 by omega), show (6 : Int32).toNatClampNeg = 6 from rfl]
      obtain ⟨N', rfl⟩ : ∃ q, N = q + 1 := ⟨N - 1, by omega⟩
      rw [f_X12_binds_L236]
      simp only [v_ibN o12 (show 12 < 2 ^ 31 by omega), v_ckT, if_true, f_X12_binds_L312, nI_1]
      split <;> exact k1
    -- bound
    have take : dd ≤ d → ∃ (A' : v_M) (ow' la' lo' gr' : Int32) (fo' : Int), f_X11_gatherBinding_L91 N P (f_X11_gatherBinding_L34 N P f) (nI m) (nI o) q A = some (0, A') ∧ v_fr bdW [] M A' ∧ (-100000000 ≤ fo' ∧ fo' ≤ 999) ∧ BC A' dn ow' la' lo' gr' fo' ∧ ∀ B : v_M, v_fr bdV bdO M B → (∀ k, k < 6 → (B.2 120 k).toInt = F k) → BR B ow la lo gr fo → ∃ B' : v_M, f_X12_binds_L204 N (f_X12_binds_L150 N f') (nI m) (nI dn) (nI o) B = some (0, B') ∧ v_fr bdV bdO M B' ∧ BR B' ow' la' lo' (if gr' = 0 ∧ la' = 0 then 0 else 1) fo' := fun hdd => by
      have hnow : M.1 79 1 - M.1 111 o = nI (d - dd) := by rw [t2, p6, nI_sub hdd (by omega)]
      have frA : v_fr bdW [] M (v_wr A 50 6 (nI (d - dd))) := v_frw (by decide) fr
      have hFk : Fok (fun k => if k = 6 then ((d - dd : Nat) : Int) else F k) := fun k hk => by
        show 0 ≤ (if k = 6 then ((d - dd : Nat) : Int) else F k) ∧ (if k = 6 then ((d - dd : Nat) : Int) else F k) ≤ 1000000
        by_cases y : k = 6
        · rw [if_pos y]; omega
        · rw [if_neg y]; exact hFo k (by omega)
      obtain ⟨A1, ow1, la1, lo1, gr1, fo1, g1, g2, g3, g4, g5, g6⟩ := e_cls hN (m := m) p2 o12 hdn p7 p8 p9 p10 p11 hnow (by omega) hFk nc 0 N N (v_wr A 50 6 (nI (d - dd))) ow la lo gr fo (by omega) (by omega) (by omega) frA (fun k hk => by
        rw [v_rd]
        show _ = if k = 6 then ((d - dd : Nat) : Int) else F k
        by_cases y : k = 6
        · rw [if_pos ⟨rfl, y⟩, if_pos y, nI_toInt (by omega)]
        · rw [if_neg (fun z => y z.2), if_neg y]; exact hF k (by omega)) hfo (by
        unfold BC at hb ⊢
        rw [v_wr_n (by decide)]
        exact hb)
      obtain ⟨A2, ow2, la2, lo2, gr2, fo2, k1, k2, k3, k4, k5⟩ := ih (o + 1) f f' A1 ow1 la1 lo1 gr1 fo1 (by omega) (by omega) (by omega) g2 (fun k hk => by
        rw [g3, v_rd, if_neg (fun z => by omega)]
        exact hF k hk) g4 g5
      refine ⟨A2, ow2, la2, lo2, gr2, fo2, ?_, k2, k3, k4, fun B hB hFB hR => ?_⟩
      · unfold f_X11_gatherBinding_L91 f_X11_gatherBinding_L108 f_X0_bindBy
        rw [v_keepR fr 0 (by decide), v_keepR fr q q49, t1, p5, nI_sub hdd (by omega), show v_ib (6 : Int32) 7 = true from rfl, v_ckT, v_letE, show (6 : Int32).toNatClampNeg = 6 from rfl, show v_mx 0 (nI (d - dd)) = nI (d - dd) from by
          unfold v_mx
          by_cases z : 0 < nI (d - dd)
          · rw [if_pos z]
          · rw [if_neg z]
            rw [i_lt, i0, nI_toInt (by omega)] at z
            rw [show d - dd = 0 by omega]
            rfl]
        rw [show nI 0 = 0 from rfl] at g1
        rw [g1, Option.bind_some, nI_1]
        exact k1
      · have e111 : B.1 79 1 - B.1 111 o = nI (d - dd) := by rw [v_keepC hB 79 1 (by decide), v_keepR hB 111 (by decide), hnow]
        have f120 : v_fr bdV bdO M (v_wl B 120 6 (nI (d - dd)).toInt64) := v_frl (by decide) hB
        obtain ⟨B1, j1, j2, j3, j4⟩ := g6 (f_X12_binds_L150 N f') (v_wl B 120 6 (nI (d - dd)).toInt64) f120 (fun k hk => by
          rw [wl_r]
          show _ = if k = 6 then ((d - dd : Nat) : Int) else F k
          by_cases y : k = 6
          · rw [if_pos y, if_pos y, Int32.toInt_toInt64, nI_toInt (by omega)]
          · rw [if_neg y, if_neg y]; exact hFB k (by omega)) hR
        obtain ⟨B2, y1, y2, y3⟩ := k5 B1 j2 (fun k hk => by rw [j3, wl_r, if_neg (by omega)]; exact hFB k hk) j4
        refine ⟨B2, ?_, y2, y3⟩
        unfold f_X12_binds_L204 f_X12_binds_L209
        rw [v_ibN o12 (show 12 < 2 ^ 31 by omega), v_ckT, show v_ib (6 : Int32) 7 = true from rfl, v_ckT, v_letE, v_letE, nI_clamp (show o < 2 ^ 31 by omega), show (6 : Int32).toNatClampNeg = 6 from rfl, e111, show (12 : Int32) = nI 12 from rfl, nI_mul]
        have j1' := j1
        rw [Nat.add_zero] at j1'
        rw [j1']
        exact y1
    have lA : f_X11_gatherBinding_L34 N P (f + 1) (nI m) (nI o) A = if nI d < nI dd then f_X11_gatherBinding_L34 N P f (nI m) (nI (o + 1)) A else (if M.1 q 0 = 0 then f_X11_gatherBinding_L91 N P (f_X11_gatherBinding_L34 N P f) (nI m) (nI o) q A else (if M.1 q 0 = 1 then (if decide ((M.1 17 m >>> (nI o &&& 31)) &&& 1 = 1) = true then f_X11_gatherBinding_L91 N P (f_X11_gatherBinding_L34 N P f) (nI m) (nI o) q A else f_X11_gatherBinding_L34 N P f (nI m) (nI (o + 1)) A) else f_X11_gatherBinding_L34 N P f (nI m) (nI (o + 1)) A)) := by
      rw [f_X11_gatherBinding_L34, v_keepC fr 0 1 (by decide), o1, if_neg (nI_ge (show o < no by omega) (by omega)), v_ibN o12 (show 12 < 2 ^ 31 by omega), v_ckT, nI_clamp (show o < 2 ^ 31 by omega), p1]
      simp only [v_opt, v_keepR fr 0 (by decide), v_keepR fr q q49, t1, p5, hT, Option.bind_some, v01_0, f_X11_gatherBinding_L108, nI_1]
    have lB : ∀ B, v_fr bdV bdO M B → f_X12_binds_L150 N (f' + 1) (nI m) (nI dn) (nI o) B = if nI d < nI dd then f_X12_binds_L208 N (f_X12_binds_L150 N f') (nI m) (nI dn) (nI o) B else (if M.1 q 0 = 0 then f_X12_binds_L204 N (f_X12_binds_L150 N f') (nI m) (nI dn) (nI o) B else (if M.1 q 0 = 1 then (if ((M.1 17 m >>> (nI o &&& 31)) &&& 1) = 1 then f_X12_binds_L204 N (f_X12_binds_L150 N f') (nI m) (nI dn) (nI o) B else f_X12_binds_L208 N (f_X12_binds_L150 N f') (nI m) (nI dn) (nI o) B) else f_X12_binds_L208 N (f_X12_binds_L150 N f') (nI m) (nI dn) (nI o) B)) := fun B hB => by
      rw [f_X12_binds_L150, v_keepC hB 79 35 (by decide), o2, if_neg (nI_ge (show o < no by omega) (by omega))]
      simp only [v_ibN o12 (show 12 < 2 ^ 31 by omega), nI_clamp (show o < 2 ^ 31 by omega), v_ibN (show m < 20 by omega) (show 20 < 2 ^ 31 by omega), nI_clamp (show m < 2 ^ 31 by omega), v_ckT, v_keepC hB 79 1 (by decide), v_keepR hB 111 (by decide), v_keepR hB 110 (by decide), v_keepR hB 93 (by decide), t2, p6, p3, (hf.2.2.2.2 m hm).2]
    rw [lA]
    by_cases c1 : nI d < nI dd
    · rw [if_pos c1]
      obtain ⟨A', ow', la', lo', gr', fo', g1, g2, g3, g4, g5⟩ := skip
      refine ⟨A', ow', la', lo', gr', fo', g1, g2, g3, g4, fun B hB hFB hR => ?_⟩
      rw [lB B hB, if_pos c1]
      exact g5 B hB hFB hR
    · have hdd : dd ≤ d := by
        by_cases y : dd ≤ d
        · exact y
        · exact absurd (nI_lt (by omega) (by omega)) c1
      rw [if_neg c1]
      by_cases c2 : M.1 q 0 = 0
      · rw [if_pos c2]
        obtain ⟨A', ow', la', lo', gr', fo', g1, g2, g3, g4, g5⟩ := take hdd
        refine ⟨A', ow', la', lo', gr', fo', g1, g2, g3, g4, fun B hB hFB hR => ?_⟩
        rw [lB B hB, if_neg c1, if_pos c2]
        exact g5 B hB hFB hR
      · rw [if_neg c2]
        by_cases c3 : M.1 q 0 = 1
        · rw [if_pos c3]
          by_cases c4 : ((M.1 17 m >>> (nI o &&& 31)) &&& 1) = 1
          · rw [if_pos (decide_eq_true c4)]
            obtain ⟨A', ow', la', lo', gr', fo', g1, g2, g3, g4, g5⟩ := take hdd
            refine ⟨A', ow', la', lo', gr', fo', g1, g2, g3, g4, fun B hB hFB hR => ?_⟩
            rw [lB B hB, if_neg c1, if_neg c2, if_pos c3, if_pos c4]
            exact g5 B hB hFB hR
          · rw [if_neg (fun z => c4 (of_decide_eq_true z))]
            obtain ⟨A', ow', la', lo', gr', fo', g1, g2, g3, g4, g5⟩ := skip
            refine ⟨A', ow', la', lo', gr', fo', g1, g2, g3, g4, fun B hB hFB hR => ?_⟩
            rw [lB B hB, if_neg c1, if_neg c2, if_pos c3, if_neg c4]
            exact g5 B hB hFB hR
        · rw [if_neg c3]
          obtain ⟨A', ow', la', lo', gr', fo', g1, g2, g3, g4, g5⟩ := skip
          refine ⟨A', ow', la', lo', gr', fo', g1, g2, g3, g4, fun B hB hFB hR => ?_⟩
          rw [lB B hB, if_neg c1, if_neg c2, if_neg c3]
          exact g5 B hB hFB hR
