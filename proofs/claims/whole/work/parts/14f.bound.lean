/-! bound -/
theorem r_sums {N : Nat} {m np : Nat} (hm : m < 20) (hn : np ≤ 24) {gb gw : Nat → Nat} {M : v_M} (e : M.1 79 2 = nI np) (h : ∀ i, i < np → M.1 90 (24 * m + i) = nI (gb i) ∧ gb i ≤ 9999 ∧ M.1 88 (24 * m + i) = nI (gw i) ∧ gw i ≤ 9999) (x2 : Int32) : ∀ (s i f : Nat) (B : v_M), i + s = np → s < f → v_fr bdV bdO M B → B.2 120 3 = kL (ssm gb i) → B.2 120 4 = kL (ssm gw i) → ∃ B' : v_M, f_X12_binds_L65 N f (nI m) x2 (nI i) B = f_X12_binds_L150 N N (nI m) x2 0 (v_wr (v_wr (v_wr (v_wr (v_wr B' 79 55 0) 79 56 0) 79 57 999) 79 58 0) 79 59 0) ∧ v_fr bdV bdO M B' ∧ B'.2 120 3 = kL (ssm gb np) ∧ B'.2 120 4 = kL (ssm gw np) ∧ ∀ k, k ≠ 3 → k ≠ 4 → B'.2 120 k = B.2 120 k := by
  intro s
  induction s with
  | zero =>
    intro i f B hi hf hB e3 e4
    obtain ⟨f, rfl⟩ : ∃ q, f = q + 1 := ⟨f - 1, by omega⟩
    have : i = np := by omega
    subst this
    refine ⟨B, ?_, hB, e3, e4, fun k _ _ => rfl⟩
    rw [f_X12_binds_L65, v_keepC hB 79 2 (by decide), e, if_pos (nI_le (by omega) (by omega))]
    simp only [v_letE, v_b0, v_ckT]
  | succ s ih =>
    intro i f B hi hf hB e3 e4
    obtain ⟨f, rfl⟩ : ∃ q, f = q + 1 := ⟨f - 1, by omega⟩
    obtain ⟨h1, h2, h3, h4⟩ := h i (by omega)
    have l1 := ssm_le (g := gb) (B := 9999) i (fun t ht => (h t (by omega)).2.1)
    have l2 := ssm_le (g := gw) (B := 9999) i (fun t ht => (h t (by omega)).2.2.2)
    rw [f_X12_binds_L65, v_keepC hB 79 2 (by decide), e, if_neg (nI_ge (show i < np by omega) (by omega))]
    simp only [nI_spot', v_ibN (show 24 * m + i < 480 by omega) (show 480 < 2 ^ 31 by omega), nI_clamp (show 24 * m + i < 2 ^ 31 by omega), v_ckT, v_letE, show v_ib (3 : Int32) 7 = true from rfl, show v_ib (4 : Int32) 7 = true from rfl, show (3 : Int32).toNatClampNeg = 3 from rfl, show (4 : Int32).toNatClampNeg = 4 from rfl, nI_1]
    have e88 : ∀ (v : Int64), (v_wl B 120 3 v).1 = B.1 := fun v => rfl
    rw [e88, v_keepR hB 90 (by decide), v_keepR hB 88 (by decide), h1, h3, wl_r, if_neg (show ¬ (4 : Nat) = 3 by decide), e3, e4, kL_of (by omega), kL_of (by omega), kL_add (by omega), kL_add (by omega)]
    have fr : v_fr bdV bdO M (v_wl (v_wl B 120 3 (kL (ssm gb i + gb i))) 120 4 (kL (ssm gw i + gw i))) := v_frl (by decide) (v_frl (by decide) hB)
    obtain ⟨B', g1, g2, g3, g4, g5⟩ := ih (i + 1) f _ (by omega) (by omega) fr (by rw [wl_r, if_neg (by decide), wl_r, if_pos rfl]; rfl) (by rw [wl_r, if_pos rfl]; rfl)
    exact ⟨B', g1, g2, g3, g4, fun k k3 k4 => by rw [g5 k k3 k4, wl_r, if_neg k4, wl_r, if_neg k3]⟩
theorem st_bound {N : Nat} (hN : 500 ≤ N) {P : v_P} (x1 x2 : Int32) {M : v_M} {np nm n no : Nat} (ht : J_time M) (hd : J_drawc M np) (hf : J_fleetc M np nm) (hs : J_stac M nm n) (hO : J_ordc P M no) : ∃ (r : Int32) (M1 M2 : v_M), f_X11_bound N P x1 x2 M = some (r, M1) ∧ f_X12_bound N x1 x2 M1 = some (r, M2) ∧ v_fr bdV bdO M M2 := by
  obtain ⟨d, hd9, t1, t2⟩ := ht
  have f1 := hf.1
  have f2 := hf.2.1
  have h20 : nm ≤ 20 := hf.2.2.1.1
  have h24 := hd.1
  obtain ⟨s1, s2, s3, s4, c1, c2, c3, c4⟩ := hs
  unfold f_X11_bound f_X12_bound
  simp only [e_hasMachine, e_isMachine, l_0, l_4, e_in2, Option.bind_some, f1]
  by_cases a1 : 0 ≤ x1 ∧ x1 ≤ nI nm - 1
  rotate_left
  · rw [v_wiFe a1]
    refine ⟨_, M, M, rfl, ?_, v_frR⟩
    rw [f2, v_wiFe a1]
  rw [v_wiTe a1]
  obtain ⟨m, hm, rfl⟩ := i_idx (by omega) a1
  have m20 : m < 20 := by omega
  -- what is done
  obtain ⟨dn, g1, g2, g3⟩ := e_tasks N m20 c3 s1 10 0 N 0 (by omega) (by omega) (by omega)
  have sm : ∀ s, s < n → M.1 122 s = nI (tN (M.1 122 s)) ∧ tN (M.1 122 s) < 20 ∧ M.1 123 s = nI (tN (M.1 123 s)) ∧ tN (M.1 123 s) < 10 ∧ wkO M s = 10 * tN (M.1 122 s) + tN (M.1 123 s) := fun s hs' => by
    obtain ⟨⟨mm, t, b1, b2, b3, b4, b5⟩, -⟩ := s4 s hs'
    unfold wkO
    rw [b3, b4, b5, tN_nI (by omega), tN_nI (by omega), tN_nI (by omega)]
    exact ⟨rfl, by omega, rfl, b2, rfl⟩
  have ref0 : ∀ G, v_fr bdW [] M G → f_X12_doneOf N (nI m) G = some (nI dn, G) := fun G fG => by
    obtain ⟨k, r1, r2, r3⟩ := r_tasks N m20 (mm := fun s => tN (M.1 122 s)) (tt := fun s => tN (M.1 123 s)) s1 (M := G) (by rw [v_keepR fG 79 (by decide), s3]) (fun s hs' => by
      obtain ⟨b1, b2, b3, b4, -⟩ := sm s hs'
      rw [v_keepR fG 122 (by decide), v_keepR fG 123 (by decide)]
      exact ⟨b1, b2, b3, b4⟩) n 0 N 0 (by omega) (by omega) (by omega)
    have : k = dn := by
      apply Nat.eq_of_testBit_eq
      intro i
      rw [Bool.eq_iff_iff, r3, g3]
      constructor
      · rintro (h | ⟨u, q1, q2, q3, q4⟩)
        · exact Or.inl h
        · obtain ⟨-, -, -, b4, b5⟩ := sm u q2
          have q3' : tN (M.1 122 u) = m := q3
          have q4' : tN (M.1 123 u) = i := q4
          exact Or.inr ⟨by omega, by omega, u, q2, by rw [b5, q3', q4']⟩
      · rintro (h | ⟨q1, q2, u, q3, q4⟩)
        · exact Or.inl h
        · obtain ⟨-, -, -, b4, b5⟩ := sm u q3
          exact Or.inr ⟨u, by omega, q3, by show tN (M.1 122 u) = m; omega, by show tN (M.1 123 u) = i; omega⟩
    rw [this] at r1
    unfold f_X12_doneOf
    exact r1
  -- the class's beginning
  obtain ⟨hB, hB2, -⟩ := J_door hd hf hm
  have fl := hf.2.2.1
  have gbz : ∀ i, i < 24 → M.1 14 (24 * m + i) = nI (tN (M.1 14 (24 * m + i))) ∧ tN (M.1 14 (24 * m + i)) ≤ 9999 ∧ M.1 12 (24 * m + i) = nI (tN (M.1 12 (24 * m + i))) ∧ tN (M.1 12 (24 * m + i)) ≤ 9999 ∧ (np ≤ i → tN (M.1 14 (24 * m + i)) = 0 ∧ tN (M.1 12 (24 * m + i)) = 0) := fun i hi => by
    obtain ⟨w1, -, w3, -⟩ := fl.2.2.1 (24 * m + i) (by omega)
    have u1 := tN_bt (a := 0) (n := 99) w1
    have u3 := tN_bt (a := 0) (n := 9999) w3
    refine ⟨u3.1, u3.2.2, u1.1, by omega, fun z => ?_⟩
    obtain ⟨z1, -, z3, -⟩ := fl.2.1 (24 * m + i) (by omega) (Or.inr (by omega))
    rw [z1, z3]
    exact ⟨rfl, rfl⟩
  have eb : ssm (fun i => tN (M.1 14 (24 * m + i))) 24 = ssm (fun i => tN (M.1 14 (24 * m + i))) np := by
    have := ssm_z (g := fun i => tN (M.1 14 (24 * m + i))) (a := np) (24 - np) (fun t p q => ((gbz t (by omega)).2.2.2.2 p).1)
    rw [show np + (24 - np) = 24 by omega] at this
    exact this
  have ew : ssm (fun i => tN (M.1 12 (24 * m + i))) 24 = ssm (fun i => tN (M.1 12 (24 * m + i))) np := by
    have := ssm_z (g := fun i => tN (M.1 12 (24 * m + i))) (a := np) (24 - np) (fun t p q => ((gbz t (by omega)).2.2.2.2 p).2)
    rw [show np + (24 - np) = 24 by omega] at this
    exact this
  obtain ⟨-, -, bk, bk1, bk2⟩ : True ∧ True ∧ ∃ k : Nat, k < 11 ∧ bcv (nI dn) = nI k := ⟨trivial, trivial, (btl_all2 dn g2).2⟩
  have flt := tN_bt (a := 0) (n := 999999) (fl.2.2.2 m m20).2
  generalize hgb : (fun i => tN (M.1 14 (24 * m + i))) = gb at eb
  generalize hgw : (fun i => tN (M.1 12 (24 * m + i))) = gw at ew
  have hgb' : ∀ i, tN (M.1 14 (24 * m + i)) = gb i := fun i => by rw [← hgb]
  have hgw' : ∀ i, tN (M.1 12 (24 * m + i)) = gw i := fun i => by rw [← hgw]
  have lb := ssm_le (g := gb) (B := 9999) 24 (fun t ht => by rw [← hgb' t]; exact (gbz t ht).2.1)
  have lw := ssm_le (g := gw) (B := 9999) 24 (fun t ht => by rw [← hgw' t]; exact (gbz t ht).2.2.2.1)
  let A8 : v_M := v_wr (v_wr (v_wr (v_wr (v_wr (v_wr (v_wr (v_wr (v_wr M 49 0 0) 49 1 0) 49 2 0) 49 3 0) 49 4 999) 49 5 (nI dn)) 50 0 (nI d)) 50 1 (nI m)) 50 5 (nI bk)
  let A : v_M := v_wr (v_wr (v_wr A8 50 2 (M.1 16 m)) 50 3 (nI (ssm gb 24))) 50 4 (nI (ssm gw 24))
  have fA8 : v_fr bdW [] M A8 := v_frw (by decide) (v_frw (by decide) (v_frw (by decide) (v_frw (by decide) (v_frw (by decide) (v_frw (by decide) (v_frw (by decide) (v_frw (by decide) (v_frw (by decide) v_frR))))))))
  have fA : v_fr bdW [] M A := v_frw (by decide) (v_frw (by decide) (v_frw (by decide) fA8))
  have beg : f_X0_begin N (M.1 0 0) (nI m) (nI dn) M = some (0, A8) := by
    unfold f_X0_begin
    simp only [v_letE, v_b0, v_ckT, show v_ib (0 : Int32) 7 = true from rfl, show v_ib (1 : Int32) 7 = true from rfl, show v_ib (5 : Int32) 7 = true from rfl, show (0 : Int32).toNatClampNeg = 0 from rfl, show (1 : Int32).toNatClampNeg = 1 from rfl, show (5 : Int32).toNatClampNeg = 5 from rfl, e_bc1, Option.bind_some, t1, bk2]
    rfl
  have kno : f_X0_know N 11 (nI m) A8 = some (0, A) := by
    unfold f_X0_know
    rw [e_within, Option.bind_some, v_wiTe (show (0 : Int32) ≤ nI m ∧ nI m ≤ 19 from ⟨nI_le (a := 0) (by omega) (by omega), nI_le (b := 19) (by omega) (by omega)⟩)]
    simp only [v_ibN m20 (show 20 < 2 ^ 31 by omega), nI_clamp (show m < 2 ^ 31 by omega), v_ckT, v_letE, show v_ib (2 : Int32) 7 = true from rfl, show v_ib (3 : Int32) 7 = true from rfl, show v_ib (4 : Int32) 7 = true from rfl, show (2 : Int32).toNatClampNeg = 2 from rfl, show (3 : Int32).toNatClampNeg = 3 from rfl, show (4 : Int32).toNatClampNeg = 4 from rfl, Nat.reduceAdd]
    have f2' : v_fr bdW [] M (v_wr A8 50 2 (A8.1 16 m)) := v_frw (by decide) fA8
    rw [e_sumOf (show 100 ≤ N by omega) 11 14 m20 (g := gb) (M := v_wr A8 50 2 (A8.1 16 m)) (fun i hi => by rw [v_keepR f2' 14 (by decide), (gbz i hi).1, hgb' i]), Option.bind_some]
    have f3' : v_fr bdW [] M (v_wr (v_wr A8 50 2 (A8.1 16 m)) 50 3 (nI (ssm gb 24))) := v_frw (by decide) f2'
    rw [e_sumOf (show 100 ≤ N by omega) 11 12 m20 (g := gw) (M := v_wr (v_wr A8 50 2 (A8.1 16 m)) 50 3 (nI (ssm gb 24))) (fun i hi => by rw [v_keepR f3' 12 (by decide), (gbz i hi).2.2.1, hgw' i]), Option.bind_some, v_keepR fA8 16 (by decide)]
  have hA50 : A.1 50 0 = nI d ∧ A.1 50 1 = nI m ∧ A.1 50 2 = nI (tN (M.1 16 m)) ∧ A.1 50 3 = nI (ssm gb 24) ∧ A.1 50 4 = nI (ssm gw 24) ∧ A.1 50 5 = nI bk := by
    refine ⟨?_, ?_, ?_, ?_, ?_, ?_⟩ <;> simp only [A, A8, v_rd, true_and, Nat.reduceEqDiff, if_false, if_true, false_and, and_self]
    exact flt.1
  have hF6 : ∀ k, k < 6 → 0 ≤ (A.1 50 k).toInt ∧ (A.1 50 k).toInt ≤ 1000000 := fun k hk => by
    obtain ⟨u0, u1, u2, u3, u4, u5⟩ := hA50
    match k, hk with
    | 0, _ => rw [u0, nI_toInt (by omega)]; omega
    | 1, _ => rw [u1, nI_toInt (by omega)]; omega
    | 2, _ => rw [u2, nI_toInt (by omega)]; omega
    | 3, _ => rw [u3, nI_toInt (by omega)]; omega
    | 4, _ => rw [u4, nI_toInt (by omega)]; omega
    | 5, _ => rw [u5, nI_toInt (by omega)]; omega
  have bcA : BC A dn 0 0 0 0 999 := by
    unfold BC
    refine ⟨?_, ?_, ?_, ?_, ?_, ?_⟩ <;> simp only [A, A8, v_rd, true_and, Nat.reduceEqDiff, if_false, if_true, false_and, and_self]
    rfl
  have n12 := hO.1.1
  obtain ⟨A', ow, la, lo, gr, fo, k1, k2, k3, k4, k5⟩ := e_ords hN hm hf hO g2 hd9 t1 t2 (F := fun k => (A.1 50 k).toInt) hF6 no 0 N N A 0 0 0 0 999 (by omega) (by omega) (by omega) fA (fun k _ => rfl) (by omega) bcA
  have gat : f_X11_gatherBinding N P (nI m) M = some (0, A') := by
    unfold f_X11_gatherBinding f_X8_tasksOf
    rw [show nI 0 = 0 from rfl] at g1 k1
    rw [g1, Option.bind_some, beg, Option.bind_some, kno, Option.bind_some]
    exact k1
  rw [gat, Option.bind_some]
  obtain ⟨b0, b1, b2, b3, b4, b5⟩ := k4
  by_cases a2 : 0 ≤ x2 ∧ x2 ≤ 4
  rotate_left
  · rw [if_neg (fun z => a2 (by rw [z]; decide)), if_neg (fun z => a2 (by rw [z]; decide)), if_neg (fun z => a2 (by rw [z]; decide)), if_neg (fun z => a2 (by rw [z]; decide)), if_neg (fun z => a2 (by rw [z]; decide))]
    refine ⟨_, A', A', rfl, ?_, v_frt (by decide) (by decide) v_frR k2⟩
    rw [v_keepR k2 79 (by decide), f2, v_wiTe a1, v_wiFe a2]
  -- the reference
  have ref : ∃ B : v_M, f_X12_binds N (nI m) A' = some (0, B) ∧ v_fr bdV bdO M B ∧ BR B ow la lo (if gr = 0 ∧ la = 0 then 0 else 1) fo := by
    have fA' : v_fr bdV bdO M A' := v_frt (by decide) (by decide) v_frR k2
    let B5 : v_M := v_wl (v_wl (v_wl (v_wl (v_wl A' 120 0 (nI d).toInt64) 120 1 (nI m).toInt64) 120 2 (M.1 16 m).toInt64) 120 3 0) 120 4 0
    let B6 : v_M := v_wl B5 120 5 (nI bk).toInt64
    have fB6 : v_fr bdV bdO M B6 := v_frl (by decide) (v_frl (by decide) (v_frl (by decide) (v_frl (by decide) (v_frl (by decide) (v_frl (by decide) fA')))))
    have b6 : B6.2 120 0 = (nI d).toInt64 ∧ B6.2 120 1 = (nI m).toInt64 ∧ B6.2 120 2 = (M.1 16 m).toInt64 ∧ B6.2 120 3 = 0 ∧ B6.2 120 4 = 0 ∧ B6.2 120 5 = (nI bk).toInt64 := by
      refine ⟨?_, ?_, ?_, ?_, ?_, ?_⟩ <;> simp only [B6, B5, wl_r, Nat.reduceEqDiff, if_false, if_true]
    obtain ⟨v0, v1, v2, v3, v4, v5⟩ := b6
    obtain ⟨B7, r1, r2, r3, r4, r5⟩ := r_sums (N := N) m20 h24 (gb := gb) (gw := gw) (M := M) hd.2.2.1 (fun i hi => by
      obtain ⟨w1, w2, w3, w4⟩ := hf.2.2.2.1 (24 * m + i) (by omega)
      obtain ⟨y1, y2, y3, y4, -⟩ := gbz i (by omega)
      rw [hgb' i] at y1 y2
      rw [hgw' i] at y3 y4
      exact ⟨by rw [w3]; exact y1, y2, by rw [w1]; exact y3, y4⟩) (nI dn) np 0 N B6 (by omega) (by omega) fB6 (by rw [v3]; rfl) (by rw [v4]; rfl)
    have fB8 : v_fr bdV bdO M (v_wr (v_wr (v_wr (v_wr (v_wr B7 79 55 0) 79 56 0) 79 57 999) 79 58 0) 79 59 0) := v_fro (by decide) (v_fro (by decide) (v_fro (by decide) (v_fro (by decide) (v_fro (by decide) r2))))
    obtain ⟨u0, u1, u2, u3, u4, u5⟩ := hA50
    obtain ⟨B, y1, y2, y3⟩ := k5 _ fB8 (fun k hk => by
      show ((B7.2 120 k).toInt = (A.1 50 k).toInt)
      match k, hk with
      | 0, _ => rw [r5 0 (by decide) (by decide), v0, Int32.toInt_toInt64, u0]
      | 1, _ => rw [r5 1 (by decide) (by decide), v1, Int32.toInt_toInt64, u1]
      | 2, _ => rw [r5 2 (by decide) (by decide), v2, Int32.toInt_toInt64, u2, ← flt.1]
      | 3, _ => rw [r3, kL_toInt (by rw [← eb]; omega), u3, eb, nI_toInt (by rw [← eb]; omega)]
      | 4, _ => rw [r4, kL_toInt (by rw [← ew]; omega), u4, ew, nI_toInt (by rw [← ew]; omega)]
      | 5, _ => rw [r5 5 (by decide) (by decide), v5, Int32.toInt_toInt64, u5]) (by
      unfold BR
      simp only [v_rd, true_and, Nat.reduceEqDiff, if_false, if_true, and_self]
      rfl)
    refine ⟨B, ?_, y2, y3⟩
    unfold f_X12_binds
    rw [ref0 A' k2, Option.bind_some, v_letE]
    simp only [v_letE, v_ckT, show v_ib (0 : Int32) 7 = true from rfl, show v_ib (1 : Int32) 7 = true from rfl, show v_ib (2 : Int32) 7 = true from rfl, show v_ib (3 : Int32) 7 = true from rfl, show v_ib (4 : Int32) 7 = true from rfl, show v_ib (5 : Int32) 7 = true from rfl, show (0 : Int32).toNatClampNeg = 0 from rfl, show (1 : Int32).toNatClampNeg = 1 from rfl, show (2 : Int32).toNatClampNeg = 2 from rfl, show (3 : Int32).toNatClampNeg = 3 from rfl, show (4 : Int32).toNatClampNeg = 4 from rfl, show (5 : Int32).toNatClampNeg = 5 from rfl, v_ibN m20 (show 20 < 2 ^ 31 by omega), nI_clamp (show m < 2 ^ 31 by omega)]
    have e1 : A'.1 79 1 = nI d := by rw [v_keepR k2 79 (by decide), t2]
    have e2 : A'.1 92 m = M.1 16 m := by rw [v_keepR k2 92 (by decide)]; exact (hf.2.2.2.2 m hm).1
    rw [e1]
    have e2' : ∀ (X : v_M), X.1 = A'.1 → X.1 92 m = M.1 16 m := fun X hX => by rw [hX]; exact e2
    rw [e2' (v_wl (v_wl A' 120 0 (nI d).toInt64) 120 1 (nI m).toInt64) rfl, e_bc3 (show 100 ≤ N by omega) g2, Option.bind_some, bk2]
    rw [show nI 0 = 0 from rfl] at r1
    exact (r1.trans (by rw [show nI 0 = 0 from rfl] at y1; exact y1))
  obtain ⟨B, y1, y2, q0, q1, q2, q3, q4⟩ := ref
  have pre : ∀ r : Int32, (if x2 = 0 then some (B.1 79 55, B) else if x2 = 1 then some (B.1 79 56, B) else if x2 = 2 then some (B.1 79 57, B) else if x2 = 3 then some (B.1 79 58, B) else if B.1 79 59 = 0 then some ((0 : Int32), B) else some ((1 : Int32), B)) = some (r, B) → (if v_wi (nI m) 0 (A'.1 79 3 - 1) = 0 then some ((-1 : Int32), A') else (if v_wi x2 0 4 = 0 then some ((-1 : Int32), A') else ((f_X12_binds N (nI m) A').bind fun z3 => if x2 = 0 then some (z3.2.1 79 55, z3.2) else if x2 = 1 then some (z3.2.1 79 56, z3.2) else if x2 = 2 then some (z3.2.1 79 57, z3.2) else if x2 = 3 then some (z3.2.1 79 58, z3.2) else if z3.2.1 79 59 = 0 then some ((0 : Int32), z3.2) else some ((1 : Int32), z3.2)))) = some (r, B) := fun r h => by
    rw [v_keepR k2 79 (by decide), f2, v_wiTe a1, v_wiTe a2, y1, Option.bind_some]
    exact h
  by_cases z0 : x2 = 0
  · rw [if_pos z0]
    exact ⟨_, A', B, rfl, pre _ (by rw [if_pos z0, q0, b0]), y2⟩
  rw [if_neg z0]
  by_cases z1 : x2 = 1
  · rw [if_pos z1]
    exact ⟨_, A', B, rfl, pre _ (by rw [if_neg z0, if_pos z1, q1, b1]), y2⟩
  rw [if_neg z1]
  by_cases z2 : x2 = 2
  · rw [if_pos z2]
    refine ⟨_, A', B, rfl, pre _ ?_, y2⟩
    rw [if_neg z0, if_neg z1, if_pos z2, q4]
    have : v_mx 0 (A'.1 49 4) = nI fo.toNat := by
      unfold v_mx
      by_cases y : 0 < A'.1 49 4
      · rw [if_pos y]
        rw [i_lt, i0, b4] at y
        rw [i_eq, b4, nI_toInt (by omega)]
        omega
      · rw [if_neg y]
        rw [i_lt, i0, b4] at y
        rw [show fo.toNat = 0 by omega]
        rfl
    rw [this]
  rw [if_neg z2]
  by_cases z3 : x2 = 3
  · rw [if_pos z3]
    exact ⟨_, A', B, rfl, pre _ (by rw [if_neg z0, if_neg z1, if_neg z2, if_pos z3, q2, b2]), y2⟩
  rw [if_neg z3]
  have z4 : x2 = 4 := by
    obtain ⟨j, hj, rfl⟩ := i_idx (c := 5) (by omega) (show 0 ≤ x2 ∧ x2 ≤ nI 5 - 1 from a2)
    match j, hj with
    | 0, _ => exact absurd rfl z0
    | 1, _ => exact absurd rfl z1
    | 2, _ => exact absurd rfl z2
    | 3, _ => exact absurd rfl z3
    | 4, _ => rfl
  rw [if_pos z4, b3, b1]
  unfold f_X11_bound_L104 f_X11_asNumber
  refine ⟨if gr = 0 ∧ la = 0 then 0 else 1, A', B, ?_, pre _ ?_, y2⟩
  · by_cases w1 : gr = 0
    · rw [if_pos w1]
      by_cases w2 : la = 0
      · rw [if_pos w2, if_pos (show gr = 0 ∧ la = 0 from ⟨w1, w2⟩)]; rfl
      · rw [if_neg w2, if_neg (show ¬ (gr = 0 ∧ la = 0) from fun y => w2 y.2)]; rfl
    · rw [if_neg w1, if_neg (show ¬ (gr = 0 ∧ la = 0) from fun y => w1 y.1)]; rfl
  · rw [if_neg z0, if_neg z1, if_neg z2, if_neg z3, q3]
    by_cases w : gr = 0 ∧ la = 0
    · rw [if_pos w, if_pos rfl]
    · rw [if_neg w, if_neg (show ¬ (1 : Int32) = 0 by decide)]
