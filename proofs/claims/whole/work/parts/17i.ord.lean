/-! order: both answer alike, and what holds behind it -/
theorem zi_B0 {X : v_M} {no : Nat} (hn : no < 12) (h : X.1 79 35 = nI no) : ZI no (B0 X) := ⟨hn, by rw [v_keepC (B0_fr X) 79 35 (by decide), h], 0, by omega, by unfold B0; rw [v_rd, if_neg (by omega), v_rd, if_neg (by omega), v_rdS]; rfl⟩
theorem st_order {N : Nat} (hN : 1000 ≤ N) {sh : v_S} {P : v_P} {M : v_M} {qo : Nat} (x1 x2 : Int32) (hL : v_Lay sh P) (hPO : v_PO sh P) (hor : v_Or sh P qo) (hro : P 35 1 = some qo) (hI : II sh P M) : ∃ (r : Int32) (sh2 : v_S) (P2 : v_P) (M1 M2 : v_M), f_X11_order N qo sh P x1 x2 M = some (r, (sh2, P2, M1)) ∧ f_X12_order N x1 x2 M1 = some (r, M2) ∧ II sh2 P2 M2 := by
  obtain ⟨-, -, qo', -, hro', hq, np, nm, nc, nt, n, ns, nr, no, ht, hd, hf, hc, hta, hs, he, hp, hm, ho⟩ := id hI
  obtain rfl : qo' = qo := Option.some.inj (hro'.symm.trans hro)
  obtain ⟨d, hd9, t1, t2⟩ := id ht
  obtain ⟨c, tp, tr⟩ := tp_of hta
  have l2 := v_Lay_len hL
  have lq := Or_len hor
  obtain ⟨⟨o12, o1, o2⟩, -, inj, ne⟩ := id ho
  by_cases n12 : no = 12
  · refine ⟨-1, sh, P, M, M, ?_, ?_, hI⟩
    · unfold f_X11_order
      rw [o1, n12, if_pos (show (12 : Int32) ≤ nI 12 by decide)]
    · unfold f_X12_order
      rw [o2, n12, if_pos (show nI 12 = (12 : Int32) from rfl)]
  have hn : no < 12 := by omega
  have c0 : ¬ (12 : Int32) ≤ M.1 0 1 := by rw [o1]; exact fun w => by have := (nI_leX (a := 12) (b := no) (by omega) (by omega)).mp w; omega
  have r0 : ¬ M.1 79 35 = (12 : Int32) := by rw [o2]; exact fun w => by have := (nI_eqX (a := no) (b := 12) (by omega) (by omega)).mp w; omega
  by_cases a : 0 ≤ x1 ∧ x1 ≤ 2
  rotate_left
  · refine ⟨-1, sh, P, M, M, ?_, ?_, hI⟩
    · unfold f_X11_order
      rw [if_neg c0, e_within, Option.bind_some]
      dsimp only
      rw [v_wiFe a]
    · unfold f_X12_order
      rw [if_neg r0, show (0 : Int64) = (0 : Int32).toInt64 from rfl, show (2 : Int64) = (2 : Int32).toInt64 from rfl, e_in2, Option.bind_some]
      dsimp only
      rw [v_wiFe a]
  by_cases b : nI d ≤ x2 ∧ x2 ≤ 9999
  rotate_left
  · refine ⟨-1, sh, P, M, M, ?_, ?_, hI⟩
    · unfold f_X11_order
      rw [if_neg c0, e_within, Option.bind_some]
      dsimp only
      rw [v_wiTe a, t1, e_within, Option.bind_some]
      dsimp only
      rw [v_wiFe b]
    · unfold f_X12_order
      rw [if_neg r0, show (0 : Int64) = (0 : Int32).toInt64 from rfl, show (2 : Int64) = (2 : Int32).toInt64 from rfl, show (9999 : Int64) = (9999 : Int32).toInt64 from rfl, e_in2, Option.bind_some]
      dsimp only
      rw [v_wiTe a, t2, e_in2, Option.bind_some]
      dsimp only
      rw [v_wiFe b]
  obtain ⟨A', B1, F, m1, a1, -, -, le1⟩ := s_comp hN hq tp tr hn o2
  have fA := fr_X7_compile a1
  have kA := oKp_c fA sh.length
  have F9 := le1.2.1
  have cls : f_X11_order N qo' sh P x1 x2 M = v_let (v_wr A' 36 0 0) fun M4 => if nI F = 0 then
      v_let (v_wr (h_over sh P M4).2.2 qo' 0 x1) fun M5 => v_let (v_wr M5 qo' 1 x2) fun M6 => v_ck (v_ib (M6.1 0 1) 12) <| v_let (v_wr M6 0 1 (M6.1 0 1 + 1)) fun M7 => some (M7.1 0 1 - 1, ((h_over sh P M4).1, v_wp (h_over sh P M4).2.1 48 (M6.1 0 1).toNatClampNeg (some qo'), M7))
    else some ((-2 : Int32) - nI F, (sh, P, M4)) := by
    unfold f_X11_order
    rw [if_neg c0, e_within, Option.bind_some]
    dsimp only
    rw [v_wiTe a, t1, e_within, Option.bind_some]
    dsimp only
    rw [v_wiTe b, a1, Option.bind_some]
  have g4 : ∀ k j, 41 ≤ k → k ≠ qo' → (k < qo' ∨ qo' + 6 < k) → (v_wr A' 36 0 0).1 k j = M.1 k j := fun k j h1 h2 h3 => by
    rw [v_rdn (by omega)]
    exact fA.1 k j (by simp; omega) (by simp; omega)
  have g401 : (v_wr A' 36 0 0).1 0 1 = nI no := by
    rw [v_rdn (by omega), fA.1 0 1 (by simp) (by simp), o1]
  by_cases hF : F = 0
  rotate_left
  · have nz : ¬ nI F = 0 := nI_nz ⟨by omega, F9⟩
    have e35 : (v_wr A' 36 0 0).1 79 35 = nI no := by rw [g4 79 35 (by omega) (by omega) (by omega), o2]
    have e1 : (v_wr A' 36 0 0).1 79 1 = nI d := by rw [g4 79 1 (by omega) (by omega) (by omega), t2]
    have trX : TR (v_wr A' 36 0 0) c nt := tr.fr (g4 79 32 (by omega) (by omega) (by omega)) (funext fun j => g4 107 j (by omega) (by omega) (by omega))
    obtain ⟨A2, B2, F2, m2, a2, b2, z2, le2⟩ := s_comp hN hq tp trX hn e35
    have eqs : (nI F, A') = (nI F2, A2) := Option.some.inj (a1.symm.trans a2)
    have F29 := le2.2.1
    obtain rfl : F = F2 := (nI_eqX (by omega) (by omega)).mp (congrArg Prod.fst eqs)
    have rf := (ref_go N hn e35 e1 a b).trans (b2 x1 x2)
    rw [ordEnd_bad x1 x2 _ le2.1 ⟨by omega, F9⟩] at rf
    have fr2 := fr_X12_order rf
    have kk : oKp sh.length qo' M (v_wr B2 79 32 0) := kA.t (fr_ref fr2 _ _)
    obtain ⟨zi, zz1, zz2⟩ := z2 (zi_B0 hn e35)
    have fb := B0_fr (v_wr A' 36 0 0)
    have w1 : ∀ i, i < 300 * no → (v_wr B2 79 32 0).1 108 i = M.1 108 i ∧ (v_wr B2 79 32 0).1 109 i = M.1 109 i := fun i hi => by
      rw [v_rdn (by decide), v_rdn (by decide), (zz1 i hi).1, (zz1 i hi).2, v_keepR fb 108 (by decide), v_keepR fb 109 (by decide)]
      exact ⟨g4 108 i (by omega) (by omega) (by omega), g4 109 i (by omega) (by omega) (by omega)⟩
    have w2 : ∀ k i, 110 ≤ k → k ≤ 118 → i < 12 * no → (v_wr B2 79 32 0).1 k i = M.1 k i := fun k i k1 k2 hi => by
      rw [v_rdn (by omega), zz2 k i k1 k2 hi, fb.1 k i (by simp) (by simp; omega)]
      exact g4 k i (by omega) (by omega) (by omega)
    obtain ⟨q1, q2, q3, q4, q5, q6, q7⟩ := mods hL hq kk ht hd hf hc hs he hp
    refine ⟨(-2 : Int32) - nI F, sh, P, v_wr A' 36 0 0, v_wr B2 79 32 0, by rw [cls, v_letE, if_neg nz], rf, hL, hPO, qo', hor, hro, hq, np, nm, nc, 0, n, ns, nr, no, q1, q2, q3, q4, ⟨by omega, ?_, v_rdS, fun i hi => absurd hi (by omega)⟩, q5, q6, q7, mrk_ord hL hPO hor hq kk hm (fun _ => rfl), ⟨o12, ?_, ?_⟩, ords_keep hPO hor hro kk ho w1 (fun k i k1 k2 hi => w2 k i (by omega) k2 hi) (fun k i k1 k2 hi => w2 k i k1 (by omega) (by omega)), inj, ne⟩
    · rw [v_keepR fr2 36 (by decide), v_rdS]; rfl
    · rw [v_keepR fr2 0 (by decide), g401]
    · rw [v_rd, if_neg (by omega), zi.2.1]
  · subst hF
    have hb : ∀ k, k < sh.length → (h_over sh P (v_wr A' 36 0 0)).2.2.1 k = (v_wr A' 36 0 0).1 k ∧ (h_over sh P (v_wr A' 36 0 0)).2.2.2 k = (v_wr A' 36 0 0).2 k := fun k hk => ho_M sh P _ hk
    have q0 : qo' ≠ 0 := by omega
    obtain ⟨M7, eM7⟩ : ∃ M7, M7 = v_wr (v_wr (v_wr (h_over sh P (v_wr A' 36 0 0)).2.2 qo' 0 x1) qo' 1 x2) 0 1 (nI no + 1) := ⟨_, rfl⟩
    have e601 : (v_wr (v_wr (h_over sh P (v_wr A' 36 0 0)).2.2 qo' 0 x1) qo' 1 x2).1 0 1 = nI no := by rw [v_rdn (by omega), v_rdn (by omega), (hb 0 (by omega)).1, g401]
    have cls2 : f_X11_order N qo' sh P x1 x2 M = some (nI no, ((h_over sh P (v_wr A' 36 0 0)).1, oP sh P (v_wr A' 36 0 0) no qo', M7)) := by
      rw [cls, v_letE, if_pos (show nI 0 = 0 from rfl), v_letE, v_letE, e601, v_ibN (show no < 12 by omega) (by omega), v_ckT, v_letE, nI_clamp (show no < 2 ^ 31 by omega), ← eM7]
      have : M7.1 0 1 - 1 = nI no := by
        rw [eM7, v_rdS, nI_1]
        exact nI_subX (a := no + 1) (b := 1) (by omega)
      rw [this]
      rfl
    have g7 : ∀ k j, k < sh.length → k ≠ qo' → ¬ (k = 0 ∧ j = 1) → M7.1 k j = (v_wr A' 36 0 0).1 k j := fun k j h1 h2 h3 => by
      rw [eM7, v_rd, if_neg (by omega), v_rdn (by omega), v_rdn (by omega), (hb k h1).1]
    have g7l : ∀ k, k < sh.length → M7.2 k = (v_wr A' 36 0 0).2 k := fun k h1 => by
      rw [eM7]
      exact (hb k h1).2
    have k7 : oKp sh.length qo' (v_wr A' 36 0 0) M7 := ⟨fun k j h1 h2 h3 h4 => g7 k j h1 (by omega) (fun w => h4 (by rw [w.1, w.2]; decide)), fun k h1 _ _ => g7l k h1⟩
    have e35 : M7.1 79 35 = nI no := by rw [g7 79 35 (by omega) (by omega) (by omega), g4 79 35 (by omega) (by omega) (by omega), o2]
    have e1 : M7.1 79 1 = nI d := by rw [g7 79 1 (by omega) (by omega) (by omega), g4 79 1 (by omega) (by omega) (by omega), t2]
    have trX : TR M7 c nt := tr.fr (by rw [g7 79 32 (by omega) (by omega) (by omega), g4 79 32 (by omega) (by omega) (by omega)]) (funext fun j => by rw [g7 107 j (by omega) (by omega) (by omega), g4 107 j (by omega) (by omega) (by omega)])
    obtain ⟨A2, B2, F2, m2, a2, b2, z2, le2⟩ := s_comp hN hq tp trX hn e35
    have eqs : (nI 0, A') = (nI F2, A2) := Option.some.inj (a1.symm.trans a2)
    have F29 := le2.2.1
    obtain rfl : 0 = F2 := (nI_eqX (by omega) (by omega)).mp (congrArg Prod.fst eqs)
    obtain rfl : A' = A2 := congrArg Prod.snd eqs
    obtain ⟨zi, zz1, zz2⟩ := z2 (zi_B0 hn e35)
    obtain ⟨hm1, hm2, eq2, L, v, hl, e3, ec, rc, cl⟩ := le2.2.2 rfl
    have rf := (ref_go N hn e35 e1 a b).trans (b2 x1 x2)
    rw [ordEnd_ok x1 x2 _ le2.1 hn zi.2.1] at rf
    have fr2 := fr_X12_order rf
    obtain ⟨M2, eM2⟩ : ∃ M2, M2 = v_wr (v_wr (v_wr (v_wr (v_wr B2 79 32 0) 110 no x1) 111 no x2) 112 no (nI m2)) 79 35 (nI (no + 1)) := ⟨_, rfl⟩
    rw [← eM2] at rf fr2
    have fr2' : v_fr [108, 109, 110, 111, 112, 113, 114, 115, 116, 117, 118, 119] [(79, 32), (79, 33), (79, 34), (79, 35), (79, 36), (79, 37), (79, 38), (79, 39)] M7 M2 := fr2
    have kk : oKp sh.length qo' M M2 := (kA.t k7).t (fr_ref fr2' _ _)
    have fb := B0_fr M7
    have w1 : ∀ i, M2.1 108 i = B2.1 108 i ∧ M2.1 109 i = B2.1 109 i := fun i => by
      rw [eM2, v_rdn (by decide), v_rdn (by decide), v_rdn (by decide), v_rdn (by decide), v_rdn (by decide), v_rdn (by decide), v_rdn (by decide), v_rdn (by decide), v_rdn (by decide), v_rdn (by decide)]
      exact ⟨rfl, rfl⟩
    have w2 : ∀ k i, 113 ≤ k → k ≤ 118 → M2.1 k i = B2.1 k i := fun k i k1 k2 => by
      rw [eM2, v_rdn (by omega), v_rdn (by omega), v_rdn (by omega), v_rdn (by omega), v_rdn (by omega)]
    have w3 : ∀ k i, 110 ≤ k → k ≤ 112 → i < no → M2.1 k i = B2.1 k i := fun k i k1 k2 hi => by
      rw [eM2, v_rdn (by omega), v_rd, if_neg (by omega), v_rd, if_neg (by omega), v_rd, if_neg (by omega), v_rdn (by omega)]
    have bM : ∀ k j, 80 ≤ k → k < 150 → (B0 M7).1 k j = M.1 k j := fun k j h1 h2 => by
      rw [fb.1 k j (by simp) (by simp; omega), g7 k j (by omega) (by omega) (by omega), g4 k j (by omega) (by omega) (by omega)]
    have x1' : ∀ i, i < 300 * no → M2.1 108 i = M.1 108 i ∧ M2.1 109 i = M.1 109 i := fun i hi => by
      rw [(w1 i).1, (w1 i).2, (zz1 i hi).1, (zz1 i hi).2]
      exact ⟨bM 108 i (by omega) (by omega), bM 109 i (by omega) (by omega)⟩
    have x2' : ∀ k i, 113 ≤ k → k ≤ 118 → i < 12 * no → M2.1 k i = M.1 k i := fun k i k1 k2 hi => by
      rw [w2 k i k1 k2, zz2 k i (by omega) k2 hi]
      exact bM k i (by omega) (by omega)
    have x3' : ∀ k i, 110 ≤ k → k ≤ 112 → i < no → M2.1 k i = M.1 k i := fun k i k1 k2 hi => by
      rw [w3 k i k1 k2 hi, zz2 k i k1 (by omega) (by omega)]
      exact bM k i (by omega) (by omega)
    have oq : ∀ j i, j ≤ 6 → M2.1 (qo' + j) i = M7.1 (qo' + j) i := fun j i hj => fr2'.1 (qo' + j) i (by simp; omega) (by simp; omega)
    have oA : ∀ j i, 1 ≤ j → j ≤ 6 → M2.1 (qo' + j) i = A'.1 (qo' + j) i := fun j i h1 hj => by
      rw [oq j i hj, g7 (qo' + j) i (by omega) (by omega) (by omega), v_rdn (by omega)]
    have oA0 : ∀ i, 2 ≤ i → M2.1 qo' i = A'.1 qo' i := fun i hi => by
      have := oq 0 i (by omega)
      rw [Nat.add_zero] at this
      rw [this, eM7, v_rdn (by omega), v_rd, if_neg (by omega), v_rd, if_neg (by omega), (hb qo' (by omega)).1, v_rdn (by omega)]
    have oq0 : M2.1 qo' 0 = x1 := by
      have := oq 0 0 (by omega)
      rw [Nat.add_zero] at this
      rw [this, eM7, v_rdn (by omega), v_rd, if_neg (by omega), v_rdS]
    have oq1 : M2.1 qo' 1 = x2 := by
      have := oq 0 1 (by omega)
      rw [Nat.add_zero] at this
      rw [this, eM7, v_rdn (by omega), v_rdS]
    obtain ⟨q1, q2, q3, q4, q5, q6, q7⟩ := mods hL hq kk ht hd hf hc hs he hp
    obtain ⟨dd, hdd, rfl⟩ : ∃ dd : Nat, dd < 10000 ∧ x2 = nI dd := i_idx (c := 10000) (by omega) ⟨Int32.le_trans (show (0 : Int32) ≤ nI d from (nI_leX (a := 0) (b := d) (by omega) (by omega)).mpr (by omega)) b.1, b.2⟩
    have jo : J_or1 M2 qo' no L := by
      refine ⟨?_, ⟨dd, by omega, oq1, ?_⟩, ⟨hl, fun p op hp => ⟨?_, ?_⟩⟩, m2, hm2, ?_, ?_, fun cc hcc => ?_⟩
      · rw [oq0, eM2, v_rdn (by decide), v_rdn (by decide), v_rdn (by decide), v_rdS]
      · rw [eM2, v_rdn (by decide), v_rdn (by decide), v_rdS]
      · rw [oA 6 p (by omega) (by omega)]
        exact ec p op hp
      · rw [(w1 _).1, (w1 _).2]
        exact rc.2.2.2.2.2 p op hp
      · rw [oA0 2 (by omega), eq2]
      · rw [eM2, v_rdn (by decide), v_rdS]
      · exact cl_j.mpr ((cl cc hcc).fr (fun i i1 i5 => oA i cc i1 (by omega)) (fun k k1 k2 => w2 k _ k1 k2))
    have p48 : ∀ o, oP sh P (v_wr A' 36 0 0) no qo' 48 o = if o = no then some qo' else P 48 o := fun o => by
      rw [oP_o _ l2 (by omega)]
      by_cases w : o = no
      · rw [if_pos ⟨rfl, w⟩, if_pos w]
      · rw [if_neg (fun y => w y.2), if_neg (fun y => absurd y.1 (by decide)), if_neg w]
    have p35 : oP sh P (v_wr A' 36 0 0) no qo' 35 1 = some sh.length := by
      rw [oP_o _ l2 (by omega), if_neg (fun y => absurd y.1 (by decide)), if_pos ⟨rfl, rfl⟩]
    have p77 : ∀ k, oP sh P (v_wr A' 36 0 0) no qo' 77 k = P 77 k := fun k => by
      rw [oP_o _ l2 (by omega), if_neg (fun y => absurd y.1 (by decide)), if_neg (fun y => absurd y.1 (by decide))]
    have ok := ords_keep hPO hor hro kk ho x1' x2' x3'
    refine ⟨nI no, _, _, M7, M2, cls2, rf, Lay_oP hL _ no qo', PO_oP hL hPO _ no hor, sh.length, New_oP hL _ no qo', p35, Or.inr l2, np, nm, nc, 0, n, ns, nr, no + 1, q1, q2, q3, q4, ⟨by omega, ?_, ?_, fun i hi => absurd hi (by omega)⟩, q5, q6, q7, mrk_ord hL hPO hor hq kk hm p77, ⟨by omega, ?_, ?_⟩, fun o ho' => ?_, fun o o' q h1 h2 e1 e2 => ?_, fun o q h1 e1 => ?_⟩
    · rw [v_keepR fr2' 36 (by decide), g7 36 0 (by omega) (by omega) (by omega), v_rdS]; rfl
    · rw [eM2, v_rd, if_neg (by omega), v_rdn (by decide), v_rdn (by decide), v_rdn (by decide), v_rdS]; rfl
    · rw [v_keepR fr2' 0 (by decide), eM7, v_rdS, nI_1]
    · rw [eM2, v_rdS]
    · rw [p48]
      by_cases w : o = no
      · rw [if_pos w, w]
        exact ⟨qo', L, rfl, hq, jo⟩
      · rw [if_neg w]
        exact ok o (by omega)
    · rw [p48] at e1 e2
      by_cases w : o = no
      · by_cases w' : o' = no
        · rw [w, w']
        · rw [if_pos w] at e1
          rw [if_neg w'] at e2
          exact absurd (hro.trans e1) (ne o' q (by omega) e2)
      · by_cases w' : o' = no
        · rw [if_pos w'] at e2
          rw [if_neg w] at e1
          exact absurd (hro.trans e2) (ne o q (by omega) e1)
        · rw [if_neg w] at e1
          rw [if_neg w'] at e2
          exact inj o o' q (by omega) (by omega) e1 e2
    · rw [p48] at e1
      rw [p35]
      by_cases w : o = no
      · rw [if_pos w] at e1
        have := Option.some.inj e1
        intro y
        have := Option.some.inj y
        omega
      · rw [if_neg w] at e1
        have := Or_len (hPO.1 o q e1)
        intro y
        have := Option.some.inj y
        omega
theorem ord_ok : OrdOK := fun _ _ _ _ x1 x2 hL hPO hor hro hI => st_order (nf_le (by decide)) x1 x2 hL hPO hor hro hI
