/-! back: the reference, and both -/
theorem back_r {N : Nat} (hN : 1000 ≤ N) {k : Nat} (hk : k < 4) {G : v_M} {npk nmk dk n ns nr : Nat} {mm tt mm2 tt2 : Nat → Nat} {a d a2 d2 pp : Nat → Int32} (g149 : G.1 149 k = 1) (g148 : G.1 148 k = nI dk) (g147 : G.1 147 k = nI nmk) (g146 : G.1 146 k = nI npk) (n20 : nmk ≤ 20) (n24 : npk ≤ 24) (hz : ∀ i, i < 24 * nmk → npk ≤ i % 24 → mkr G (2000 * k) i = 0 ∧ mkr G (2000 * k + 480) i = 0 ∧ mkr G (2000 * k + 960) i = 0 ∧ mkr G (2000 * k + 1440) i = 0) (hn : n ≤ 200) (c1 : G.1 79 60 = nI n) (hm : ∀ i, i < n → mm i < 20 ∧ tt i < 10) (hr : ∀ j, j < n → G.1 122 j = nI (mm j) ∧ G.1 123 j = nI (tt j) ∧ G.1 124 j = a j ∧ G.1 125 j = d j) (hns : ns ≤ 100) (c2 : G.1 79 61 = nI ns) (hm2 : ∀ i, i < ns → mm2 i < 20 ∧ tt2 i < 10 ∧ (d2 i = 0 ∨ d2 i = 1)) (hr2 : ∀ j, j < ns → G.1 128 j = nI (mm2 j) ∧ G.1 129 j = nI (tt2 j) ∧ G.1 130 j = a2 j ∧ G.1 131 j = d2 j) (hnr : nr ≤ 30) (c3 : G.1 79 80 = nI nr) (hr3 : ∀ j, j < nr → G.1 140 j = pp j) : ∃ R : v_M, f_X12_back N (nI k) G = some (nI dk, R) ∧ v_fr [88, 89, 90, 91, 92, 93, 122, 123, 124, 125, 128, 129, 130, 131, 140] [(79, 1), (79, 3), (79, 60), (79, 61), (79, 91), (79, 92)] G R ∧ R.1 79 1 = nI dk ∧ R.1 79 3 = nI nmk ∧ (∀ i, i < 480 → R.1 88 i = mkr G (2000 * k) i ∧ R.1 89 i = mkr G (2000 * k + 480) i ∧ R.1 90 i = mkr G (2000 * k + 960) i ∧ R.1 91 i = mkr G (2000 * k + 1440) i) ∧ (∀ i, i < 20 → R.1 92 i = mkr G (2000 * k + 1920) i ∧ R.1 93 i = mkr G (2000 * k + 1940) i) ∧ (R.1 79 60 = nI (pre (sel mm nmk) n).length ∧ cmp (R.1 122) (fun j => nI (mm j)) (pre (sel mm nmk) n) ∧ cmp (R.1 123) (fun j => nI (tt j)) (pre (sel mm nmk) n) ∧ cmp (R.1 124) a (pre (sel mm nmk) n) ∧ cmp (R.1 125) d (pre (sel mm nmk) n)) ∧ (R.1 79 61 = nI (pre (sel mm2 nmk) ns).length ∧ cmp (R.1 128) (fun j => nI (mm2 j)) (pre (sel mm2 nmk) ns) ∧ cmp (R.1 129) (fun j => nI (tt2 j)) (pre (sel mm2 nmk) ns) ∧ cmp (R.1 130) a2 (pre (sel mm2 nmk) ns) ∧ cmp (R.1 131) d2 (pre (sel mm2 nmk) ns)) ∧ ∀ j, j < nr → R.1 140 j = pgo nmk (pp j) := by
  have f0 : v_fr [] [(79, 92)] G (v_wr G 79 92 1) := v_fro (by decide) v_frR
  obtain ⟨A, a1, a3, a4, a5⟩ := e_carB hN hk (M := v_wr G 79 92 1) (by rw [v_rd, if_pos ⟨rfl, rfl⟩])
  have mk0 : ∀ o i, mkr (v_wr G 79 92 1) o i = mkr G o i := fun o i => by unfold mkr; rw [v_rdn (by decide)]
  simp only [mk0] at a4 a5
  have fA : v_fr [88, 89, 90, 91, 92, 93] [(79, 91), (79, 92)] G A := v_frt (by decide) (by decide) (v_frt (W := [88, 89, 90, 91, 92, 93]) (O := [(79, 91), (79, 92)]) (by decide) (by decide) v_frR f0) a3
  have fB : v_fr [88, 89, 90, 91, 92, 93] [(79, 1), (79, 3), (79, 91), (79, 92)] G (v_wr (v_wr A 79 1 (nI dk)) 79 3 (nI nmk)) := v_fro (by decide) (v_fro (by decide) (v_frt (W := [88, 89, 90, 91, 92, 93]) (O := [(79, 1), (79, 3), (79, 91), (79, 92)]) (by decide) (by decide) v_frR fA))
  have rowB : ∀ c, c ≠ 79 → (v_wr (v_wr A 79 1 (nI dk)) 79 3 (nI nmk)).1 c = A.1 c := fun c hc => by rw [v_wr_n hc, v_wr_n hc]
  have b3 : (v_wr (v_wr A 79 1 (nI dk)) 79 3 (nI nmk)).1 79 3 = nI nmk := by rw [v_rd, if_pos ⟨rfl, rfl⟩]
  have b1 : (v_wr (v_wr A 79 1 (nI dk)) 79 3 (nI nmk)).1 79 1 = nI dk := by rw [v_rd, if_neg (fun z => absurd z.2 (by decide)), v_rd, if_pos ⟨rfl, rfl⟩]
  generalize hBB : v_wr (v_wr A 79 1 (nI dk)) 79 3 (nI nmk) = B at fB rowB b3 b1
  have hclr : clr B nmk npk := fun i hi hp => by
    obtain ⟨u1, u2, u3, u4⟩ := a4 i (by omega)
    rw [rowB 88 (by decide), rowB 89 (by decide), rowB 90 (by decide), rowB 91 (by decide), u1, u2, u3, u4]
    exact hz i hi hp
  obtain ⟨B', q1, q2, q3⟩ := r_clr2 (show 100 ≤ N by omega) hk n20 n24 nmk 0 N B (by omega) (by omega) b3 (by rw [v_keepR fB 146 (by decide), g146]) hclr
  have eB : B' = B := Prod.ext q2 q3
  rw [eB] at q1
  obtain ⟨C, r1, r2, r3, r4⟩ := r_fg1 (N := N) hn hm n20 n 0 N B (by omega) (by omega) (by rw [v_keepC fB 79 60 (by decide), c1]) b3 ⟨cmp_0, cmp_0, cmp_0, cmp_0⟩ (fun j _ hj => by
    rw [v_keepR fB 122 (by decide), v_keepR fB 123 (by decide), v_keepR fB 124 (by decide), v_keepR fB 125 (by decide)]
    exact hr j hj)
  obtain ⟨D, s1, s2, s3, s4⟩ := r_fg2 (N := N) hns hm2 n20 ns 0 N C (by omega) (by omega) (by rw [v_keepC r2 79 61 (by decide), v_keepC fB 79 61 (by decide), c2]) (by rw [v_keepC r2 79 3 (by decide), b3]) ⟨cmp_0, cmp_0, cmp_0, cmp_0⟩ (fun j _ hj => by
    rw [v_keepR r2 128 (by decide), v_keepR r2 129 (by decide), v_keepR r2 130 (by decide), v_keepR r2 131 (by decide), v_keepR fB 128 (by decide), v_keepR fB 129 (by decide), v_keepR fB 130 (by decide), v_keepR fB 131 (by decide)]
    exact hr2 j hj)
  obtain ⟨E, t1, t2, t3⟩ := r_fg3 N (n := nr) (nk := nmk) (G := pp) hnr nr 0 N D (by omega) (by omega) (by rw [v_keepC s2 79 80 (by decide), v_keepC r2 79 80 (by decide), v_keepC fB 79 80 (by decide), c3]) (by rw [v_keepC s2 79 3 (by decide), v_keepC r2 79 3 (by decide), b3]) (fun j hj => absurd hj (by omega)) (fun j _ hj => by
    rw [v_keepR s2 140 (by decide), v_keepR r2 140 (by decide), v_keepR fB 140 (by decide)]
    exact hr3 j hj)
  have eE : E.1 79 1 = nI dk := by rw [v_keepC t2 79 1 (by decide), v_keepC s2 79 1 (by decide), v_keepC r2 79 1 (by decide), b1]
  refine ⟨E, ?_, v_frt (by decide) (by decide) (v_frt (by decide) (by decide) (v_frt (by decide) (by decide) (v_frt (W := [88, 89, 90, 91, 92, 93, 122, 123, 124, 125, 128, 129, 130, 131, 140]) (O := [(79, 1), (79, 3), (79, 60), (79, 61), (79, 91), (79, 92)]) (by decide) (by decide) v_frR fB) r2) s2) t2, eE, ?_, fun i hi => ?_, fun i hi => ?_, ⟨?_, ?_⟩, ⟨?_, ?_⟩, t3⟩
  · unfold f_X12_back
    rw [show (0 : Int64) = (0 : Int32).toInt64 from rfl, show (3 : Int64) = (3 : Int32).toInt64 from rfl, e_in2, Option.bind_some, v_wiTe (show (0 : Int32) ≤ nI k ∧ nI k ≤ 3 from ⟨nI_le (a := 0) (by omega) (by omega), nI_le (b := 3) (by omega) (by omega)⟩)]
    simp only [v_ibN (show k < 4 by omega) (show 4 < 2 ^ 31 by omega), nI_clamp (show k < 2 ^ 31 by omega), v_ckT, v_letE, v_b1, g149]
    rw [if_neg (show ¬ (1 : Int32) = 0 by decide), a1, Option.bind_some]
    rw [v_rdn (show (147 : Nat) ≠ 79 by decide), v_keepR fA 148 (by decide), v_keepR fA 147 (by decide), g148, g147, hBB]
    rw [show nI 0 = 0 from rfl] at q1
    rw [q1]
    unfold f_X12_forgets
    rw [show nI (pre (sel mm nmk) 0).length = 0 from rfl, show nI 0 = 0 from rfl] at r1
    rw [show nI (pre (sel mm2 nmk) 0).length = 0 from rfl, show nI 0 = 0 from rfl] at s1
    rw [show nI 0 = 0 from rfl] at t1
    rw [r1, s1, t1, Option.bind_some, eE]
  · rw [v_keepC t2 79 3 (by decide), v_keepC s2 79 3 (by decide), v_keepC r2 79 3 (by decide), b3]
  · rw [v_keepR t2 88 (by decide), v_keepR t2 89 (by decide), v_keepR t2 90 (by decide), v_keepR t2 91 (by decide), v_keepR s2 88 (by decide), v_keepR s2 89 (by decide), v_keepR s2 90 (by decide), v_keepR s2 91 (by decide), v_keepR r2 88 (by decide), v_keepR r2 89 (by decide), v_keepR r2 90 (by decide), v_keepR r2 91 (by decide), rowB 88 (by decide), rowB 89 (by decide), rowB 90 (by decide), rowB 91 (by decide)]
    exact a4 i hi
  · rw [v_keepR t2 92 (by decide), v_keepR t2 93 (by decide), v_keepR s2 92 (by decide), v_keepR s2 93 (by decide), v_keepR r2 92 (by decide), v_keepR r2 93 (by decide), rowB 92 (by decide), rowB 93 (by decide)]
    exact a5 i hi
  · rw [v_keepC t2 79 60 (by decide), v_keepC s2 79 60 (by decide), r3]
  · rw [v_keepR t2 122 (by decide), v_keepR t2 123 (by decide), v_keepR t2 124 (by decide), v_keepR t2 125 (by decide), v_keepR s2 122 (by decide), v_keepR s2 123 (by decide), v_keepR s2 124 (by decide), v_keepR s2 125 (by decide)]
    exact r4
  · rw [v_keepC t2 79 61 (by decide), s3]
  · rw [v_keepR t2 128 (by decide), v_keepR t2 129 (by decide), v_keepR t2 130 (by decide), v_keepR t2 131 (by decide)]
    exact s4
theorem pre_some {b : Nat → Option Nat} {n s : Nat} (h : s < (pre b n).length) : ∃ j, (pre b n)[s]? = some j := ⟨(pre b n)[s], List.getElem?_eq_getElem h⟩
theorem st_back {N : Nat} (hN : 1000 ≤ N) {P : v_P} (x1 : Int32) {M : v_M} {np nm n ns nr : Nat} (ht : J_time M) (hd : J_drawc M np) (hf : J_fleetc M np nm) (hs : J_stac M nm n) (he : J_seenc M nm ns) (hp : J_papc M nm nr) (hm : J_mrk P M np) : ∃ (r : Int32) (M1 M2 : v_M), f_X11_back N P x1 M = some (r, M1) ∧ f_X12_back N x1 M1 = some (r, M2) ∧ J_time M2 ∧ (∃ nm' n' ns' nr' : Nat, J_fleetc M2 np nm' ∧ J_stac M2 nm' n' ∧ J_seenc M2 nm' ns' ∧ J_papc M2 nm' nr') ∧ v_fr bkV bkQ M M2 := by
  by_cases a : 0 ≤ x1 ∧ x1 ≤ 3
  rotate_left
  · refine ⟨-1, M, M, ?_, ?_, ht, ⟨nm, n, ns, nr, hf, hs, he, hp⟩, v_frR⟩
    · unfold f_X11_back
      rw [e_within, Option.bind_some, v_wiFe a]
    · unfold f_X12_back
      rw [show (0 : Int64) = (0 : Int32).toInt64 from rfl, show (3 : Int64) = (3 : Int32).toInt64 from rfl, e_in2, Option.bind_some, v_wiFe a]
  obtain ⟨k, hk, rfl⟩ := i_idx (c := 4) (by omega) (show 0 ≤ x1 ∧ x1 ≤ nI 4 - 1 from a)
  rcases hm.1 k hk with ⟨u1, u2⟩ | ⟨q, npk, nmk, dk, u1, u2, u3, u4, u5⟩
  · refine ⟨-1, M, M, ?_, ?_, ht, ⟨nm, n, ns, nr, hf, hs, he, hp⟩, v_frR⟩
    · unfold f_X11_back
      rw [e_within, Option.bind_some, v_wiTe a]
      simp only [v_ibN hk (show 4 < 2 ^ 31 by omega), nI_clamp (show k < 2 ^ 31 by omega), v_ckT, u1, v_opt]
    · unfold f_X12_back
      rw [show (0 : Int64) = (0 : Int32).toInt64 from rfl, show (3 : Int64) = (3 : Int32).toInt64 from rfl, e_in2, Option.bind_some, v_wiTe a]
      simp only [v_ibN hk (show 4 < 2 ^ 31 by omega), nI_clamp (show k < 2 ^ 31 by omega), v_ckT]
      rw [if_pos u2]
  obtain ⟨G, g1, g2, g3, g4, g5, g6, ⟨g7, g8, g9, g10, g11⟩, ⟨g12, g13, g14, g15⟩, g16⟩ := back_c hN hk u1 u2 u5 hf hs he hp
  obtain ⟨⟨k1, k2, k3, k4, k5, k6⟩, k7, k8⟩ := u5
  have n20 := k7.1
  have m20 : nm ≤ 20 := hf.2.2.1.1
  have h24 := hd.1
  obtain ⟨s1, s2, s3, s4, s5⟩ := hs
  obtain ⟨e1, e2, e3, e4⟩ := he
  obtain ⟨p1, p2, p3, p4, p5⟩ := hp
  have mkG : ∀ o i, mkr G o i = mkr M o i := fun o i => by unfold mkr; rw [v_keepR g2 145 (by decide)]
  have sm : ∀ i, i < n → ∃ m t : Nat, m < nm ∧ t < 10 ∧ tN (M.1 122 i) = m ∧ tN (M.1 123 i) = t ∧ M.1 122 i = nI m ∧ M.1 123 i = nI t := fun i hi => by
    obtain ⟨⟨m, t, a1, a2, a3, a4, a5⟩, -⟩ := s4 i hi
    exact ⟨m, t, a1, a2, by rw [a3, tN_nI (by omega)], by rw [a4, tN_nI (by omega)], a3, a4⟩
  have em : ∀ i, i < ns → ∃ m t : Nat, m < nm ∧ t < 10 ∧ tN (M.1 128 i) = m ∧ tN (M.1 129 i) = t ∧ M.1 128 i = nI m ∧ M.1 129 i = nI t ∧ (M.1 63 i = 0 ∨ M.1 63 i = 1) ∧ M.1 131 i = M.1 63 i ∧ ∃ d : Nat, d ≤ 9999 ∧ M.1 62 i = nI d ∧ M.1 130 i = nI d := fun i hi => by
    obtain ⟨m, t, d, a1, a2, a3, a4, a5, a6, a7, a8, a9, a10⟩ := e4 i hi
    exact ⟨m, t, a1, a2, by rw [a5, tN_nI (by omega)], by rw [a6, tN_nI (by omega)], a5, a6, a10, a9, d, a3, a7, a8⟩
  obtain ⟨R, r1, r2, r3, r4, r5, r6, ⟨r7, r8, r9, r10, r11⟩, ⟨r12, r13, r14, r15, r16⟩, r17⟩ := back_r hN hk (G := G) (npk := npk) (nmk := nmk) (dk := dk) (n := n) (ns := ns) (nr := nr) (mm := fun j => tN (M.1 122 j)) (tt := fun j => tN (M.1 123 j)) (mm2 := fun j => tN (M.1 128 j)) (tt2 := fun j => tN (M.1 129 j)) (a := M.1 54) (d := M.1 55) (a2 := M.1 62) (d2 := M.1 63) (pp := M.1 72)
    (by rw [v_keepR g2 149 (by decide), k1]) (by rw [v_keepR g2 148 (by decide), k3]) (by rw [v_keepR g2 147 (by decide), k5]) (by rw [v_keepR g2 146 (by decide), k4]) n20 (by omega)
    (fun i hi hz => by
      obtain ⟨w1, w2, w3, w4⟩ := k8.1 i hi
      obtain ⟨z1, z2, z3, z4⟩ := k7.2.1 i (by omega) (Or.inr hz)
      rw [mkG, mkG, mkG, mkG, w1, w2, w3, w4]
      exact ⟨z1, z2, z3, z4⟩)
    s1 (by rw [v_keepC g2 79 60 (by decide), s3])
    (fun i hi => by obtain ⟨m, t, a1, a2, a3, a4, -⟩ := sm i hi; exact ⟨by show tN (M.1 122 i) < 20; omega, by show tN (M.1 123 i) < 10; omega⟩)
    (fun j hj => by
      obtain ⟨m, t, a1, a2, a3, a4, a5, a6⟩ := sm j hj
      obtain ⟨-, b1, b2, -⟩ := s4 j hj
      rw [v_keepR g2 122 (by decide), v_keepR g2 123 (by decide), v_keepR g2 124 (by decide), v_keepR g2 125 (by decide), a3, a4]
      exact ⟨a5, a6, b1, b2⟩)
    e1 (by rw [v_keepC g2 79 61 (by decide), e3])
    (fun i hi => by obtain ⟨m, t, a1, a2, a3, a4, a5, a6, a7, -⟩ := em i hi; exact ⟨by show tN (M.1 128 i) < 20; omega, by show tN (M.1 129 i) < 10; omega, a7⟩)
    (fun j hj => by
      obtain ⟨m, t, a1, a2, a3, a4, a5, a6, a7, a8, d, a9, a10, a11⟩ := em j hj
      rw [v_keepR g2 128 (by decide), v_keepR g2 129 (by decide), v_keepR g2 130 (by decide), v_keepR g2 131 (by decide), a3, a4]
      exact ⟨a5, a6, by rw [a11, a10], a8⟩)
    p1 (by rw [v_keepC g2 79 80 (by decide), p3])
    (fun j hj => by rw [v_keepR g2 140 (by decide)]; exact (p4 j hj).1.1)
  have L1 := pre_le (sel (fun j => tN (M.1 122 j)) nmk) n
  have L2 := pre_le (sel (fun j => tN (M.1 128 j)) nmk) ns
  refine ⟨nI dk, G, R, g1, r1, ⟨dk, u4, by rw [v_keepC r2 0 0 (by decide), g3], r3⟩, ⟨nmk, (pre (sel (fun j => tN (M.1 122 j)) nmk) n).length, (pre (sel (fun j => tN (M.1 128 j)) nmk) ns).length, nr, ⟨?_, r4, ?_, ?_⟩, ⟨by omega, ?_, r7, fun s hs' => ?_, ?_⟩, ⟨by omega, ?_, r12, fun s hs' => ?_⟩, ⟨p1, ?_, ?_, fun j hj => ?_, fun j hj => ?_⟩⟩, v_frt (by decide) (by decide) (v_frt (W := bkV) (O := bkQ) (by decide) (by decide) v_frR g2) r2⟩
  · rw [v_keepC r2 11 0 (by decide), g4]
  · refine JFa.more (JFa_c k7 (fun i hi => ?_) (fun i hi => ?_)) u3
    · rw [v_keepR r2 12 (by decide), v_keepR r2 13 (by decide), v_keepR r2 14 (by decide), v_keepR r2 15 (by decide)]
      exact g5 i hi
    · rw [v_keepR r2 16 (by decide), v_keepR r2 17 (by decide)]
      exact g6 i hi
  · refine JFb_c n20 k8 (fun i hi => ?_) (fun i hi => ?_) (fun i hi => ?_) (fun i hi => ?_)
    · rw [v_keepR r2 12 (by decide), v_keepR r2 13 (by decide), v_keepR r2 14 (by decide), v_keepR r2 15 (by decide)]
      exact g5 i hi
    · rw [v_keepR r2 16 (by decide), v_keepR r2 17 (by decide)]
      exact g6 i hi
    · have := r5 i hi
      simp only [mkG] at this
      exact this
    · have := r6 i hi
      simp only [mkG] at this
      exact this
  · rw [v_keepC r2 52 0 (by decide), g7]
  · obtain ⟨j, hj⟩ := pre_some hs'
    obtain ⟨v1, v2⟩ := sel_get hj
    obtain ⟨m, t, a1, a2, a3, a4, a5, a6⟩ := sm j v1
    obtain ⟨-, b1, b2, b3⟩ := s4 j v1
    have v2' : tN (M.1 122 j) < nmk := v2
    unfold J_sta1
    rw [v_keepR r2 53 (by decide), v_keepR r2 54 (by decide), v_keepR r2 55 (by decide), r8 s j hj, r9 s j hj, r10 s j hj, r11 s j hj, g9 s j hj, g10 s j hj, g11 s j hj]
    exact ⟨⟨tN (M.1 122 j), tN (M.1 123 j), v2', by omega, rfl, rfl, rfl⟩, rfl, rfl, b3⟩
  · unfold J_chn wkO tfO ky at g8 ⊢
    rw [v_keepR r2 53 (by decide), v_keepR r2 54 (by decide), v_keepR r2 55 (by decide), v_keepR r2 56 (by decide), v_keepR r2 57 (by decide), v_keepR r2 58 (by decide), v_keepR r2 59 (by decide), v_keepR r2 60 (by decide)]
    exact g8
  · rw [v_keepC r2 52 9 (by decide), g12]
  · obtain ⟨j, hj⟩ := pre_some hs'
    obtain ⟨v1, v2⟩ := sel_get hj
    obtain ⟨m, t, a1, a2, a3, a4, a5, a6, a7, a8, d, a9, a10, a11⟩ := em j v1
    have v2' : tN (M.1 128 j) < nmk := v2
    refine ⟨tN (M.1 128 j), tN (M.1 129 j), d, v2', by omega, a9, ?_⟩
    rw [v_keepR r2 61 (by decide), v_keepR r2 62 (by decide), v_keepR r2 63 (by decide), r13 s j hj, r14 s j hj, r15 s j hj, r16 s j hj, g13 s j hj, g14 s j hj, g15 s j hj]
    exact ⟨rfl, rfl, rfl, a10, a10, rfl, a7⟩
  · rw [v_keepC r2 71 0 (by decide), v_keepC g2 71 0 (by decide), p2]
  · rw [v_keepC r2 79 80 (by decide), v_keepC g2 79 80 (by decide), p3]
  · obtain ⟨⟨b1, b2, b3⟩, b4, b5, b6⟩ := p4 j hj
    rw [v_keepR r2 72 (by decide), v_keepR r2 73 (by decide), v_keepR r2 75 (by decide), v_keepR r2 141 (by decide), v_keepR r2 142 (by decide), v_keepR g2 73 (by decide), v_keepR g2 75 (by decide), v_keepR g2 141 (by decide), v_keepR g2 142 (by decide), r17 j hj, g16 j hj]
    refine ⟨⟨rfl, b2, b3⟩, ?_, b5, b6⟩
    unfold pgo
    rcases b4 with z | ⟨m, hm', z⟩
    · rw [z]
      left
      split <;> rfl
    · rw [z]
      by_cases y : m < nmk
      · rw [if_pos (nI_lt y (by omega))]
        exact Or.inr ⟨m, y, rfl⟩
      · rw [if_neg (nI_nlt (by omega) (by omega))]
        exact Or.inl rfl
  · rw [v_keepR r2 76 (by decide), v_keepR r2 143 (by decide), v_keepR g2 76 (by decide), v_keepR g2 143 (by decide)]
    exact p5 j hj
