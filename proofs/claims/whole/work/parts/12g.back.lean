/-! back -/
theorem JFa.more {np np' nm : Nat} {w s b l f t : Nat → Int32} (h : JFa np nm w s b l f t) (hn : np ≤ np') : JFa np' nm w s b l f t := by
  obtain ⟨h3, h4, h5⟩ := h
  exact ⟨h3, fun i hi hc => h4 i hi (by omega), h5⟩
theorem chn0 {M : v_M} (h : ∀ w, w < 200 → M.1 59 w = -1) : J_chn M 0 := ⟨fun i hi => absurd hi (by omega), fun i hi => absurd hi (by omega), fun w hw => by rw [h w hw]; rfl, fun t i hi => absurd hi (by omega)⟩
theorem tN_nI {n : Nat} (h : n < 2 ^ 31) : tN (nI n) = n := by unfold tN; rw [nI_toInt h]; rfl
def bkW : List Nat := [12, 13, 14, 15, 16, 17, 53, 54, 55, 56, 57, 58, 59, 60, 61, 62, 63, 72]
def bkO : List (Nat × Nat) := [(0, 0), (11, 0), (52, 0), (52, 9)]
def bkV : List Nat := [12, 13, 14, 15, 16, 17, 53, 54, 55, 56, 57, 58, 59, 60, 61, 62, 63, 72, 88, 89, 90, 91, 92, 93, 122, 123, 124, 125, 128, 129, 130, 131, 140]
def bkQ : List (Nat × Nat) := [(0, 0), (11, 0), (52, 0), (52, 9), (79, 1), (79, 3), (79, 60), (79, 61), (79, 91), (79, 92)]
theorem cmp_0 {F G : Nat → Int32} {b : Nat → Option Nat} : cmp F G (pre b 0) := fun s j h => by simp [pre] at h
/-- the class, going back -/
theorem back_c {N : Nat} (hN : 1000 ≤ N) {P : v_P} {k q : Nat} (hk : k < 4) (hP : P 77 k = some q) (hq : 150 ≤ q) {M : v_M} {np nm npk nmk dk n ns nr : Nat} (hmk : mkd M q k npk nmk dk) (hf : J_fleetc M np nm) (hs : J_stac M nm n) (he : J_seenc M nm ns) (hp : J_papc M nm nr) : ∃ M1 : v_M, f_X11_back N P (nI k) M = some (nI dk, M1) ∧ v_fr bkW bkO M M1 ∧ M1.1 0 0 = nI dk ∧ M1.1 11 0 = nI nmk ∧ (∀ i, i < 480 → M1.1 12 i = M.1 (q + 1) i ∧ M1.1 13 i = M.1 (q + 2) i ∧ M1.1 14 i = M.1 (q + 3) i ∧ M1.1 15 i = M.1 (q + 4) i) ∧ (∀ i, i < 20 → M1.1 16 i = M.1 (q + 5) i ∧ M1.1 17 i = M.1 (q + 6) i) ∧ (M1.1 52 0 = nI (pre (sel (fun j => tN (M.1 122 j)) nmk) n).length ∧ J_chn M1 (pre (sel (fun j => tN (M.1 122 j)) nmk) n).length ∧ cmp (M1.1 53) (fun j => nI (10 * tN (M.1 122 j) + tN (M.1 123 j))) (pre (sel (fun j => tN (M.1 122 j)) nmk) n) ∧ cmp (M1.1 54) (M.1 54) (pre (sel (fun j => tN (M.1 122 j)) nmk) n) ∧ cmp (M1.1 55) (M.1 55) (pre (sel (fun j => tN (M.1 122 j)) nmk) n)) ∧ (M1.1 52 9 = nI (pre (sel (fun j => tN (M.1 128 j)) nmk) ns).length ∧ cmp (M1.1 61) (fun j => nI (10 * tN (M.1 128 j) + tN (M.1 129 j))) (pre (sel (fun j => tN (M.1 128 j)) nmk) ns) ∧ cmp (M1.1 62) (M.1 62) (pre (sel (fun j => tN (M.1 128 j)) nmk) ns) ∧ cmp (M1.1 63) (M.1 63) (pre (sel (fun j => tN (M.1 128 j)) nmk) ns)) ∧ ∀ j, j < nr → M1.1 72 j = pgo nmk (M.1 72 j) := by
  obtain ⟨⟨k1, k2, k3, k4, k5, k6⟩, k7, k8⟩ := hmk
  have n20 := k7.1
  have m20 : nm ≤ 20 := hf.2.2.1.1
  obtain ⟨s1, s2, s3, s4, s5⟩ := hs
  obtain ⟨e1, e2, e3, e4⟩ := he
  obtain ⟨p1, p2, p3, p4, p5⟩ := hp
  have sm : ∀ i, i < n → (tN (M.1 122 i) < 20 ∧ tN (M.1 123 i) < 10) ∧ M.1 53 i = nI (10 * tN (M.1 122 i) + tN (M.1 123 i)) := fun i hi => by
    obtain ⟨⟨m, t, a1, a2, a3, a4, a5⟩, -⟩ := s4 i hi
    rw [a3, a4, tN_nI (by omega), tN_nI (by omega), a5]
    exact ⟨⟨by omega, a2⟩, rfl⟩
  have em : ∀ i, i < ns → (tN (M.1 128 i) < 20 ∧ tN (M.1 129 i) < 10 ∧ (M.1 63 i = 0 ∨ M.1 63 i = 1)) ∧ M.1 61 i = nI (10 * tN (M.1 128 i) + tN (M.1 129 i)) := fun i hi => by
    obtain ⟨m, t, d, a1, a2, a3, a4, a5, a6, a7, a8, a9, a10⟩ := e4 i hi
    rw [a5, a6, tN_nI (by omega), tN_nI (by omega), a4]
    exact ⟨⟨by omega, a2, a10⟩, rfl⟩
  obtain ⟨A, a1, a2, a3, a4, a5, a6, a7⟩ := e_become N 11 q (by omega) M
  have fA : v_fr bkW bkO M A := by
    refine ⟨fun c j h1 h2 => ?_, fun c _ => by rw [a6]⟩
    by_cases z : c = 11
    · subst z
      exact a7 j (fun y => h2 (by rw [y]; decide))
    · rw [a5 c (by
        by_cases y : c < 11 ∨ 17 < c
        · exact y
        · exact absurd (show c ∈ bkW by unfold bkW; simp only [List.mem_cons, List.not_mem_nil, or_false]; omega) h1)]
  have B0 : A.1 78 k = nI dk := by rw [a5 78 (by omega), k2]
  have fB : v_fr bkW bkO M (v_wr A 0 0 (nI dk)) := v_fro (by decide) fA
  generalize hBB : v_wr A 0 0 (nI dk) = B at fB
  have b11 : B.1 11 0 = nI nmk := by rw [← hBB, v_rdn (by decide), a2, k6]
  have b52 : B.1 52 = M.1 52 := by rw [← hBB, v_wr_n (by decide), a5 52 (by omega)]
  have bR : ∀ c, 17 < c → c ≠ 0 → B.1 c = M.1 c := fun c h1 h2 => by rw [← hBB, v_wr_n h2, a5 c (by omega)]
  obtain ⟨C, c1, c2, c3⟩ := e_fillAll (N := N) 59 (-1) (show 200 < 2 ^ 31 by omega) (by omega) (v_wr B 52 0 0)
  have fC : v_fr bkW bkO M C := v_frt (by decide) (by decide) (v_fro (by decide) fB) c2
  have cR : ∀ c, c ∈ [53, 54, 55, 61, 62, 63] → C.1 c = M.1 c := fun c hc => by
    have : 17 < c ∧ c ≠ 52 ∧ c ≠ 59 := by
      simp only [List.mem_cons, List.not_mem_nil, or_false] at hc
      omega
    rw [v_keepR c2 c (by simp; omega), v_wr_n (by omega), bR c (by omega) (by omega)]
  obtain ⟨D, d1, d2, d3, d4, d5⟩ := e_fg1 (show 300 ≤ N by omega) (n := n) (nk := nmk) (mm := fun j => tN (M.1 122 j)) (tt := fun j => tN (M.1 123 j)) (a := M.1 54) (d := M.1 55) s1 n20 (fun i hi => (sm i hi).1) n 0 N C (by omega) (by omega) (by rw [v_keepC c2 52 0 (by decide), v_rd, if_pos ⟨rfl, rfl⟩]; rfl) (chn0 (fun w hw => by rw [c3, if_pos hw])) ⟨cmp_0, cmp_0, cmp_0⟩ (fun j _ hj => by
    rw [cR 53 (by decide), cR 54 (by decide), cR 55 (by decide)]
    exact ⟨(sm j hj).2, rfl, rfl⟩)
  have fD : v_fr bkW bkO M D := v_frt (by decide) (by decide) fC d2
  have d9 : D.1 52 9 = nI ns := by rw [v_keepC d2 52 9 (by decide), v_keepC c2 52 9 (by decide), v_rd, if_neg (fun z => absurd z.2 (by decide)), b52, e2]
  obtain ⟨F, g1, g2, g3⟩ := e_fg2 (show 300 ≤ N by omega) (n := ns) (nk := nmk) (mm := fun j => tN (M.1 128 j)) (tt := fun j => tN (M.1 129 j)) (a := M.1 62) (d := M.1 63) e1 n20 (fun i hi => (em i hi).1) ns 0 N (v_wr D 52 9 0) (by omega) (by omega) (by rw [v_rd, if_pos ⟨rfl, rfl⟩]; rfl) ⟨cmp_0, cmp_0, cmp_0⟩ (fun j _ hj => by
    rw [v_wr_n (by decide), v_wr_n (by decide), v_wr_n (by decide), v_keepR d2 61 (by decide), v_keepR d2 62 (by decide), v_keepR d2 63 (by decide), cR 61 (by decide), cR 62 (by decide), cR 63 (by decide)]
    exact ⟨(em j hj).2, rfl, rfl⟩)
  have fDw : v_fr [] [(52, 9)] D (v_wr D 52 9 0) := v_fro (by decide) v_frR
  have fDF : v_fr [61, 62, 63] [(52, 9)] D F := v_frt (by decide) (by decide) (v_frt (W := [61, 62, 63]) (O := [(52, 9)]) (by decide) (by decide) v_frR fDw) g2
  have fF : v_fr bkW bkO M F := v_frt (by decide) (by decide) fD fDF
  obtain ⟨G, h1, h2, h3⟩ := e_fg3 N (n := nr) (nk := nmk) (G := M.1 72) p1 nr 0 N F (by omega) (by omega) (by rw [v_keepC fF 71 0 (by decide), p2]) (fun j hj => absurd hj (by omega)) (fun j _ hj => by
    rw [v_keepR fDF 72 (by decide), v_keepR d2 72 (by decide), v_keepR c2 72 (by decide), v_wr_n (by decide), bR 72 (by omega) (by omega)])
  have fG : v_fr bkW bkO M G := v_frt (by decide) (by decide) fF h2
  have low : ∀ c, c < 52 → G.1 c = B.1 c := fun c hc => by
    rw [v_keepR h2 c (by simp; omega), v_keepR fDF c (by simp; omega), v_keepR d2 c (by simp; omega), v_keepR c2 c (by simp; omega), v_wr_n (by omega)]
  have b00 : B.1 0 0 = nI dk := by rw [← hBB, v_rd, if_pos ⟨rfl, rfl⟩]
  refine ⟨G, ?_, fG, by rw [low 0 (by omega), b00], by rw [low 11 (by omega), b11], fun i hi => ?_, fun i hi => ?_, ⟨?_, ?_, ?_⟩, ⟨?_, ?_⟩, h3⟩
  · unfold f_X11_back
    rw [e_within, Option.bind_some, v_wiTe (show (0 : Int32) ≤ nI k ∧ nI k ≤ 3 from ⟨nI_le (a := 0) (by omega) (by omega), nI_le (b := 3) (by omega) (by omega)⟩)]
    simp only [v_ibN (show k < 4 by omega) (show 4 < 2 ^ 31 by omega), nI_clamp (show k < 2 ^ 31 by omega), v_ckT, hP, v_opt]
    rw [a1, Option.bind_some]
    simp only [v_letE, B0, hBB, b11]
    unfold f_X8_forgetFrom
    rw [v_letE, b52, s2, v_letE, c1, Option.bind_some, show (0 : Int32) = nI 0 from rfl]
    rw [d1]
    unfold f_X8_forgetFrom_L74
    rw [v_letE, d9, v_letE]
    rw [show nI 0 = 0 from rfl] at g1
    rw [g1, Option.bind_some]
    unfold f_X6_forgetFrom
    rw [show F.1 11 0 = nI nmk by rw [v_keepC fDF 11 0 (by decide), v_keepC d2 11 0 (by decide), v_keepC c2 11 0 (by decide), v_rdn (by decide), b11], show (0 : Int32) = nI 0 from rfl, h1, Option.bind_some, low 0 (by omega), b00]
  · rw [low 12 (by omega), low 13 (by omega), low 14 (by omega), low 15 (by omega), ← hBB, v_wr_n (by decide), v_wr_n (by decide), v_wr_n (by decide), v_wr_n (by decide)]
    exact a3 i hi
  · rw [low 16 (by omega), low 17 (by omega), ← hBB, v_wr_n (by decide), v_wr_n (by decide)]
    exact a4 i hi
  · rw [v_keepC h2 52 0 (by decide), v_keepC fDF 52 0 (by decide), d3]
  · unfold J_chn wkO tfO ky at d4 ⊢
    rw [v_keepR h2 53 (by decide), v_keepR h2 54 (by decide), v_keepR h2 55 (by decide), v_keepR h2 56 (by decide), v_keepR h2 57 (by decide), v_keepR h2 58 (by decide), v_keepR h2 59 (by decide), v_keepR h2 60 (by decide), v_keepR fDF 53 (by decide), v_keepR fDF 54 (by decide), v_keepR fDF 55 (by decide), v_keepR fDF 56 (by decide), v_keepR fDF 57 (by decide), v_keepR fDF 58 (by decide), v_keepR fDF 59 (by decide), v_keepR fDF 60 (by decide)]
    exact d4
  · rw [v_keepR h2 53 (by decide), v_keepR h2 54 (by decide), v_keepR h2 55 (by decide), v_keepR fDF 53 (by decide), v_keepR fDF 54 (by decide), v_keepR fDF 55 (by decide)]
    exact d5
  · rw [v_keepC h2 52 9 (by decide), g3.1]
  · rw [v_keepR h2 61 (by decide), v_keepR h2 62 (by decide), v_keepR h2 63 (by decide)]
    exact g3.2
