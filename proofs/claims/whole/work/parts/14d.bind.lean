/-! orders kept; one clause -/
def Fok (F : Nat → Int) : Prop := ∀ k, k < 7 → 0 ≤ F k ∧ F k ≤ 1000000
def NumW (L : List Op) : Prop := ∀ F : Nat → Int, Fok F → ∃ v : Int, (-100000000 ≤ v ∧ v ≤ 100000000) ∧ run F L [] [v]
def TruW (L : List Op) : Prop := ∀ F : Nat → Int, Fok F → ∃ v : Int, (v = 0 ∨ v = 1) ∧ run F L [] [v]
def seg (L : List Op) (f t : Nat) : List Op := (L.drop f).take (t - f)
theorem seg_len {L : List Op} {f t : Nat} (h1 : f ≤ t) (h2 : t ≤ L.length) : (seg L f t).length = t - f := by
  unfold seg
  rw [List.length_take, List.length_drop]
  omega
theorem seg_get {L : List Op} {f t p : Nat} {o : Op} (h : (seg L f t)[p]? = some o) : L[f + p]? = some o := by
  unfold seg at h
  rw [List.getElem?_take] at h
  by_cases c : p < t - f
  · rw [if_pos c, List.getElem?_drop] at h
    exact h
  · rw [if_neg c] at h
    exact nomatch h
def J_cl (M : v_M) (q o : Nat) (L : List Op) (c : Nat) : Prop := ∃ f t : Nat, (f ≤ t ∧ t ≤ L.length) ∧ (M.1 (q + 4) c = nI f ∧ M.1 (q + 5) c = nI t ∧ M.1 117 (12 * o + c) = nI f ∧ M.1 118 (12 * o + c) = nI t) ∧ (f < t → TruW (seg L f t)) ∧ ∃ h : Nat, h ≤ 3 ∧ M.1 (q + 1) c = nI h ∧ M.1 113 (12 * o + c) = nI h ∧ (h = 0 → ∃ k d : Nat, k < 10 ∧ d ≤ 999 ∧ M.1 (q + 2) c = nI k ∧ M.1 114 (12 * o + c) = nI k ∧ M.1 (q + 3) c = nI d ∧ M.1 115 (12 * o + c) = nI d) ∧ (h = 1 → ∃ s : Nat, s ≤ f ∧ M.1 (q + 2) c = nI s ∧ M.1 116 (12 * o + c) = nI s ∧ NumW (seg L s f)) ∧ (h = 2 → M.1 114 (12 * o + c) = M.1 (q + 2) c)
def J_code (M : v_M) (q o : Nat) (L : List Op) : Prop := L.length ≤ 300 ∧ ∀ p op, L[p]? = some op → M.1 (q + 6) p = cod op ∧ M.1 108 (300 * o + p) = nI op.1 ∧ M.1 109 (300 * o + p) = nI op.2
def J_or1 (M : v_M) (q o : Nat) (L : List Op) : Prop := M.1 110 o = M.1 q 0 ∧ (∃ d : Nat, d ≤ 9999 ∧ M.1 q 1 = nI d ∧ M.1 111 o = nI d) ∧ J_code M q o L ∧ ∃ nc : Nat, nc ≤ 12 ∧ M.1 q 2 = nI nc ∧ M.1 112 o = nI nc ∧ ∀ c, c < nc → J_cl M q o L c
def bdW : List Nat := [49, 50, 51]
def bdV : List Nat := [49, 50, 51, 120, 121]
def bdO : List (Nat × Nat) := [(79, 55), (79, 56), (79, 57), (79, 58), (79, 59)]
def BC (A : v_M) (dn : Nat) (ow la lo gr : Int32) (fo : Int) : Prop := A.1 49 0 = ow ∧ A.1 49 1 = la ∧ A.1 49 2 = lo ∧ A.1 49 3 = gr ∧ (A.1 49 4).toInt = fo ∧ A.1 49 5 = nI dn
def BR (B : v_M) (ow la lo gr : Int32) (fo : Int) : Prop := B.1 79 55 = ow ∧ B.1 79 56 = la ∧ B.1 79 58 = lo ∧ B.1 79 59 = gr ∧ B.1 79 57 = nI fo.toNat
theorem e_value {N : Nat} (hN : 500 ≤ N) {q o : Nat} (hq : q = 41 ∨ 150 ≤ q) {M A : v_M} {L : List Op} {f t : Nat} (hf : f ≤ t) (ht : t ≤ L.length) (hc : J_code M q o L) (fr : v_fr bdW [] M A) {F : Nat → Int} (hF : ∀ k, k < 7 → (A.1 50 k).toInt = F k) {v : Int} (hr : run F (seg L f t) [] [v]) : ∃ (r : Int32) (A' : v_M), f_X0_valueOf N q (nI f) (nI t) A = some (r, A') ∧ v_fr [51] [] A A' ∧ r.toInt = v := by
  obtain ⟨h3, hc⟩ := hc
  have sl := seg_len hf ht
  obtain ⟨A', g1, g2, g3⟩ := e_val1 N q (F := F) (by omega) (seg L f t) f N [] [v] A hr (by rw [sl]; omega) (by rw [sl]; omega) (by rw [List.length_nil]; omega) (fun p op e => by
    rw [v_keepR fr (q + 6) (by simp [bdW]; omega)]
    exact (hc (f + p) op (seg_get e)).1) hF trivial
  refine ⟨A'.1 51 0, A', ?_, g2, g3.1⟩
  unfold f_X0_valueOf
  rw [v_letE, show v_mx 0 (nI f) = nI f from by
    unfold v_mx
    by_cases z : 0 < nI f
    · rw [if_pos z]
    · rw [if_neg z]
      rw [i_lt, i0, nI_toInt (by omega)] at z
      rw [show f = 0 by omega]
      rfl]
  rw [sl, show f + (t - f) = t by omega] at g1
  exact g1
theorem e_answer {N : Nat} (hN : 500 ≤ N) {q o : Nat} (ho : o < 12) {M B : v_M} {L : List Op} {f t : Nat} (hf : f ≤ t) (ht : t ≤ L.length) (hc : J_code M q o L) (fr : v_fr bdV bdO M B) {F : Nat → Int} (hF : ∀ k, k < 7 → (B.2 120 k).toInt = F k) {v : Int} (hr : run F (seg L f t) [] [v]) : ∃ (r : Int64) (B' : v_M), f_X12_answer N (nI o) (nI f) (nI t) B = some (r, B') ∧ v_fr [121] [] B B' ∧ r.toInt = v := by
  obtain ⟨h3, hc⟩ := hc
  have sl := seg_len hf ht
  obtain ⟨B', g1, g2, g3⟩ := e_ans1 N (F := F) ho (seg L f t) f N [] [v] B hr (by rw [sl]; omega) (by rw [sl]; omega) (by rw [List.length_nil]; omega) (fun p op e => by
    rw [v_keepR fr 108 (by decide), v_keepR fr 109 (by decide)]
    exact (hc (f + p) op (seg_get e)).2) hF trivial
  refine ⟨B'.2 121 0, B', ?_, g2, g3.1⟩
  unfold f_X12_answer
  rw [sl, show f + (t - f) = t by omega] at g1
  exact g1
theorem e_clause {N : Nat} (hN : 500 ≤ N) {q o c dn dg : Nat} (hq : q = 41 ∨ 150 ≤ q) (ho : o < 12) (hcc : c < 12) (hdn : dn < 1024) {M A : v_M} {L : List Op} (hcd : J_code M q o L) (hcl : J_cl M q o L c) (hnow : M.1 79 1 - M.1 111 o = nI dg) (hdg : dg ≤ 9999) (fr : v_fr bdW [] M A) {F : Nat → Int} (hFo : Fok F) (hF : ∀ k, k < 7 → (A.1 50 k).toInt = F k) {ow la lo gr : Int32} {fo : Int} (hfo : -100000000 ≤ fo ∧ fo ≤ 999) (hb : BC A dn ow la lo gr fo) : ∃ (A' : v_M) (ow' la' lo' gr' : Int32) (fo' : Int), f_X0_bindByClause N q (nI c) (nI dg) A = some (0, A') ∧ v_fr bdW [] M A' ∧ A'.1 50 = A.1 50 ∧ (-100000000 ≤ fo' ∧ fo' ≤ 999) ∧ BC A' dn ow' la' lo' gr' fo' ∧ ∀ B, v_fr bdV bdO M B → (∀ k, k < 7 → (B.2 120 k).toInt = F k) → BR B ow la lo gr fo → ∃ B' : v_M, f_X12_binds_ N (nI o) (nI (12 * o + c)) (nI dn) B = some (0, B') ∧ v_fr bdV bdO M B' ∧ B'.2 120 = B.2 120 ∧ BR B' ow' la' lo' gr' fo' := by
  have kA : ∀ j, j ≤ 6 → A.1 (q + j) = M.1 (q + j) := fun j hj => v_keepR fr (q + j) (by simp [bdW]; omega)
  have q3 : q + 3 ≠ 49 := by omega
  obtain ⟨f, t, ⟨f1, f2⟩, ⟨t1, t2, t3, t4⟩, -, h, h3, r1, r2, k0, k1, k2⟩ := hcl
  obtain ⟨b0, b1, b2, b3, b4, b5⟩ := hb
  have h300 := hcd.1
  have ibc := v_ibN hcc (show 12 < 2 ^ 31 by omega)
  have clc := nI_clamp (show c < 2 ^ 31 by omega)
  have ib2 := v_ibN (show 12 * o + c < 144 by omega) (show 144 < 2 ^ 31 by omega)
  have cl2 := nI_clamp (show 12 * o + c < 2 ^ 31 by omega)
  unfold f_X0_bindByClause
  simp only [ibc, clc, v_ckT, v_letE, kA 1 (by omega), kA 2 (by omega), kA 4 (by omega), r1, t1]
  have refB : ∀ B, v_fr bdV bdO M B → B.1 113 = M.1 113 ∧ B.1 114 = M.1 114 ∧ B.1 115 = M.1 115 ∧ B.1 116 = M.1 116 ∧ B.1 117 = M.1 117 ∧ B.1 111 = M.1 111 ∧ B.1 79 1 = M.1 79 1 := fun B hB => ⟨v_keepR hB 113 (by decide), v_keepR hB 114 (by decide), v_keepR hB 115 (by decide), v_keepR hB 116 (by decide), v_keepR hB 117 (by decide), v_keepR hB 111 (by decide), v_keepC hB 79 1 (by decide)⟩
  by_cases h0 : h = 0
  · subst h0
    obtain ⟨k, d, p1, p2, p3, p4, p5, p6⟩ := k0 rfl
    rw [if_pos (show nI 0 = 0 from rfl), p3, b5, its_c dn hdn k p1, v_rdn q3, kA 3 (by omega), p5]
    generalize hits : (if ((nI dn >>> (nI k &&& 31)) &&& 1) = 1 then (0 : Int32) else (1 : Int32) <<< (nI k &&& 31)) = its
    have fin : ∀ z : Int32, ∃ (A' : v_M) (ow' la' lo' gr' : Int32) (fo' : Int), f_X0_bindByClause_L85 N q z ((v_wr A 49 0 (A.1 49 0 ||| its)).1 49 1) (v_wr A 49 0 (A.1 49 0 ||| its)) = some (0, A') ∧ v_fr bdW [] M A' ∧ A'.1 50 = A.1 50 ∧ (-100000000 ≤ fo' ∧ fo' ≤ 999) ∧ BC A' dn ow' la' lo' gr' fo' ∧ (ow' = ow ||| its ∧ la' = la ||| z ∧ lo' = lo ∧ gr' = gr ∧ fo' = fo) := fun z => by
      refine ⟨v_wr (v_wr A 49 0 (A.1 49 0 ||| its)) 49 1 ((v_wr A 49 0 (A.1 49 0 ||| its)).1 49 1 ||| z), ow ||| its, la ||| z, lo, gr, fo, rfl, v_frw (by decide) (v_frw (by decide) fr), by rw [v_wr_n (by decide), v_wr_n (by decide)], hfo, ?_, rfl, rfl, rfl, rfl, rfl⟩
      unfold BC
      simp only [v_rd, true_and, Nat.reduceEqDiff, if_false, if_true, b0, b1, b2, b3, b4, b5, and_self]
    have refl : ∀ B, v_fr bdV bdO M B → BR B ow la lo gr fo → ∃ B' : v_M, f_X12_binds_ N (nI o) (nI (12 * o + c)) (nI dn) B = some (0, B') ∧ v_fr bdV bdO M B' ∧ B'.2 120 = B.2 120 ∧ BR B' (ow ||| its) (la ||| (if nI dg ≤ nI d then 0 else its)) lo gr fo := fun B hB hR => by
      obtain ⟨w1, w2, w3, w4, w5, w6, w7⟩ := refB B hB
      obtain ⟨q0, q1, q2, q3, q4⟩ := hR
      have l35 : f_X12_binds__L35 N (nI o) (nI (12 * o + c)) its B = some (0, v_wr (v_wr B 79 55 (ow ||| its)) 79 56 (la ||| (if nI dg ≤ nI d then 0 else its))) := by
        unfold f_X12_binds__L35 f_X12_binds__L79
        simp only [v_letE, v_ibN ho (show 12 < 2 ^ 31 by omega), nI_clamp (show o < 2 ^ 31 by omega), ib2, cl2, v_ckT, v_rdn, ne_eq, Nat.reduceEqDiff, not_false_eq_true, w3, w6, p6, q0]
        simp only [v_rd, true_and, Nat.reduceEqDiff, if_false, w7, hnow, q1]
        split <;> rfl
      refine ⟨v_wr (v_wr B 79 55 (ow ||| its)) 79 56 (la ||| (if nI dg ≤ nI d then 0 else its)), ?_, v_fro (by decide) (v_fro (by decide) hB), rfl, ?_⟩
      · unfold f_X12_binds_
        simp only [ib2, cl2, v_ckT, w1, w2, r2, p4]
        rw [if_pos (show nI 0 = 0 from rfl)]
        by_cases y : ((nI dn >>> (nI k &&& 31)) &&& 1) = 1
        · rw [if_pos y] at hits ⊢
          subst hits
          exact l35
        · rw [if_neg y] at hits ⊢
          subst hits
          exact l35
      · unfold BR
        simp only [v_rd, true_and, Nat.reduceEqDiff, if_false, if_true, q0, q1, q2, q3, q4, and_self]
    by_cases z : nI dg ≤ nI d
    · rw [if_pos z]
      obtain ⟨A', ow', la', lo', gr', fo', g1, g2, g3, g4, g5, g6⟩ := fin 0
      obtain ⟨rfl, rfl, rfl, rfl, rfl⟩ := g6
      refine ⟨A', _, _, _, _, _, g1, g2, g3, g4, g5, fun B hB _ hR => ?_⟩
      have := refl B hB hR
      rw [if_pos z] at this
      exact this
    · rw [if_neg z]
      obtain ⟨A', ow', la', lo', gr', fo', g1, g2, g3, g4, g5, g6⟩ := fin its
      obtain ⟨rfl, rfl, rfl, rfl, rfl⟩ := g6
      refine ⟨A', _, _, _, _, _, g1, g2, g3, g4, g5, fun B hB _ hR => ?_⟩
      have := refl B hB hR
      rw [if_neg z] at this
      exact this
  have n0 : ¬ nI h = 0 := fun z => h0 ((nI_eqX (b := 0) (by omega) (by omega)).mp z)
  rw [if_neg n0]
  by_cases h1 : h = 1
  · subst h1
    obtain ⟨s, s1, s2, s3, s4⟩ := k1 rfl
    obtain ⟨v, v1, v2⟩ := s4 F hFo
    rw [if_pos (show nI 1 = 1 from rfl), s2]
    obtain ⟨r, A1, a1, a2, a3⟩ := e_value hN hq s1 (by omega) hcd fr hF v2
    rw [a1, Option.bind_some]
    have frA : v_fr bdW [] M A1 := v_frt (by decide) (by decide) fr a2
    have mn : (v_mn (A.1 49 4) r).toInt = min fo v := by
      unfold v_mn
      by_cases z : r < A.1 49 4
      · rw [if_pos z, a3]
        rw [i_lt, a3, b4] at z
        omega
      · rw [if_neg z, b4]
        rw [i_lt, a3, b4] at z
        omega
    refine ⟨v_wr A1 49 4 (v_mn (A.1 49 4) r), ow, la, lo, gr, min fo v, rfl, v_frw (by decide) frA, by rw [v_wr_n (by decide), v_keepR a2 50 (by decide)], by omega, ?_, fun B hB hFB hR => ?_⟩
    · unfold BC
      simp only [v_rd, true_and, Nat.reduceEqDiff, if_false, if_true, v_keepR a2 49 (by decide), b0, b1, b2, b3, b5, mn, and_self]
    · obtain ⟨w1, w2, w3, w4, w5, w6, w7⟩ := refB B hB
      obtain ⟨q0, q1, q2, q3, q4⟩ := hR
      obtain ⟨l, B1, c1, c2, c3⟩ := e_answer hN ho s1 (by omega) hcd hB hFB v2
      have hB1 : v_fr bdV bdO M B1 := v_frt (by decide) (by decide) hB c2
      have e79 : B1.1 79 = B.1 79 := v_keepR c2 79 (by decide)
      -- what is put
      have put : ∀ (u : Int64) (w : Nat), u.toInt = (w : Int) → w ≤ 999 → f_X12_binds__L143 N u B1 = some (0, v_wr B1 79 57 (nI (min fo.toNat w))) := fun u w hu hw => by
        unfold f_X12_binds__L143
        have eu : u.toInt32 = nI w := by
          rw [i_eq, nI_toInt (by omega), Int64.toInt_toInt32, hu]
          exact Int.bmod_eq_of_le (by omega) (by omega)
        rw [v_letE, eu, e79, q4]
        by_cases y : nI fo.toNat ≤ nI w
        · rw [if_pos y, v_letE]
          have := (nI_leX (by omega) (by omega)).mp y
          rw [Nat.min_eq_left this]
        · rw [if_neg y, v_letE]
          have : ¬ fo.toNat ≤ w := fun q => y (nI_le q (by omega))
          rw [Nat.min_eq_right (by omega)]
      refine ⟨v_wr B1 79 57 (nI (min fo v).toNat), ?_, v_fro (by decide) hB1, by rw [show (v_wr B1 79 57 (nI (min fo v).toNat)).2 = B1.2 from rfl, c2.2 120 (by decide)], ?_⟩
      · unfold f_X12_binds_
        simp only [ib2, cl2, v_ckT, w1, w4, w5, r2, s3, t3]
        rw [if_neg (show ¬ nI 1 = 0 by decide), if_pos (show nI 1 = 1 from rfl), c1, Option.bind_some, v_letE]
        have l999 : (999 : Int64).toInt = 999 := rfl
        have l000 : (0 : Int64).toInt = 0 := rfl
        have ge0 : (0 ≤ lg_cmp l (0 : Int64)) ↔ 0 ≤ v := by
          rw [show (0 ≤ lg_cmp l (0 : Int64)) ↔ ¬ (lg_cmp l (0 : Int64) < 0) by rw [i_le, i_lt]; omega, lg_cmp_lt, Int64.lt_iff_toInt_lt, c3, l000]; omega
        have le9 : (lg_cmp l (999 : Int64) ≤ 0) ↔ v ≤ 999 := by
          rw [show (lg_cmp l (999 : Int64) ≤ 0) ↔ ¬ (0 < lg_cmp l (999 : Int64)) by rw [i_le, i_lt]; omega, lg_cmp_gt, Int64.lt_iff_toInt_lt, c3, l999]; omega
        by_cases y0 : 0 ≤ v
        · rw [if_pos (ge0.mpr y0)]
          by_cases y9 : v ≤ 999
          · rw [if_pos (le9.mpr y9), put l v.toNat (by rw [c3]; omega) (by omega), show (min fo v).toNat = min fo.toNat v.toNat by omega]
          · rw [if_neg (fun q => y9 (le9.mp q)), put 999 999 (by rw [l999]; rfl) (by omega), show (min fo v).toNat = min fo.toNat 999 by omega]
        · rw [if_neg (fun q => y0 (ge0.mp q)), put 0 0 (by rw [l000]; rfl) (by omega), show (min fo v).toNat = min fo.toNat 0 by omega]
      · unfold BR
        simp only [v_rd, true_and, Nat.reduceEqDiff, if_false, if_true, e79, q0, q1, q2, q3, and_self]
  have n1 : ¬ nI h = 1 := fun z => h1 ((nI_eqX (b := 1) (by omega) (by omega)).mp z)
  rw [if_neg n1]
  by_cases h2 : h = 2
  · subst h2
    have k2' := k2 rfl
    rw [if_pos (show nI 2 = 2 from rfl)]
    refine ⟨v_wr A 49 2 (A.1 49 2 ||| M.1 (q + 2) c), ow, la, lo ||| M.1 (q + 2) c, gr, fo, rfl, v_frw (by decide) fr, by rw [v_wr_n (by decide)], hfo, ?_, fun B hB _ hR => ?_⟩
    · unfold BC
      simp only [v_rd, true_and, Nat.reduceEqDiff, if_false, if_true, b0, b1, b2, b3, b4, b5, and_self]
    · obtain ⟨w1, w2, w3, w4, w5, w6, w7⟩ := refB B hB
      obtain ⟨q0, q1, q2, q3, q4⟩ := hR
      refine ⟨v_wr B 79 58 (lo ||| M.1 (q + 2) c), ?_, v_fro (by decide) hB, rfl, ?_⟩
      · unfold f_X12_binds_
        simp only [ib2, cl2, v_ckT, w1, w2, r2, k2', v_letE, q2]
        rw [if_neg (show ¬ nI 2 = 0 by decide), if_neg (show ¬ nI 2 = 1 by decide), if_pos (show nI 2 = 2 from rfl)]
      · unfold BR
        simp only [v_rd, true_and, Nat.reduceEqDiff, if_false, if_true, q0, q1, q3, q4, and_self]
  · have n2 : ¬ nI h = 2 := fun z => h2 ((nI_eqX (b := 2) (by omega) (by omega)).mp z)
    rw [if_neg n2, v_b1, v_ckT]
    refine ⟨v_wr A 49 3 1, ow, la, lo, 1, fo, rfl, v_frw (by decide) fr, by rw [v_wr_n (by decide)], hfo, ?_, fun B hB _ hR => ?_⟩
    · unfold BC
      simp only [v_rd, true_and, Nat.reduceEqDiff, if_false, if_true, b0, b1, b2, b4, b5, and_self]
    · obtain ⟨w1, w2, w3, w4, w5, w6, w7⟩ := refB B hB
      obtain ⟨q0, q1, q2, q3, q4⟩ := hR
      refine ⟨v_wr B 79 59 1, ?_, v_fro (by decide) hB, rfl, ?_⟩
      · unfold f_X12_binds_
        simp only [ib2, cl2, v_ckT, w1, r2, v_letE, v_b1]
        rw [if_neg n0, if_neg n1, if_neg n2]
      · unfold BR
        simp only [v_rd, true_and, Nat.reduceEqDiff, if_false, if_true, q0, q1, q2, q4, and_self]
