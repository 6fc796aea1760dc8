/-! push -/
def ben (kd : Nat → Int32) (lm a e : Nat → Nat) (i : Nat) : Nat := if kd i = 1 ∧ lm i < a i then min 9999 (e i + (a i - lm i)) else e i
theorem e_bend1 (N : Nat) {D : Dw} {kd : Nat → Int32} {a e : Nat → Nat} {np : Nat} (hD : DwB D np) (ha : ∀ i, i < np → a i ≤ 8991) (he : ∀ i, i < np → e i ≤ 9999) : ∀ (s k f : Nat) (M : v_M), k + s = np → s < f → DrC M D kd np → (∀ i, i < np → M.1 26 i = nI (a i)) → (∀ i, k ≤ i → i < np → M.1 24 i = nI (e i)) → ∃ M' : v_M, f_X2_bend_L2 N f (nI k) M = some (0, M') ∧ v_fr [24] [] M M' ∧ (∀ i, k ≤ i → i < np → M'.1 24 i = nI (ben kd D.lm a e i)) ∧ ∀ i, i < k ∨ np ≤ i → M'.1 24 i = M.1 24 i := by
  intro s
  have h24 := hD.1
  induction s with
  | zero =>
    intro k f M hk hf hR h1 h2
    obtain ⟨f, rfl⟩ : ∃ q, f = q + 1 := ⟨f - 1, by omega⟩
    rw [f_X2_bend_L2, hR.1, if_pos (nI_le (by omega) (by omega))]
    exact ⟨M, rfl, v_frR, fun i a b => absurd a (by omega), fun i _ => rfl⟩
  | succ s ih =>
    intro k f M hk hf hR h1 h2
    obtain ⟨f, rfl⟩ : ∃ q, f = q + 1 := ⟨f - 1, by omega⟩
    obtain ⟨d1, d2, d3, d4⟩ := hD.2 k (by omega)
    obtain ⟨q1, -, -, -, q5⟩ := hR.2 k (by omega)
    have ak := ha k (by omega)
    have ek := he k (by omega)
    have ti := nI_subI (a := a k) (b := D.lm k) (by omega) (by omega)
    rw [f_X2_bend_L2, hR.1, if_neg (nI_ge (show k < np by omega) (by omega))]
    simp only [v_ibN (show k < 24 by omega) (show 24 < 2 ^ 31 by omega), nI_clamp (show k < 2 ^ 31 by omega), v_ckT, v_letE, h1 k (by omega), h2 k (Nat.le_refl _) (by omega), q1, q5, f_X2_bend_L58, nI_1]
    by_cases c : kd k = 1 ∧ D.lm k < a k
    · have eb : ben kd D.lm a e k = min 9999 (e k + (a k - D.lm k)) := if_pos c
      rw [if_pos c.1, if_neg (fun z => by rw [i_le, ti, i0] at z; omega), nI_sub (by omega) (by omega), nI_add, show (9999 : Int32) = nI 9999 from rfl, v_mnN (by omega) (by omega), ← eb]
      have fr : v_fr [24] [] M (v_wr M 24 k (nI (ben kd D.lm a e k))) := v_frw (by decide) v_frR
      obtain ⟨M', p1, p2, p3, p4⟩ := ih (k + 1) f _ (by omega) (by omega) (hR.keep fr (by decide) (by decide)) (fun i hi => by rw [v_rdn (by decide)]; exact h1 i hi) (fun i ha hb => by rw [v_rd, if_neg (fun z => by omega)]; exact h2 i (by omega) hb)
      refine ⟨M', p1, v_frT fr p2, fun i hi hn => ?_, fun i hi => ?_⟩
      · by_cases q : i = k
        · subst q
          rw [p4 i (by omega), v_rd, if_pos ⟨rfl, rfl⟩]
        · exact p3 i (by omega) hn
      · rw [p4 i (by omega), v_rd, if_neg (fun z => by omega)]
    · have eb : ben kd D.lm a e k = e k := if_neg c
      have go : ∃ M' : v_M, f_X2_bend_L2 N f (nI (k + 1)) M = some (0, M') ∧ v_fr [24] [] M M' ∧ (∀ i, k ≤ i → i < np → M'.1 24 i = nI (ben kd D.lm a e i)) ∧ ∀ i, i < k ∨ np ≤ i → M'.1 24 i = M.1 24 i := by
        obtain ⟨M', p1, p2, p3, p4⟩ := ih (k + 1) f M (by omega) (by omega) hR h1 (fun i ha hb => h2 i (by omega) hb)
        refine ⟨M', p1, p2, fun i hi hn => ?_, fun i hi => p4 i (by omega)⟩
        by_cases q : i = k
        · subst q
          rw [p4 i (by omega), eb]
          exact h2 i (by omega) hn
        · exact p3 i (by omega) hn
      by_cases c1 : kd k = 1
      · rw [if_pos c1, if_pos (by rw [i_le, ti, i0]; have : ¬ D.lm k < a k := fun z => c ⟨c1, z⟩; omega)]
        exact go
      · rw [if_neg c1]
        exact go
theorem cpyT (f g : Nat → Int32) (dp n j : Nat) : va_cpy f g 0 dp n j = if dp ≤ j ∧ j < dp + n then f (j - dp) else g j := by
  unfold va_cpy
  rw [Nat.zero_add]
theorem e_save (N : Nat) {m : Nat} (hm : m < 20) (M : v_M) : ∃ M' : v_M, f_X2_save N 11 (nI m) M = some (0, M') ∧ v_fr [14, 15] [] M M' ∧ ∀ j, M'.1 14 j = (if 24 * m ≤ j ∧ j < 24 * m + 24 then M.1 24 (j - 24 * m) else M.1 14 j) ∧ M'.1 15 j = (if 24 * m ≤ j ∧ j < 24 * m + 24 then M.1 25 (j - 24 * m) else M.1 15 j) := by
  have wm : (0 : Int32) ≤ nI m ∧ nI m ≤ 19 := ⟨nI_le (a := 0) (by omega) (by omega), nI_le (b := 19) (by omega) (by omega)⟩
  have sp : nI m * 24 + 0 = nI (24 * m) := nI_spot m 0
  have c2 : v_cpk (0 : Int32) (nI (24 * m)) (24 : Int32) 24 480 = true := cpkT (a := 0) (n := 24) (by omega) (by omega) (by omega) (by omega)
  unfold f_X2_save
  rw [e_within, Option.bind_some, v_wiTe wm, e_spot, Option.bind_some, v_letE]
  simp only [sp, c2, v_ckT, v_letE, nI_clamp (show 24 * m < 2 ^ 31 by omega), show (0 : Int32).toNatClampNeg = 0 from rfl, show (24 : Int32).toNatClampNeg = 24 from rfl, rr_n, ne_eq, Nat.reduceEqDiff, Nat.reduceAdd, not_false_eq_true]
  refine ⟨_, rfl, v_frr (by decide) (v_frr (by decide) v_frR), fun j => ?_⟩
  simp only [rr_n, rr_s, ne_eq, Nat.reduceEqDiff, not_false_eq_true, cpyT, and_self]
theorem e_pl2 (N : Nat) {D : Dw} {kd : Nat → Int32} {a e p : Nat → Nat} {np m : Nat} (x4 : Int32) (hm : m < 20) (hD : DwB D np) (ha : ∀ i, i < np → a i ≤ 8991) (he : ∀ i, i < np → e i ≤ 9999) : ∀ (s k f : Nat) (M : v_M), k + s = np → s < f → DrR M D kd np → (∀ i, i < np → M.1 99 i = nI (p i) ∧ M.1 100 i = nI (a i)) → (∀ i, k ≤ i → i < np → M.1 90 (24 * m + i) = nI (e i)) → ∃ M' : v_M, f_X12_push_L57 N f (nI m) x4 (nI k) M = some (x4, M') ∧ v_fr [90, 91] [] M M' ∧ (∀ i, k ≤ i → i < np → M'.1 90 (24 * m + i) = nI (ben kd D.lm a e i) ∧ M'.1 91 (24 * m + i) = nI (p i)) ∧ ∀ j, j < 24 * m + k ∨ 24 * m + np ≤ j → M'.1 90 j = M.1 90 j ∧ M'.1 91 j = M.1 91 j := by
  intro s
  have h24 := hD.1
  induction s with
  | zero =>
    intro k f M hk hf hR h1 h2
    obtain ⟨f, rfl⟩ : ∃ q, f = q + 1 := ⟨f - 1, by omega⟩
    rw [f_X12_push_L57, hR.1, if_pos (nI_le (by omega) (by omega))]
    exact ⟨M, rfl, v_frR, fun i a b => absurd a (by omega), fun j _ => ⟨rfl, rfl⟩⟩
  | succ s ih =>
    intro k f M hk hf hR h1 h2
    obtain ⟨f, rfl⟩ : ∃ q, f = q + 1 := ⟨f - 1, by omega⟩
    obtain ⟨d1, d2, d3, d4⟩ := hD.2 k (by omega)
    obtain ⟨q1, -, -, q5⟩ := hR.2 k (by omega)
    obtain ⟨r1, r2⟩ := h1 k (by omega)
    have ak := ha k (by omega)
    have ek := he k (by omega)
    have be : ben kd D.lm a e k ≤ 9999 := by unfold ben; split <;> omega
    have step : f_X12_push_L57 N (f + 1) (nI m) x4 (nI k) M = f_X12_push_L57 N f (nI m) x4 (nI (k + 1)) (v_wr (v_wr M 91 (24 * m + k) (nI (p k))) 90 (24 * m + k) (nI (ben kd D.lm a e k))) := by
      have l143 : ∀ t : Nat, t ≤ 9999 → f_X12_push_L143 N (f_X12_push_L57 N f) (nI m) x4 (nI k) (nI (24 * m + k)) (nI t) (nI (e k)) (v_wr M 91 (24 * m + k) (nI (p k))) = f_X12_push_L57 N f (nI m) x4 (nI (k + 1)) (v_wr (v_wr M 91 (24 * m + k) (nI (p k))) 90 (24 * m + k) (nI (min 9999 (e k + t)))) := fun t ht => by
        unfold f_X12_push_L143 f_X12_push_L168
        simp only [v_letE, nI_add, v_ibN (show 24 * m + k < 480 by omega) (show 480 < 2 ^ 31 by omega), nI_clamp (show 24 * m + k < 2 ^ 31 by omega), v_ckT, nI_1]
        by_cases z : e k + t ≤ 9999
        · rw [if_pos (show nI (e k + t) ≤ 9999 from nI_le (b := 9999) z (by omega)), Nat.min_eq_right z]
        · rw [if_neg (show ¬ nI (e k + t) ≤ 9999 from nI_ge (a := 9999) (by omega) (by omega)), Nat.min_eq_left (by omega)]; rfl
      rw [f_X12_push_L57, hR.1, if_neg (nI_ge (show k < np by omega) (by omega))]
      simp only [nI_spot', v_ibN (show k < 24 by omega) (show 24 < 2 ^ 31 by omega), nI_clamp (show k < 2 ^ 31 by omega), v_ibN (show 24 * m + k < 480 by omega) (show 480 < 2 ^ 31 by omega), nI_clamp (show 24 * m + k < 2 ^ 31 by omega), v_ckT, v_letE, v_rdn, ne_eq, Nat.reduceEqDiff, not_false_eq_true, r1, r2, q1, q5, h2 k (Nat.le_refl _) (by omega), f_X12_push_L142]
      have l0 := l143 0 (by omega)
      rw [show nI 0 = 0 from rfl, show min 9999 (e k + 0) = e k by omega] at l0
      by_cases c : kd k = 1 ∧ D.lm k < a k
      · have eb : ben kd D.lm a e k = min 9999 (e k + (a k - D.lm k)) := if_pos c
        rw [if_pos c.1, if_neg (nI_ge c.2 (by omega)), nI_sub (by omega) (by omega), l143 _ (by omega), eb]
      · have eb : ben kd D.lm a e k = e k := if_neg c
        rw [eb]
        by_cases c1 : kd k = 1
        · rw [if_pos c1, if_pos (nI_le (by have : ¬ D.lm k < a k := fun z => c ⟨c1, z⟩; omega) (by omega)), l0]
        · rw [if_neg c1, l0]
    rw [step]
    have fr : v_fr [90, 91] [] M (v_wr (v_wr M 91 (24 * m + k) (nI (p k))) 90 (24 * m + k) (nI (ben kd D.lm a e k))) := v_frw (by decide) (v_frw (by decide) v_frR)
    obtain ⟨M', p1, p2, p3, p4⟩ := ih (k + 1) f _ (by omega) (by omega) (hR.keep fr (by decide) (by decide)) (fun i hi => by rw [v_rdn (by decide), v_rdn (by decide), v_rdn (by decide), v_rdn (by decide)]; exact h1 i hi) (fun i ha hb => by rw [v_rd, if_neg (fun z => by omega), v_rdn (by decide)]; exact h2 i (by omega) hb)
    refine ⟨M', p1, v_frT fr p2, fun i hi hn => ?_, fun j hj => ?_⟩
    · by_cases q : i = k
      · subst q
        obtain ⟨u1, u2⟩ := p4 (24 * m + i) (by omega)
        rw [u1, u2, v_rd, if_pos ⟨rfl, rfl⟩, v_rdn (by decide), v_rd, if_pos ⟨rfl, rfl⟩]
        exact ⟨rfl, rfl⟩
      · exact p3 i (by omega) hn
    · obtain ⟨u1, u2⟩ := p4 j (by omega)
      rw [u1, u2, v_rd, if_neg (fun z => by omega), v_rdn (by decide), v_rdn (by decide), v_rd, if_neg (fun z => by omega)]
      exact ⟨rfl, rfl⟩
theorem J_fleetc.push {M M2 : v_M} {np nm m : Nat} (hf : J_fleetc M np nm) (hm : m < nm) (hn : np ≤ 24) {b p : Nat → Nat} (hb : ∀ i, i < np → b i ≤ 9999 ∧ p i ≤ 999) (hb0 : b 0 = 0) {W : List Nat} (fr : v_fr W [] M M2) (hk : ([11, 12, 13, 16, 17, 79, 88, 89, 92, 93].all (fun k => !(W.contains k))) = true) (h1 : ∀ j, j < 480 → M2.1 14 j = (if 24 * m ≤ j ∧ j < 24 * m + np then nI (b (j - 24 * m)) else M.1 14 j) ∧ M2.1 15 j = (if 24 * m ≤ j ∧ j < 24 * m + np then nI (p (j - 24 * m)) else M.1 15 j)) (h2 : ∀ j, j < 480 → M2.1 90 j = (if 24 * m ≤ j ∧ j < 24 * m + np then nI (b (j - 24 * m)) else M.1 90 j) ∧ M2.1 91 j = (if 24 * m ≤ j ∧ j < 24 * m + np then nI (p (j - 24 * m)) else M.1 91 j)) : J_fleetc M2 np nm := by
  have e : ∀ k ∈ [11, 12, 13, 16, 17, 79, 88, 89, 92, 93], M2.1 k = M.1 k := fun k hm => v_keepR fr k (by have := List.all_eq_true.mp hk k hm; simpa using this)
  obtain ⟨f1, f2, ⟨f3, f4, f5, f6⟩, f7, f8⟩ := hf
  unfold J_fleetc JFa JFb
  rw [e 11 (by decide), e 12 (by decide), e 13 (by decide), e 16 (by decide), e 17 (by decide), e 79 (by decide), e 88 (by decide), e 89 (by decide), e 92 (by decide), e 93 (by decide)]
  refine ⟨f1, f2, ⟨f3, fun i hi hc => ?_, fun i hi => ?_, f6⟩, fun i hi => ?_, f8⟩
  · obtain ⟨u1, u2⟩ := h1 i hi
    have c : ¬ (24 * m ≤ i ∧ i < 24 * m + np) := fun z => by
      rcases hc with q | q <;> omega
    rw [u1, u2, if_neg c, if_neg c]
    exact f4 i hi hc
  · obtain ⟨u1, u2⟩ := h1 i hi
    obtain ⟨w1, w2, w3, w4, w5⟩ := f5 i hi
    rw [u1, u2]
    by_cases c : 24 * m ≤ i ∧ i < 24 * m + np
    · rw [if_pos c, if_pos c]
      obtain ⟨b1, b2⟩ := hb (i - 24 * m) (by omega)
      refine ⟨w1, w2, ⟨by rw [nI_toInt (by omega)]; omega, by rw [nI_toInt (by omega)]; omega⟩, ⟨by rw [nI_toInt (by omega)]; omega, by rw [nI_toInt (by omega)]; omega⟩, fun z => ?_⟩
      rw [show i - 24 * m = 0 by omega, hb0]
      rfl
    · rw [if_neg c, if_neg c]
      exact ⟨w1, w2, w3, w4, w5⟩
  · obtain ⟨u1, u2⟩ := h1 i (by omega)
    obtain ⟨v1, v2⟩ := h2 i (by omega)
    obtain ⟨w1, w2, w3, w4⟩ := f7 i hi
    rw [u1, u2, v1, v2, w3, w4]
    exact ⟨w1, w2, rfl, rfl⟩
theorem st_push {N : Nat} (hN : 2000 ≤ N) (x1 x2 x3 : Int32) {M : v_M} {np nm : Nat} (hd : J_drawc M np) (hf : J_fleetc M np nm) : ∃ (r : Int32) (M1 M2 : v_M), f_X11_push N x1 x2 x3 M = some (r, M1) ∧ f_X12_push N x1 x2 x3 M1 = some (r, M2) ∧ J_fleetc M2 np nm ∧ v_fr [14, 15, 19, 20, 21, 22, 23, 24, 25, 26, 27, 90, 91, 94, 95, 96, 97, 98, 99, 100] [] M M2 := by
  have e1 := hd.2.1
  have e2 := hd.2.2.1
  have f1 := hf.1
  have f2 := hf.2.1
  have h20 : nm ≤ 20 := hf.2.2.1.1
  have h24 := hd.1
  obtain ⟨hp1, hp2⟩ := e_hasPartOf N x1 0 M
  rw [e1, f1] at hp1 hp2
  unfold f_X11_push f_X12_push
  simp only [e_isMachine, e_within, l_0, l_999, e_in2, Option.bind_some]
  by_cases a : (0 ≤ x1 ∧ x1 ≤ nI nm - 1) ∧ ((0 : Int32) ≤ 0 ∧ 0 ≤ nI np - 1)
  rotate_left
  · rw [hp2 a, Option.bind_some]
    refine ⟨-1, M, M, rfl, ?_, hf, v_frR⟩
    rw [f2, e2]
    by_cases a1 : 0 ≤ x1 ∧ x1 ≤ nI nm - 1
    · rw [v_wiTe a1]
      have : np = 0 := by
        by_cases q : np = 0
        · exact q
        · exact absurd ⟨a1, i_idx' (j := 0) (by omega) (by omega)⟩ a
      rw [this, if_pos (show nI 0 = 0 from rfl)]
    · rw [v_wiFe a1]
  rw [hp1 a, Option.bind_some, if_neg (show ¬ (1 : Int32) = 0 by decide)]
  obtain ⟨a1, a2⟩ := a
  have n0 : 0 < np := by
    obtain ⟨j, hj, -⟩ := i_idx (by omega) a2
    omega
  have np0 : ¬ nI np = 0 := nI_ne0 n0 (by omega)
  obtain ⟨m, hm, rfl⟩ := i_idx (by omega) a1
  by_cases a3 : 0 ≤ x2 ∧ x2 ≤ 999
  rotate_left
  · rw [v_wiFe a3]
    refine ⟨-1, M, M, rfl, ?_, hf, v_frR⟩
    rw [f2, e2, v_wiTe a1, if_neg np0, v_wiFe a3]
  rw [v_wiTe a3]
  by_cases a4 : 0 ≤ x3 ∧ x3 ≤ 999
  rotate_left
  · rw [v_wiFe a4]
    refine ⟨-1, M, M, rfl, ?_, hf, v_frR⟩
    rw [f2, e2, v_wiTe a1, if_neg np0, v_wiTe a3, v_wiFe a4]
  rw [v_wiTe a4]
  obtain ⟨t, ht, rfl⟩ := i_idx (c := 1000) (by omega) (show 0 ≤ x2 ∧ x2 ≤ nI 1000 - 1 from a3)
  obtain ⟨hD, hC, hR, hK⟩ := hd.dw
  obtain ⟨hB, hB2, -⟩ := J_door hd hf hm
  obtain ⟨A, p1, p2, p3, p4, p5, p6⟩ := J_load (N := N) hd hf hm
  obtain ⟨B, q1, q2, q3, q4⟩ := e_press (show 100 ≤ N by omega) x3 hD hB n0 (show t ≤ 999 by omega) p3 p4
  generalize hh : min t (far (dwO M) (dX (gO M) (wO M m) (eO M m) (M.1 2) (M.1 8) x3) np) = h at q3
  have h9 : h ≤ 999 := by omega
  have hl : h ≤ (dwO M).lm 0 := by
    have : far (dwO M) (dX (gO M) (wO M m) (eO M m) (M.1 2) (M.1 8) x3) np ≤ (dwO M).lm 0 := by unfold far; omega
    omega
  have ab : ∀ i, i < np → akd (dwO M) (dX (gO M) (wO M m) (eO M m) (M.1 2) (M.1 8) x3) h i ≤ 8991 := fun i hi => akd_le hD hi h9
  have pb : ∀ i, i < np → plv (dwO M) (dX (gO M) (wO M m) (eO M m) (M.1 2) (M.1 8) x3) h i ≤ 999 := fun i hi => plv_le hD hi
  have eb : ∀ i, i < np → eO M m i ≤ 9999 := fun i hi => (hB.1 i hi).2.2
  have p0 : plv (dwO M) (dX (gO M) (wO M m) (eO M m) (M.1 2) (M.1 8) x3) h 0 = h := by
    unfold plv akd
    rw [if_pos rfl, show (dX (gO M) (wO M m) (eO M m) (M.1 2) (M.1 8) x3).e 0 = 0 from hB.2, Nat.sub_zero, Nat.min_eq_left hl]
  have k0 : M.1 2 0 = 0 := (hK 0 n0).2 rfl
  generalize hA : akd (dwO M) (dX (gO M) (wO M m) (eO M m) (M.1 2) (M.1 8) x3) h = ak at ab q3
  generalize hP : plv (dwO M) (dX (gO M) (wO M m) (eO M m) (M.1 2) (M.1 8) x3) h = pk at pb q3 p0
  have bbk : ∀ i, i < np → ben (M.1 2) (dwO M).lm ak (eO M m) i ≤ 9999 := fun i hi => by have := eb i hi; unfold ben; split <;> omega
  have bb0 : ben (M.1 2) (dwO M).lm ak (eO M m) 0 = 0 := by unfold ben; rw [if_neg (fun z => by rw [k0] at z; exact absurd z.1 (by decide))]; exact hB.2
  have DB := p3.keep q2 (by decide) (by decide)
  obtain ⟨C, r1, r2, r3, r4⟩ := e_bend1 N (a := ak) (e := eO M m) hD ab eb (np - 1) 1 N B (by omega) (by omega) DB (fun i hi => (q3 i hi).2) (fun i _ hi => by rw [v_keepR q2 24 (by decide)]; exact (p4 i hi).2.2.1)
  have r5 : ∀ i, i < np → C.1 24 i = nI (ben (M.1 2) (dwO M).lm ak (eO M m) i) := fun i hi => by
    by_cases q : i = 0
    · subst q
      rw [r4 0 (by omega), v_keepR q2 24 (by decide), (p4 0 hi).2.2.1, bb0, show eO M m 0 = 0 from hB.2]
    · exact r3 i (by omega) hi
  obtain ⟨E, s1, s2, s3⟩ := e_save N (show m < 20 by omega) C
  have W1 : v_fr [14, 15, 19, 20, 21, 22, 23, 24, 25, 26, 27] [] M E := v_frt (W := [14, 15, 19, 20, 21, 22, 23, 24, 25, 26, 27]) (O := []) (by decide) (by decide) (v_frt (W := [14, 15, 19, 20, 21, 22, 23, 24, 25, 26, 27]) (O := []) (by decide) (by decide) (v_frt (W := [14, 15, 19, 20, 21, 22, 23, 24, 25, 26, 27]) (O := []) (by decide) (by decide) (v_frt (W := [14, 15, 19, 20, 21, 22, 23, 24, 25, 26, 27]) (O := []) (by decide) (by decide) v_frR p2) q2) r2) s2
  have cl14 : ∀ j, j < 480 → E.1 14 j = (if 24 * m ≤ j ∧ j < 24 * m + np then nI (ben (M.1 2) (dwO M).lm ak (eO M m) (j - 24 * m)) else M.1 14 j) ∧ E.1 15 j = (if 24 * m ≤ j ∧ j < 24 * m + np then nI (pk (j - 24 * m)) else M.1 15 j) := fun j hj => by
    obtain ⟨u1, u2⟩ := s3 j
    rw [u1, u2]
    by_cases c : 24 * m ≤ j ∧ j < 24 * m + 24
    · rw [if_pos c, if_pos c]
      obtain ⟨i, rfl⟩ : ∃ i, j = 24 * m + i := ⟨j - 24 * m, by omega⟩
      rw [show 24 * m + i - 24 * m = i by omega, v_keepR r2 25 (by decide)]
      by_cases z : i < np
      · rw [if_pos (by omega), if_pos (by omega)]
        exact ⟨r5 i z, (q3 i z).1⟩
      · rw [if_neg (by omega), if_neg (by omega), r4 i (by omega), v_keepR q2 24 (by decide), q4 i (by omega)]
        exact p6 i (by omega)
    · rw [if_neg c, if_neg c, if_neg (by omega), if_neg (by omega), v_keepR r2 14 (by decide), v_keepR r2 15 (by decide), v_keepR q2 14 (by decide), v_keepR q2 15 (by decide), v_keepR p2 14 (by decide), v_keepR p2 15 (by decide)]
      exact ⟨rfl, rfl⟩
  obtain ⟨F, t1, t2, t3, t4, t5⟩ := J_take (show 100 ≤ N by omega) hd hf hm W1 (by decide)
  obtain ⟨G, g1, g2, g3⟩ := e_pushes (mk := mO M m) hN x3 hD hB n0 k0 (show t ≤ 999 by omega) N 0 t F (by omega) (by omega) (by omega) (by omega) (by omega) (Nat.le_refl _) t3 t4
  rw [hh] at g1 g3
  rw [hA, hP] at g3
  have f90 : ∀ k, k ∈ [90, 91] → G.1 k = M.1 k := fun k hk => by
    rw [List.mem_cons, List.mem_singleton] at hk
    rcases hk with rfl | rfl
    · rw [v_keepR g2 90 (by decide), v_keepR t2 90 (by decide), v_keepR W1 90 (by decide)]
    · rw [v_keepR g2 91 (by decide), v_keepR t2 91 (by decide), v_keepR W1 91 (by decide)]
  obtain ⟨H, y1, y2, y3, y4⟩ := e_pl2 N (a := ak) (e := eO M m) (p := pk) (nI h) (show m < 20 by omega) hD ab eb np 0 N G (by omega) (by omega) (t3.keep g2 (by decide) (by decide)) g3 (fun i _ hi => by
    rw [f90 90 (by decide), (hf.2.2.2.1 (24 * m + i) (by omega)).2.2.1]
    exact (hB2 i hi).2.2)
  have W2 : v_fr [14, 15, 19, 20, 21, 22, 23, 24, 25, 26, 27, 90, 91, 94, 95, 96, 97, 98, 99, 100] [] M H := v_frt (W := [14, 15, 19, 20, 21, 22, 23, 24, 25, 26, 27, 90, 91, 94, 95, 96, 97, 98, 99, 100]) (O := []) (by decide) (by decide) (v_frt (W := [14, 15, 19, 20, 21, 22, 23, 24, 25, 26, 27, 90, 91, 94, 95, 96, 97, 98, 99, 100]) (O := []) (by decide) (by decide) (v_frt (W := [14, 15, 19, 20, 21, 22, 23, 24, 25, 26, 27, 90, 91, 94, 95, 96, 97, 98, 99, 100]) (O := []) (by decide) (by decide) (v_frt (W := [14, 15, 19, 20, 21, 22, 23, 24, 25, 26, 27, 90, 91, 94, 95, 96, 97, 98, 99, 100]) (O := []) (by decide) (by decide) v_frR W1) t2) g2) y2
  refine ⟨nI h, E, H, ?_, ?_, ?_, W2⟩
  · rw [p1, Option.bind_some, q1, Option.bind_some]
    unfold f_X2_bend
    rw [show (1 : Int32) = nI 1 from rfl, r1, Option.bind_some, s1, Option.bind_some, show (0 : Int32).toNatClampNeg = 0 from rfl, show v_ib (0 : Int32) 24 = true from rfl, v_ckT]
    rw [v_keepR s2 25 (by decide), v_keepR r2 25 (by decide), (q3 0 n0).1, p0]
  · rw [v_keepR W1 79 (by decide), f2, e2, v_wiTe a1, if_neg np0, v_wiTe a3, v_wiTe a4, t1, Option.bind_some]
    unfold f_X12_pushes
    rw [show (0 : Int32) = nI 0 from rfl, g1, Option.bind_some, v_letE]
    exact y1
  · refine hf.push hm h24 (fun i hi => ⟨bbk i hi, pb i hi⟩) bb0 W2 (by decide) (fun j hj => ?_) (fun j hj => ?_)
    · rw [v_keepR y2 14 (by decide), v_keepR y2 15 (by decide), v_keepR g2 14 (by decide), v_keepR g2 15 (by decide), v_keepR t2 14 (by decide), v_keepR t2 15 (by decide)]
      exact cl14 j hj
    · by_cases c : 24 * m ≤ j ∧ j < 24 * m + np
      · obtain ⟨i, rfl⟩ : ∃ i, j = 24 * m + i := ⟨j - 24 * m, by omega⟩
        rw [if_pos c, if_pos c, show 24 * m + i - 24 * m = i by omega]
        exact y3 i (by omega) (by omega)
      · obtain ⟨u1, u2⟩ := y4 j (by omega)
        rw [if_neg c, if_neg c, u1, u2, f90 90 (by decide), f90 91 (by decide)]
        exact ⟨rfl, rfl⟩
