/-! warned -/
def kws (pm : Nat → Int32) (g : Nat → Nat) (x1 : Int32) (d : Nat) : Nat → Nat → Bool
  | 0, _ => false
  | s + 1, o => (decide (pm o = x1) && decide (g o ≤ d)) || kws pm g x1 d s (o + 1)
theorem or0 (x : Int32) : x ||| 0 = x := by
  apply Int32.toBitVec_inj.mp
  rw [Int32.toBitVec_or]
  exact BitVec.or_zero
theorem oror (x b : Int32) : (x ||| b) ||| b = x ||| b := by
  apply Int32.toBitVec_inj.mp
  simp only [Int32.toBitVec_or]
  rw [BitVec.or_assoc, BitVec.or_self]
theorem e_kws1 {N n d : Nat} (hn : n ≤ 30) (hd : d ≤ 9999) {pm : Nat → Int32} {g : Nat → Nat} {x1 : Int32} {M : v_M} (e : M.1 71 0 = nI n) (h1 : ∀ i, i < n → M.1 72 i = pm i) (h2 : ∀ i, i < n → M.1 74 i = nI (g i) ∧ g i ≤ 10000) : ∀ (s o f : Nat), o + s = n → s < f → f_X6_warnsOf_L2 N f x1 (nI d) (nI o) M = some (if kws pm g x1 d s o then 1 else 0, M) := by
  intro s
  induction s with
  | zero =>
    intro o f ho hf
    obtain ⟨f, rfl⟩ : ∃ q, f = q + 1 := ⟨f - 1, by omega⟩
    rw [f_X6_warnsOf_L2, e, if_pos (nI_le (by omega) (by omega))]
    rfl
  | succ s ih =>
    intro o f ho hf
    obtain ⟨f, rfl⟩ : ∃ q, f = q + 1 := ⟨f - 1, by omega⟩
    obtain ⟨g1, g2⟩ := h2 o (by omega)
    rw [f_X6_warnsOf_L2, e, if_neg (nI_ge (show o < n by omega) (by omega))]
    simp only [v_ibN (show o < 30 by omega) (show 30 < 2 ^ 31 by omega), nI_clamp (show o < 2 ^ 31 by omega), v_ckT, g1, h1 o (by omega), f_X6_warnsOf_L32, nI_1, v_b1]
    rw [kws]
    by_cases a : pm o = x1
    · rw [if_pos a]
      by_cases b : d < g o
      · rw [if_pos (nI_lt b (by omega)), ih (o + 1) f (by omega) (by omega), decide_eq_false (show ¬ g o ≤ d by omega), Bool.and_false, Bool.false_or]
      · rw [if_neg (nI_nlt (by omega) (by omega)), decide_eq_true a, decide_eq_true (show g o ≤ d by omega)]
        rfl
    · rw [if_neg a, ih (o + 1) f (by omega) (by omega), decide_eq_false a, Bool.false_and, Bool.false_or]
theorem e_kws2 {N n d : Nat} (hn : n ≤ 30) (hd : d ≤ 9999) {pm : Nat → Int32} {g : Nat → Nat} {x1 : Int32} {M : v_M} (e : M.1 79 80 = nI n) (h1 : ∀ i, i < n → M.1 140 i = pm i) (h2 : ∀ i, i < n → M.1 144 i = enc (g i) ∧ g i ≤ 10000) (K : Int32 → Int32 → Int32 → Int32 → v_M → Option (Int32 × v_M)) (x4 : Int32) : ∀ (s o f : Nat) (x3 : Int32), o + s = n → s < f → f_X12_warned_L38 N K f x1 (nI d) x3 x4 (nI o) M = K x1 (nI d) (if kws pm g x1 d s o then x3 ||| ((1 : Int32) <<< (x4 &&& 31)) else x3) (x4 + 1) M := by
  intro s
  induction s with
  | zero =>
    intro o f x3 ho hf
    obtain ⟨f, rfl⟩ : ∃ q, f = q + 1 := ⟨f - 1, by omega⟩
    rw [f_X12_warned_L38, e, if_pos (nI_le (by omega) (by omega))]
    rfl
  | succ s ih =>
    intro o f x3 ho hf
    obtain ⟨f, rfl⟩ : ∃ q, f = q + 1 := ⟨f - 1, by omega⟩
    obtain ⟨g1, g2⟩ := h2 o (by omega)
    rw [f_X12_warned_L38, e, if_neg (nI_ge (show o < n by omega) (by omega))]
    simp only [v_ibN (show o < 30 by omega) (show 30 < 2 ^ 31 by omega), nI_clamp (show o < 2 ^ 31 by omega), v_ckT, g1, h1 o (by omega), f_X12_warned_L88, f_X12_warned_L89, v_letE, or0, nI_1]
    rw [kws]
    by_cases a : pm o = x1
    · rw [if_pos a]
      by_cases b : d < g o
      · rw [decide_eq_false (show ¬ g o ≤ d by omega), Bool.and_false, Bool.false_or]
        by_cases c : g o = 10000
        · rw [if_pos ((enc_m1 g2).mpr c), ih (o + 1) f _ (by omega) (by omega)]
        · rw [if_neg (fun z => c ((enc_m1 g2).mp z)), enc_n c, if_pos (nI_lt b (by omega)), ih (o + 1) f _ (by omega) (by omega)]
      · have c : ¬ g o = 10000 := by omega
        rw [if_neg (fun z => c ((enc_m1 g2).mp z)), enc_n c, if_neg (nI_nlt (by omega) (by omega)), decide_eq_true a, decide_eq_true (show g o ≤ d by omega), ih (o + 1) f _ (by omega) (by omega)]
        congr 1
        rw [Bool.true_and, Bool.true_or, if_pos rfl, oror]
        split <;> rfl
    · rw [if_neg a, ih (o + 1) f _ (by omega) (by omega), decide_eq_false a, Bool.false_and, Bool.false_or]
def kmk (pm nds : Nat → Int32) (R : Nat → Nat) (n : Nat) (x1 : Int32) (d : Nat) : Nat → Nat → Int32 → Int32
  | 0, _, x3 => x3
  | s + 1, m, x3 => kmk pm nds R n x1 d s (m + 1) (if kws pm (kgr nds (fun i => R (30 * m + i)) n) x1 d n 0 then x3 ||| ((1 : Int32) <<< (nI m &&& 31)) else x3)
theorem e_kmk1 {N n d : Nat} (hN : 100 ≤ N) (hn : n ≤ 30) (hd : d ≤ 9999) {pm nds : Nat → Int32} {R : Nat → Nat} {x1 : Int32} : ∀ (s m f : Nat) (x3 : Int32) (M : v_M), m + s = 16 → s < f → M.1 71 0 = nI n → (∀ i, i < n → M.1 72 i = pm i) → (∀ i, i < n → M.1 75 i = nds i) → (∀ j, j < 480 → M.1 76 j = nI (R j) ∧ R j ≤ 10000) → ∃ M' : v_M, f_X11_warned_L26 N f x1 (nI d) x3 (nI m) M = some (kmk pm nds R n x1 d s m x3, M') ∧ v_fr [74] [] M M' := by
  intro s
  induction s with
  | zero =>
    intro m f x3 M hm hf e h1 h2 h3
    obtain ⟨f, rfl⟩ : ∃ q, f = q + 1 := ⟨f - 1, by omega⟩
    rw [f_X11_warned_L26, show (16 : Int32) = nI 16 from rfl, if_pos (nI_le (by omega) (by omega))]
    exact ⟨M, rfl, v_frR⟩
  | succ s ih =>
    intro m f x3 M hm hf e h1 h2 h3
    obtain ⟨f, rfl⟩ : ∃ q, f = q + 1 := ⟨f - 1, by omega⟩
    rw [f_X11_warned_L26, show (16 : Int32) = nI 16 from rfl, if_neg (nI_ge (show m < 16 by omega) (by omega))]
    obtain ⟨A, p1, p2, p3⟩ := e_know1 hN (man := m) (n := n) (nds := nds) (r := fun i => R (30 * m + i)) (by omega) hn n 0 N M (by omega) (by omega) e h2 (fun i hi => h3 _ (by omega)) (fun i hi => absurd hi (by omega))
    have g1 : f_X6_gatherKnowing N (nI m) M = some (0, A) := by
      unfold f_X6_gatherKnowing
      simp only [e_within, Option.bind_some]
      rw [v_wiTe (show 0 ≤ nI m ∧ nI m ≤ 15 from ⟨nI_le (a := 0) (by omega) (by omega), nI_le (b := 15) (by omega) (by omega)⟩)]
      exact p1
    have eA : A.1 71 0 = nI n := by rw [v_keepC p2 71 0 (by decide), e]
    have hA : ∀ i, i < n → A.1 72 i = pm i := fun i hi => by rw [v_keepR p2 72 (by decide)]; exact h1 i hi
    have gl := kgr_le nds (r := fun i => R (30 * m + i)) n (fun i hi => (h3 _ (by omega)).2)
    have g2 : f_X6_warnsOf N x1 (nI d) A = some (if kws pm (kgr nds (fun i => R (30 * m + i)) n) x1 d n 0 then 1 else 0, A) := by
      unfold f_X6_warnsOf
      exact e_kws1 hn hd eA hA (fun i hi => ⟨p3 i hi, gl i⟩) n 0 N (by omega) (by omega)
    rw [g1]
    simp only [Option.bind_some, g2, f_X11_warned_L61, v_letE, nI_1]
    obtain ⟨B, q1, q2⟩ := ih (m + 1) f (if kws pm (kgr nds (fun i => R (30 * m + i)) n) x1 d n 0 then x3 ||| ((1 : Int32) <<< (nI m &&& 31)) else x3) A (by omega) (by omega) eA hA (fun i hi => by rw [v_keepR p2 75 (by decide)]; exact h2 i hi) (fun j hj => by rw [v_keepR p2 76 (by decide)]; exact h3 j hj)
    refine ⟨B, ?_, v_frT p2 q2⟩
    rw [kmk, ← q1]
    by_cases w : kws pm (kgr nds (fun i => R (30 * m + i)) n) x1 d n 0 = true
    · rw [if_pos w, if_pos w, if_neg (by decide)]
    · rw [if_neg w, if_neg w, if_pos rfl]
theorem e_kmk2 {N n d : Nat} (hN : 100 ≤ N) (hn : n ≤ 30) (hd : d ≤ 9999) {pm nds : Nat → Int32} {R : Nat → Nat} {x1 : Int32} : ∀ (s m f : Nat) (x3 : Int32) (M : v_M), m + s = 16 → s < f → M.1 79 80 = nI n → (∀ i, i < n → M.1 140 i = pm i) → (∀ i, i < n → M.1 142 i = nds i) → (∀ j, j < 480 → M.1 143 j = enc (R j) ∧ R j ≤ 10000) → ∃ M' : v_M, f_X12_warned_L22 N f x1 (nI d) x3 (nI m) M = some (kmk pm nds R n x1 d s m x3, M') ∧ v_fr [144] [] M M' := by
  intro s
  induction s with
  | zero =>
    intro m f x3 M hm hf e h1 h2 h3
    obtain ⟨f, rfl⟩ : ∃ q, f = q + 1 := ⟨f - 1, by omega⟩
    rw [f_X12_warned_L22, show (16 : Int32) = nI 16 from rfl, if_pos (nI_le (by omega) (by omega))]
    exact ⟨M, rfl, v_frR⟩
  | succ s ih =>
    intro m f x3 M hm hf e h1 h2 h3
    obtain ⟨f, rfl⟩ : ∃ q, f = q + 1 := ⟨f - 1, by omega⟩
    rw [f_X12_warned_L22, show (16 : Int32) = nI 16 from rfl, if_neg (nI_ge (show m < 16 by omega) (by omega))]
    obtain ⟨A, p1, p2, p3⟩ := e_know2 hN (man := m) (n := n) (nds := nds) (r := fun i => R (30 * m + i)) (by omega) hn n 0 N M (by omega) (by omega) e h2 (fun i hi => h3 _ (by omega)) (fun i hi => absurd hi (by omega))
    have g1 : f_X12_knows N (nI m) M = some (0, A) := by unfold f_X12_knows; exact p1
    have eA : A.1 79 80 = nI n := by rw [v_keepC p2 79 80 (by decide), e]
    have hA : ∀ i, i < n → A.1 140 i = pm i := fun i hi => by rw [v_keepR p2 140 (by decide)]; exact h1 i hi
    have gl := kgr_le nds (r := fun i => R (30 * m + i)) n (fun i hi => (h3 _ (by omega)).2)
    rw [g1]
    simp only [Option.bind_some]
    rw [show (0 : Int32) = nI 0 from rfl, e_kws2 hn hd eA hA (fun i hi => ⟨p3 i hi, gl i⟩) (f_X12_warned_L22 N f) (nI m) n 0 N x3 (by omega) (by omega), nI_1]
    obtain ⟨B, q1, q2⟩ := ih (m + 1) f (if kws pm (kgr nds (fun i => R (30 * m + i)) n) x1 d n 0 then x3 ||| ((1 : Int32) <<< (nI m &&& 31)) else x3) A (by omega) (by omega) eA hA (fun i hi => by rw [v_keepR p2 142 (by decide)]; exact h2 i hi) (fun j hj => by rw [v_keepR p2 143 (by decide)]; exact h3 j hj)
    exact ⟨B, by rw [kmk, ← q1], v_frT p2 q2⟩
theorem st_warned {N : Nat} (hN : 100 ≤ N) (x1 x2 : Int32) {M : v_M} {np nm n : Nat} (hf : J_fleetc M np nm) (h : J_papc M nm n) : ∃ (r : Int32) (M1 M2 : v_M), f_X11_warned N x1 x2 M = some (r, M1) ∧ f_X12_warned N x1 x2 M1 = some (r, M2) ∧ v_fr [74, 144] [] M M2 := by
  obtain ⟨hn, e1, e2, hp, hr⟩ := id h
  obtain ⟨f1, f2, ⟨f3, -⟩, -⟩ := hf
  unfold f_X11_warned f_X12_warned f_X12_isDay
  simp only [l_0, l_9999, e_hasMachine, e_isMachine, e_within, e_in2, Option.bind_some, f1]
  by_cases a1 : 0 ≤ x1 ∧ x1 ≤ nI nm - 1
  rotate_left
  · rw [v_wiFe a1]
    refine ⟨-1, M, M, rfl, ?_, v_frR⟩
    rw [f2, v_wiFe a1]
  rw [v_wiTe a1]
  by_cases a2 : 0 ≤ x2 ∧ x2 ≤ 9999
  rotate_left
  · rw [v_wiFe a2]
    refine ⟨-1, M, M, rfl, ?_, v_frR⟩
    rw [f2, v_wiTe a1, v_wiF a2]
    rfl
  rw [v_wiTe a2]
  obtain ⟨d, hd, rfl⟩ := i_idx (c := 10000) (by omega) (show 0 ≤ x2 ∧ x2 ≤ nI 10000 - 1 from a2)
  have rr' : ∀ j, ∃ q : Nat, j < 480 → q ≤ 10000 ∧ M.1 76 j = nI q ∧ M.1 143 j = enc q := fun j => by
    by_cases hj : j < 480
    · rcases hr j hj with ⟨w1, w2⟩ | ⟨q, hq, w1, w2⟩
      · exact ⟨10000, fun _ => ⟨by omega, w1, w2⟩⟩
      · exact ⟨q, fun _ => ⟨by omega, w1, by rw [enc_n (by omega)]; exact w2⟩⟩
    · exact ⟨0, fun z => absurd z hj⟩
  obtain ⟨R, hR⟩ := Classical.axiomOfChoice rr'
  obtain ⟨A, p1, p2⟩ := e_kmk1 hN hn (show d ≤ 9999 by omega) (pm := M.1 72) (nds := M.1 75) (R := R) (x1 := x1) 16 0 N 0 M (by omega) (by omega) e1 (fun i _ => rfl) (fun i _ => rfl) (fun j hj => ⟨(hR j hj).2.1, (hR j hj).1⟩)
  obtain ⟨B, q1, q2⟩ := e_kmk2 hN hn (show d ≤ 9999 by omega) (pm := M.1 72) (nds := M.1 75) (R := R) (x1 := x1) 16 0 N 0 A (by omega) (by omega) (by rw [v_keepC p2 79 80 (by decide), e2]) (fun i hi => by rw [v_keepR p2 140 (by decide)]; exact (hp i hi).1.1) (fun i hi => by rw [v_keepR p2 142 (by decide)]; exact (hp i hi).1.2.2) (fun j hj => by rw [v_keepR p2 143 (by decide)]; exact ⟨(hR j hj).2.2, (hR j hj).1⟩)
  refine ⟨_, A, B, p1, ?_, v_frT (v_frt (W := [74, 144]) (O := []) (by decide) (by decide) v_frR p2) (v_frt (W := [74, 144]) (O := []) (by decide) (by decide) v_frR q2)⟩
  rw [v_keepC p2 79 3 (by decide), f2, v_wiTe a1, v_wiT a2]
  exact q1
