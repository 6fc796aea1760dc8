/-! looks, leastFalse, fewest's count -/
theorem r_slot (N : Nat) (K : Int32 → v_M → Option (Int32 × v_M)) {s t : Nat} (hs : s < 200) (ht : t ≤ s) {M : v_M} (h1 : M.1 124 t = M.1 124 s ∧ M.1 125 t = M.1 125 s) (h2 : ∀ j, j < t → ¬ (M.1 124 j = M.1 124 s ∧ M.1 125 j = M.1 125 s)) : ∀ (d k f : Nat), k + d = t → d < f → f_X12_looks_L185 N K f (nI s) (nI k) M = K (nI (s + 1)) (v_wr M 126 s (nI t)) := by
  intro d
  induction d with
  | zero =>
    intro k f hk hf
    obtain ⟨f, rfl⟩ : ∃ q, f = q + 1 := ⟨f - 1, by omega⟩
    have : k = t := by omega
    subst this
    rw [f_X12_looks_L185]
    simp only [v_ibN (show k < 200 by omega) (show 200 < 2 ^ 31 by omega), nI_clamp (show k < 2 ^ 31 by omega), v_ibN hs (show 200 < 2 ^ 31 by omega), nI_clamp (show s < 2 ^ 31 by omega), v_ckT, v_letE, nI_1]
    rw [if_pos h1.1, if_pos h1.2]
  | succ d ih =>
    intro k f hk hf
    obtain ⟨f, rfl⟩ : ∃ q, f = q + 1 := ⟨f - 1, by omega⟩
    have n := h2 k (by omega)
    rw [f_X12_looks_L185]
    simp only [v_ibN (show k < 200 by omega) (show 200 < 2 ^ 31 by omega), nI_clamp (show k < 2 ^ 31 by omega), v_ibN hs (show 200 < 2 ^ 31 by omega), nI_clamp (show s < 2 ^ 31 by omega), v_ckT, v_letE, f_X12_looks_L215, nI_1, ih (k + 1) f (by omega) (by omega)]
    by_cases c1 : M.1 124 k = M.1 124 s
    · rw [if_pos c1, if_neg (fun z => n ⟨c1, z⟩)]
    · rw [if_neg c1]
theorem r_look2 {N : Nat} (hN : 300 ≤ N) {n : Nat} {wk tf : Nat → Nat} {dy LN : Nat → Int32} (hn : n ≤ 200) : ∀ (d s f : Nat) (M : v_M), s + d = n → d < f → M.1 79 60 = nI n → (∀ j, j < n → 10 * M.1 122 j + M.1 123 j = nI (wk j) ∧ wk j < 200 ∧ M.1 125 j = dy j ∧ tf j ≤ j ∧ (M.1 124 (tf j) = M.1 124 j ∧ M.1 125 (tf j) = M.1 125 j) ∧ ∀ i, i < tf j → ¬ (M.1 124 i = M.1 124 j ∧ M.1 125 i = M.1 125 j)) → (∀ w, w < 200 → M.1 135 w = LN w) → (∀ j, j < s → M.1 126 j = nI (tf j) ∧ M.1 132 j = v01 (!decide (dy j ≤ LN (wk j)))) → ∃ M' : v_M, f_X12_looks_L145 N f (nI s) M = some (0, M') ∧ v_fr [126, 132] [] M M' ∧ ∀ j, j < n → M'.1 126 j = nI (tf j) ∧ M'.1 132 j = v01 (!decide (dy j ≤ LN (wk j))) := by
  intro d
  induction d with
  | zero =>
    intro s f M hs hf e hr hL h
    obtain ⟨f, rfl⟩ : ∃ q, f = q + 1 := ⟨f - 1, by omega⟩
    refine ⟨M, ?_, v_frR, fun j hj => h j (by omega)⟩
    rw [f_X12_looks_L145, e, if_pos (nI_le (by omega) (by omega))]
  | succ d ih =>
    intro s f M hs hf e hr hL h
    obtain ⟨f, rfl⟩ : ∃ q, f = q + 1 := ⟨f - 1, by omega⟩
    obtain ⟨r1, r2, r3, r4, r5, r6⟩ := hr s (by omega)
    have step : f_X12_looks_L145 N (f + 1) (nI s) M = f_X12_looks_L145 N f (nI (s + 1)) (v_wr (v_wr M 132 s (v01 (!decide (dy s ≤ LN (wk s))))) 126 s (nI (tf s))) := by
      have l182 : ∀ b : Bool, f_X12_looks_L182 N (f_X12_looks_L145 N f) (nI s) (v01 b) (nI s) M = f_X12_looks_L145 N f (nI (s + 1)) (v_wr (v_wr M 132 s (v01 b)) 126 s (nI (tf s))) := fun b => by
        unfold f_X12_looks_L182
        rw [v_ibN (show s < 200 by omega) (show 200 < 2 ^ 31 by omega), v_ckT, v_letE, nI_clamp (show s < 2 ^ 31 by omega), show vp_nar .boolean (v01 b) = v01 b from by cases b <;> rfl]
        exact r_slot N (f_X12_looks_L145 N f) (by omega) r4 (by rw [v_rdn (by decide), v_rdn (by decide), v_rdn (by decide), v_rdn (by decide)]; exact r5) (fun j hj => by rw [v_rdn (by decide), v_rdn (by decide), v_rdn (by decide), v_rdn (by decide)]; exact r6 j hj) (tf s) 0 N (by omega) (by omega)
      rw [f_X12_looks_L145, e, if_neg (nI_ge (show s < n by omega) (by omega))]
      unfold f_X12_needOf
      simp only [v_ibN (show s < 200 by omega) (show 200 < 2 ^ 31 by omega), nI_clamp (show s < 2 ^ 31 by omega), v_ckT, Option.bind_some, r1, r3, v_ibN r2 (show 200 < 2 ^ 31 by omega), nI_clamp (show wk s < 2 ^ 31 by omega), hL (wk s) r2]
      have l0 := l182 false
      have l1 := l182 true
      rw [show v01 false = 0 from rfl] at l0
      rw [show v01 true = 1 from rfl] at l1
      by_cases z : dy s ≤ LN (wk s)
      · rw [if_pos z, l0, decide_eq_true z]; rfl
      · rw [if_neg z, l1, decide_eq_false z]; rfl
    rw [step]
    have fr : v_fr [126, 132] [] M (v_wr (v_wr M 132 s (v01 (!decide (dy s ≤ LN (wk s))))) 126 s (nI (tf s))) := v_frw (by decide) (v_frw (by decide) v_frR)
    obtain ⟨M', g1, g2, g3⟩ := ih (s + 1) f (v_wr (v_wr M 132 s (v01 (!decide (dy s ≤ LN (wk s))))) 126 s (nI (tf s))) (by omega) (by omega) (by rw [v_keepC fr 79 60 (by decide), e]) (fun j hj => by
      rw [v_keepR fr 122 (by decide), v_keepR fr 123 (by decide), v_keepR fr 124 (by decide), v_keepR fr 125 (by decide)]
      exact hr j hj) (fun w hw => by rw [v_keepR fr 135 (by decide)]; exact hL w hw) (fun j hj => by
      simp only [v_rd, Nat.reduceEqDiff, false_and, if_false, true_and]
      by_cases y : j = s
      · rw [if_pos y, if_pos y, y]; exact ⟨rfl, rfl⟩
      · rw [if_neg y, if_neg y]; exact h j (by omega))
    exact ⟨M', g1, v_frT fr g2, g3⟩
/-! leastFalse -/
def ssm (g : Nat → Nat) : Nat → Nat
  | 0 => 0
  | k + 1 => ssm g k + g k
theorem ssm_c {g h : Nat → Nat} : ∀ k : Nat, (∀ t, t < k → g t = h t) → ssm g k = ssm h k := by
  intro k
  induction k with
  | zero => intro _; rfl
  | succ k ih => intro e; rw [ssm, ssm, ih (fun t ht => e t (by omega)), e k (by omega)]
theorem ssm_u {g h : Nat → Nat} {j d : Nat} (hj : h j = g j + d) (hn : ∀ t, t ≠ j → h t = g t) : ∀ k : Nat, j < k → ssm h k = ssm g k + d := by
  intro k
  induction k with
  | zero => intro h; omega
  | succ k ih =>
    intro hk
    rw [ssm, ssm]
    by_cases y : j = k
    · rw [← y, hj, ssm_c j (fun t ht => hn t (by omega))]
      omega
    · rw [ih (by omega), hn k (by omega)]
      omega
theorem ssm_0 : ∀ k : Nat, ssm (fun _ => 0) k = 0 := by
  intro k
  induction k with
  | zero => rfl
  | succ k ih => rw [ssm, ih]
def alN (al : Nat → Bool) (tf : Nat → Nat) (i t : Nat) : Nat := min 2 (cnt (fun s => al s && decide (tf s = t)) i)
theorem alN_le (al : Nat → Bool) (tf : Nat → Nat) (i t : Nat) : alN al tf i t ≤ 2 := by unfold alN; omega
theorem alN_n {al : Nat → Bool} {tf : Nat → Nat} {i t : Nat} (h : ¬ (al i = true ∧ tf i = t)) : alN al tf (i + 1) t = alN al tf i t := by
  unfold alN
  rw [cnt, if_neg (by simpa using h)]
  rfl
theorem alN_s {al : Nat → Bool} {tf : Nat → Nat} {i t : Nat} (h1 : al i = true) (h2 : tf i = t) : alN al tf (i + 1) t = min 2 (alN al tf i t + 1) := by
  unfold alN
  rw [cnt, if_pos (by simp [h1, h2])]
  omega
theorem e_lf1 (N : Nat) {n : Nat} {wk tf : Nat → Nat} {dy LN : Nat → Int32} {fd : Nat → Nat} : ∀ (d i f u : Nat) (M : v_M), i + d = n → d < f → SC M n wk tf dy LN fd → u + ssm (alN (fun s => !decide (dy s ≤ LN (wk s))) tf i) n = i → (∀ t, t < n → M.1 69 t = nI (alN (fun s => !decide (dy s ≤ LN (wk s))) tf i t)) → ∃ M' : v_M, f_X10_leastFalse_L12 N f (nI u) (nI i) M = some (nI (n - ssm (alN (fun s => !decide (dy s ≤ LN (wk s))) tf n) n), M') ∧ v_fr [69] [] M M' := by
  intro d
  induction d with
  | zero =>
    intro i f u M hi hf hS hu h
    obtain ⟨f, rfl⟩ : ∃ q, f = q + 1 := ⟨f - 1, by omega⟩
    have : i = n := by omega
    subst this
    have h200 := hS.1.1
    refine ⟨M, ?_, v_frR⟩
    rw [f_X10_leastFalse_L12, hS.1.2, if_pos (nI_le (by omega) (by omega)), show u = i - ssm (alN (fun s => !decide (dy s ≤ LN (wk s))) tf i) i by omega]
  | succ d ih =>
    intro i f u M hi hf hS hu h
    obtain ⟨f, rfl⟩ : ∃ q, f = q + 1 := ⟨f - 1, by omega⟩
    have h200 := hS.1.1
    have hin : i < n := by omega
    obtain ⟨-, ⟨a3, a4⟩, -⟩ := hS.2.1 i hin
    have al2 := alN_le (fun s => !decide (dy s ≤ LN (wk s))) tf i (tf i)
    rw [f_X10_leastFalse_L12, hS.1.2, if_neg (nI_ge hin (by omega))]
    simp only [v_ibN (show i < 200 by omega) (show 200 < 2 ^ 31 by omega), nI_clamp (show i < 2 ^ 31 by omega), v_ckT, v_letE, a3, e_may N hS hin, Option.bind_some, v01_0, v_ibN (show tf i < 200 by omega) (show 200 < 2 ^ 31 by omega), nI_clamp (show tf i < 2 ^ 31 by omega), h (tf i) a4, f_X10_leastFalse_L62, f_X10_leastFalse_L65, nI_1]
    by_cases c1 : (!decide (dy i ≤ LN (wk i))) = true
    · rw [if_pos c1]
      by_cases c2 : alN (fun s => !decide (dy s ≤ LN (wk s))) tf i (tf i) = 2
      · rw [c2, if_pos (show (2 : Int32) ≤ nI 2 by decide)]
        have ee : ∀ t, alN (fun s => !decide (dy s ≤ LN (wk s))) tf (i + 1) t = alN (fun s => !decide (dy s ≤ LN (wk s))) tf i t := fun t => by
          by_cases y : tf i = t
          · rw [alN_s c1 y, ← y, c2]; rfl
          · exact alN_n (fun z => y z.2)
        exact ih (i + 1) f (u + 1) M (by omega) (by omega) hS (by rw [ssm_c n (fun t _ => ee t)]; omega) (fun t ht => by rw [ee t]; exact h t ht)
      · rw [if_neg (show ¬ (2 : Int32) ≤ nI (alN (fun s => !decide (dy s ≤ LN (wk s))) tf i (tf i)) from nI_ge (b := 2) (by omega) (by omega))]
        have es : alN (fun s => !decide (dy s ≤ LN (wk s))) tf (i + 1) (tf i) = alN (fun s => !decide (dy s ≤ LN (wk s))) tf i (tf i) + 1 := by
          rw [alN_s c1 rfl]; omega
        have en : ∀ t, t ≠ tf i → alN (fun s => !decide (dy s ≤ LN (wk s))) tf (i + 1) t = alN (fun s => !decide (dy s ≤ LN (wk s))) tf i t := fun t ht => alN_n (fun z => ht z.2.symm)
        have fr : v_fr [69] [] M (v_wr M 69 (tf i) (nI (alN (fun s => !decide (dy s ≤ LN (wk s))) tf i (tf i) + 1))) := v_frw (by decide) v_frR
        have su := ssm_u es en n a4
        obtain ⟨M', g1, g2⟩ := ih (i + 1) f u (v_wr M 69 (tf i) (nI (alN (fun s => !decide (dy s ≤ LN (wk s))) tf i (tf i) + 1))) (by omega) (by omega) (hS.keep fr (by decide) (by decide)) (by omega) (fun t ht => by
          rw [v_rd]
          by_cases y : t = tf i
          · rw [if_pos ⟨rfl, y⟩, y, es]
          · rw [if_neg (fun q => y q.2), en t y]; exact h t ht)
        exact ⟨M', g1, v_frT fr g2⟩
    · rw [if_neg c1]
      have ee : ∀ t, alN (fun s => !decide (dy s ≤ LN (wk s))) tf (i + 1) t = alN (fun s => !decide (dy s ≤ LN (wk s))) tf i t := fun t => alN_n (fun z => c1 z.1)
      exact ih (i + 1) f (u + 1) M (by omega) (by omega) hS (by rw [ssm_c n (fun t _ => ee t)]; omega) (fun t ht => by rw [ee t]; exact h t ht)
theorem e_lf {N n : Nat} (hN : 300 ≤ N) {wk tf : Nat → Nat} {dy LN : Nat → Int32} {fd : Nat → Nat} {M : v_M} (hS : SC M n wk tf dy LN fd) : ∃ M' : v_M, f_X10_leastFalse N M = some (nI (n - ssm (alN (fun s => !decide (dy s ≤ LN (wk s))) tf n) n), M') ∧ v_fr [69] [] M M' := by
  have h200 := hS.1.1
  obtain ⟨A, a1, a2, a3⟩ := e_fillAll (N := N) 69 0 (show 200 < 2 ^ 31 by omega) (by omega) M
  have z0 : ∀ t, alN (fun s => !decide (dy s ≤ LN (wk s))) tf 0 t = 0 := fun t => rfl
  obtain ⟨M', g1, g2⟩ := e_lf1 N n 0 N 0 A (by omega) (by omega) (hS.keep a2 (by decide) (by decide)) (by rw [ssm_c n (fun t _ => z0 t), ssm_0]) (fun t ht => by rw [a3, if_pos (by omega), z0 t]; rfl)
  refine ⟨M', ?_, v_frT a2 g2⟩
  unfold f_X10_leastFalse
  rw [a1, Option.bind_some]
  exact g1
theorem r_few1 (N : Nat) {n : Nat} {wk tf : Nat → Nat} {dy LN : Nat → Int32} {fd : Nat → Nat} (K : Int32 → Int32 → v_M → Option (Int32 × v_M)) {M : v_M} (hS : SR M n wk tf dy LN fd) {k : Nat} (hk : k < n) (u : Nat) : ∀ (d s f : Nat), s + d = n → d < f → f_X12_fewest_L33 N K f (nI u) (nI k) (nI (cnt (fun s => (!decide (dy s ≤ LN (wk s))) && decide (tf s = k)) s)) (nI s) M = K (nI (u + alN (fun s => !decide (dy s ≤ LN (wk s))) tf n k)) (nI (k + 1)) M := by
  have h200 := hS.1.1
  intro d
  induction d with
  | zero =>
    intro s f hs hf
    obtain ⟨f, rfl⟩ : ∃ q, f = q + 1 := ⟨f - 1, by omega⟩
    have : s = n := by omega
    subst this
    have cl := cnt_le (fun s => (!decide (dy s ≤ LN (wk s))) && decide (tf s = k)) s
    rw [f_X12_fewest_L33, hS.1.2, if_pos (nI_le (by omega) (by omega))]
    unfold f_X12_fewest_L88 alN
    simp only [v_letE, nI_1]
    by_cases y : 2 ≤ cnt (fun s => (!decide (dy s ≤ LN (wk s))) && decide (tf s = k)) s
    · rw [if_pos (show (2 : Int32) ≤ _ from nI_le (a := 2) y (by omega)), Nat.min_eq_left y, show (2 : Int32) = nI 2 from rfl, nI_add]
    · rw [if_neg (show ¬ (2 : Int32) ≤ _ from nI_ge (b := 2) (by omega) (by omega)), Nat.min_eq_right (by omega), nI_add]
  | succ d ih =>
    intro s f hs hf
    obtain ⟨f, rfl⟩ : ∃ q, f = q + 1 := ⟨f - 1, by omega⟩
    obtain ⟨-, ⟨a3, a4⟩, -, a5, -⟩ := hS.2.1 s (by omega)
    have go := ih (s + 1) f (by omega) (by omega)
    rw [f_X12_fewest_L33, hS.1.2, if_neg (nI_ge (show s < n by omega) (by omega))]
    simp only [v_ibN (show s < 200 by omega) (show 200 < 2 ^ 31 by omega), nI_clamp (show s < 2 ^ 31 by omega), v_ckT, a3, a5, v01_0, f_X12_fewest_L68, f_X12_fewest_L69, v_letE, nI_1]
    rw [cnt] at go
    by_cases c1 : tf s = k
    · rw [if_pos (by rw [c1])]
      by_cases c2 : (!decide (dy s ≤ LN (wk s))) = true
      · rw [if_pos c2]
        rw [if_pos (by rw [c2, decide_eq_true c1]; rfl)] at go
        exact go
      · rw [if_neg c2, show (0 : Int32) = nI 0 from rfl, nI_add]
        rw [if_neg (by rw [Bool.eq_false_iff.mpr c2, Bool.false_and]; decide)] at go
        exact go
    · rw [if_neg (fun q => c1 ((nI_eqX (by omega) (by omega)).mp q)), show (0 : Int32) = nI 0 from rfl, nI_add]
      rw [if_neg (by rw [decide_eq_false c1, Bool.and_false]; decide)] at go
      exact go
theorem r_few2 {N : Nat} (hN : 300 ≤ N) {n : Nat} {wk tf : Nat → Nat} {dy LN : Nat → Int32} {fd : Nat → Nat} {M : v_M} (hS : SR M n wk tf dy LN fd) : ∀ (d k f : Nat), k + d = n → d < f → f_X12_fewest_L20 N f (nI (ssm (alN (fun s => !decide (dy s ≤ LN (wk s))) tf n) k)) (nI k) M = some (nI n - nI (ssm (alN (fun s => !decide (dy s ≤ LN (wk s))) tf n) n), M) := by
  have h200 := hS.1.1
  intro d
  induction d with
  | zero =>
    intro k f hk hf
    obtain ⟨f, rfl⟩ : ∃ q, f = q + 1 := ⟨f - 1, by omega⟩
    have : k = n := by omega
    subst this
    rw [f_X12_fewest_L20, hS.1.2, if_pos (nI_le (by omega) (by omega))]
  | succ d ih =>
    intro k f hk hf
    obtain ⟨f, rfl⟩ : ∃ q, f = q + 1 := ⟨f - 1, by omega⟩
    rw [f_X12_fewest_L20, hS.1.2, if_neg (nI_ge (show k < n by omega) (by omega))]
    have g := r_few1 N (f_X12_fewest_L20 N f) hS (show k < n by omega) (ssm (alN (fun s => !decide (dy s ≤ LN (wk s))) tf n) k) n 0 N (by omega) (by omega)
    rw [show nI (cnt (fun s => (!decide (dy s ≤ LN (wk s))) && decide (tf s = k)) 0) = 0 from rfl, show nI 0 = 0 from rfl] at g
    rw [g]
    exact ih (k + 1) f (by omega) (by omega)
