/-! knowing: the outer loops -/
def kgr (nds : Nat → Int32) (r : Nat → Nat) : Nat → Nat → Nat
  | 0, _ => 0
  | n + 1, i => if i = n then kin (nds n) (kgr nds r n) n 0 (r n) else kgr nds r n i
theorem kgr_le (nds : Nat → Int32) {r : Nat → Nat} : ∀ n : Nat, (∀ i, i < n → r i ≤ 10000) → ∀ i, kgr nds r n i ≤ 10000 := by
  intro n
  induction n with
  | zero => intro _ i; unfold kgr; omega
  | succ n ih =>
    intro h i
    unfold kgr
    have ih' := ih (fun i hi => h i (by omega))
    by_cases q : i = n
    · rw [if_pos q]; exact kin_le _ n 0 _ (fun i _ => ih' i) (h n (by omega))
    · rw [if_neg q]; exact ih' i
theorem e_know1 {N : Nat} (hN : 100 ≤ N) {man n : Nat} (hm : man < 16) (hn : n ≤ 30) {nds : Nat → Int32} {r : Nat → Nat} : ∀ (s p f : Nat) (M : v_M), p + s = n → s < f → M.1 71 0 = nI n → (∀ i, i < n → M.1 75 i = nds i) → (∀ i, i < n → M.1 76 (30 * man + i) = nI (r i) ∧ r i ≤ 10000) → (∀ i, i < p → M.1 74 i = nI (kgr nds r p i)) → ∃ M' : v_M, f_X6_gatherKnowing_L13 N f (nI man) (nI p) M = some (0, M') ∧ v_fr [74] [] M M' ∧ ∀ i, i < n → M'.1 74 i = nI (kgr nds r n i) := by
  intro s
  induction s with
  | zero =>
    intro p f M hp hf e h1 h2 h3
    obtain ⟨f, rfl⟩ : ∃ q, f = q + 1 := ⟨f - 1, by omega⟩
    have hp : p = n := by omega
    subst hp
    rw [f_X6_gatherKnowing_L13, e, if_pos (nI_le (Nat.le_refl _) (by omega))]
    exact ⟨M, rfl, v_frR, h3⟩
  | succ s ih =>
    intro p f M hp hf e h1 h2 h3
    obtain ⟨f, rfl⟩ : ∃ q, f = q + 1 := ⟨f - 1, by omega⟩
    obtain ⟨r1, r2⟩ := h2 p (by omega)
    rw [f_X6_gatherKnowing_L13, e, if_neg (nI_ge (show p < n by omega) (by omega))]
    simp only [nI_page, v_ibN (show 30 * man + p < 480 by omega) (show 480 < 2 ^ 31 by omega), nI_clamp (show 30 * man + p < 2 ^ 31 by omega), v_ckT, v_letE, r1]
    rw [show (0 : Int32) = nI 0 from rfl, e_kin1 N (f_X6_gatherKnowing_L13 N f) (nI man) (g := kgr nds r p) (show p < 30 by omega) (fun i hi => ⟨h3 i hi, kgr_le nds p (fun i hi => (h2 i (by omega)).2) i⟩) p 0 (r p) N (by omega) (by omega) r2, h1 p (by omega)]
    obtain ⟨M', g1, g2, g3⟩ := ih (p + 1) f (v_wr M 74 p (nI (kin (nds p) (kgr nds r p) p 0 (r p)))) (by omega) (by omega) (by rw [v_rdn (by decide), e]) (fun i hi => by rw [v_rdn (by decide)]; exact h1 i hi) (fun i hi => by rw [v_rdn (by decide)]; exact h2 i hi) (fun i hi => by
      rw [v_rd, kgr]
      by_cases q : i = p
      · rw [if_pos ⟨rfl, q⟩, if_pos q]
      · rw [if_neg (fun z => q z.2), if_neg q]; exact h3 i (by omega))
    exact ⟨M', g1, v_frT (v_frw (by decide) v_frR) g2, g3⟩
theorem e_know2 {N : Nat} (hN : 100 ≤ N) {man n : Nat} (hm : man < 16) (hn : n ≤ 30) {nds : Nat → Int32} {r : Nat → Nat} : ∀ (s p f : Nat) (M : v_M), p + s = n → s < f → M.1 79 80 = nI n → (∀ i, i < n → M.1 142 i = nds i) → (∀ i, i < n → M.1 143 (30 * man + i) = enc (r i) ∧ r i ≤ 10000) → (∀ i, i < p → M.1 144 i = enc (kgr nds r p i)) → ∃ M' : v_M, f_X12_knows_L2 N f (nI man) (nI p) M = some (0, M') ∧ v_fr [144] [] M M' ∧ ∀ i, i < n → M'.1 144 i = enc (kgr nds r n i) := by
  intro s
  induction s with
  | zero =>
    intro p f M hp hf e h1 h2 h3
    obtain ⟨f, rfl⟩ : ∃ q, f = q + 1 := ⟨f - 1, by omega⟩
    have hp : p = n := by omega
    subst hp
    rw [f_X12_knows_L2, e, if_pos (nI_le (Nat.le_refl _) (by omega))]
    exact ⟨M, rfl, v_frR, h3⟩
  | succ s ih =>
    intro p f M hp hf e h1 h2 h3
    obtain ⟨f, rfl⟩ : ∃ q, f = q + 1 := ⟨f - 1, by omega⟩
    obtain ⟨r1, r2⟩ := h2 p (by omega)
    rw [f_X12_knows_L2, e, if_neg (nI_ge (show p < n by omega) (by omega))]
    simp only [nI_page', v_ibN (show 30 * man + p < 480 by omega) (show 480 < 2 ^ 31 by omega), nI_clamp (show 30 * man + p < 2 ^ 31 by omega), v_ckT, v_letE, r1]
    rw [show (0 : Int32) = nI 0 from rfl, e_kin2 N (f_X12_knows_L2 N f) (nI man) (g := kgr nds r p) (show p < 30 by omega) (fun i hi => ⟨h3 i hi, kgr_le nds p (fun i hi => (h2 i (by omega)).2) i⟩) p 0 (r p) N (by omega) (by omega) r2, h1 p (by omega)]
    obtain ⟨M', g1, g2, g3⟩ := ih (p + 1) f (v_wr M 144 p (enc (kin (nds p) (kgr nds r p) p 0 (r p)))) (by omega) (by omega) (by rw [v_rdn (by decide), e]) (fun i hi => by rw [v_rdn (by decide)]; exact h1 i hi) (fun i hi => by rw [v_rdn (by decide)]; exact h2 i hi) (fun i hi => by
      rw [v_rd, kgr]
      by_cases q : i = p
      · rw [if_pos ⟨rfl, q⟩, if_pos q]
      · rw [if_neg (fun z => q z.2), if_neg q]; exact h3 i (by omega))
    exact ⟨M', g1, v_frT (v_frw (by decide) v_frR) g2, g3⟩
