/-! the fleet; machine -/
def JFa (np nm : Nat) (w s b l f t : Nat → Int32) : Prop := nm ≤ 20 ∧ (∀ i, i < 480 → (24 * nm ≤ i ∨ np ≤ i % 24) → w i = 0 ∧ s i = 0 ∧ b i = 0 ∧ l i = 0) ∧
  (∀ i, i < 480 → v_bt (w i) 0 99 ∧ v_bt (s i) (-99) 99 ∧ v_bt (b i) 0 9999 ∧ v_bt (l i) 0 999 ∧ (i % 24 = 0 → b i = 0)) ∧ ∀ m, m < 20 → (nm ≤ m → f m = 0 ∧ t m = 0) ∧ v_bt (f m) 0 999999
def JFb (nm : Nat) (w s b l f t w' s' b' l' f' t' : Nat → Int32) : Prop := (∀ i, i < 24 * nm → w' i = w i ∧ s' i = s i ∧ b' i = b i ∧ l' i = l i) ∧ ∀ m, m < nm → f' m = f m ∧ t' m = t m
def J_fleetc (M : v_M) (np nm : Nat) : Prop := M.1 11 0 = nI nm ∧ M.1 79 3 = nI nm ∧ JFa np nm (M.1 12) (M.1 13) (M.1 14) (M.1 15) (M.1 16) (M.1 17) ∧ JFb nm (M.1 12) (M.1 13) (M.1 14) (M.1 15) (M.1 16) (M.1 17) (M.1 88) (M.1 89) (M.1 90) (M.1 91) (M.1 92) (M.1 93)
theorem J_fleetc.more {M : v_M} {np np' nm : Nat} (h : J_fleetc M np nm) (hn : np ≤ np') : J_fleetc M np' nm := by
  obtain ⟨h1, h2, ⟨h3, h4, h5⟩, h6⟩ := h
  exact ⟨h1, h2, ⟨h3, fun i hi hc => h4 i hi (by omega), h5⟩, h6⟩
theorem J_fleetc.keep {W : List Nat} {O : List (Nat × Nat)} {M M' : v_M} {np nm : Nat} (hf : v_fr W O M M') (hk : ([12, 13, 14, 15, 16, 17, 88, 89, 90, 91, 92, 93].all (fun k => !(W.contains k || O.any (fun q => q.1 == k)))) = true) (h1 : (W.contains 11 || O.contains (11, 0)) = false) (h2 : (W.contains 79 || O.contains (79, 3)) = false) (h : J_fleetc M np nm) : J_fleetc M' np nm := by
  have e : ∀ k ∈ [12, 13, 14, 15, 16, 17, 88, 89, 90, 91, 92, 93], M'.1 k = M.1 k := fun k hm => v_keepR hf k (by have := List.all_eq_true.mp hk k hm; simpa using this)
  unfold J_fleetc at h ⊢
  rw [v_keepC hf 11 0 h1, v_keepC hf 79 3 h2, e 12 (by decide), e 13 (by decide), e 14 (by decide), e 15 (by decide), e 16 (by decide), e 17 (by decide), e 88 (by decide), e 89 (by decide), e 90 (by decide), e 91 (by decide), e 92 (by decide), e 93 (by decide)]
  exact h
theorem nI_mul (a b : Nat) : nI a * nI b = nI (a * b) := (Int32.ofNat_mul a b).symm
theorem nI_spot (m p : Nat) : nI m * 24 + nI p = nI (24 * m + p) := by
  rw [show (24 : Int32) = nI 24 from rfl, nI_mul, nI_add, Nat.mul_comm]
theorem nI_spot' (m p : Nat) : 24 * nI m + nI p = nI (24 * m + p) := by
  rw [show (24 : Int32) = nI 24 from rfl, nI_mul, nI_add]
/-- the reference clears a machine's places from p on, and counts it -/
theorem e_mach (N : Nat) {nm : Nat} (hm : nm < 20) : ∀ (n p : Nat) (M : v_M), p ≤ 24 → 24 - p < n → M.1 79 3 = nI nm → ∃ M' : v_M, f_X12_machine_L13 N n (nI p) M = some (nI nm, M') ∧ v_fr [88, 89, 90, 91, 92, 93] [(79, 3)] M M' ∧ (∀ j, (M'.1 88 j = if 24 * nm + p ≤ j ∧ j < 24 * nm + 24 then 0 else M.1 88 j) ∧ (M'.1 89 j = if 24 * nm + p ≤ j ∧ j < 24 * nm + 24 then 0 else M.1 89 j) ∧ (M'.1 90 j = if 24 * nm + p ≤ j ∧ j < 24 * nm + 24 then 0 else M.1 90 j) ∧ (M'.1 91 j = if 24 * nm + p ≤ j ∧ j < 24 * nm + 24 then 0 else M.1 91 j) ∧ (M'.1 92 j = if j = nm then 0 else M.1 92 j) ∧ (M'.1 93 j = if j = nm then 0 else M.1 93 j)) ∧ M'.1 79 3 = nI (nm + 1) := by
  intro n
  induction n with
  | zero => intro p M _ h _; omega
  | succ n ih =>
    intro p M hp hn e
    by_cases hp4 : p = 24
    · subst hp4
      refine ⟨v_wr (v_wr (v_wr M 92 nm 0) 93 nm 0) 79 3 (nI nm + 1), ?_, v_fro (by decide) (v_frw (by decide) (v_frw (by decide) v_frR)), fun j => ?_, ?_⟩
      · unfold f_X12_machine_L13
        rw [if_pos (show (24 : Int32) ≤ nI 24 by decide)]
        simp only [v_letE, v_rdn, ne_eq, Nat.reduceEqDiff, not_false_eq_true, e, v_ibN hm (show 20 < 2 ^ 31 by omega), v_ckT, nI_clamp (show nm < 2 ^ 31 by omega)]
        rw [v_rd, if_pos ⟨rfl, rfl⟩, ← nI_succ, nI_pred]
      · have q : ¬ (24 * nm + 24 ≤ j ∧ j < 24 * nm + 24) := by omega
        simp only [if_neg q, v_rd]
        simp
      · rw [v_rd, if_pos ⟨rfl, rfl⟩, nI_succ]
    · have hp3 : p < 24 := by omega
      let B : v_M := v_wr (v_wr (v_wr (v_wr M 88 (24 * nm + p) 0) 89 (24 * nm + p) 0) 90 (24 * nm + p) 0) 91 (24 * nm + p) 0
      have eB : B.1 79 3 = nI nm := by
        show (v_wr (v_wr (v_wr (v_wr M 88 (24 * nm + p) 0) 89 (24 * nm + p) 0) 90 (24 * nm + p) 0) 91 (24 * nm + p) 0).1 79 3 = nI nm
        simp only [v_rdn, ne_eq, Nat.reduceEqDiff, not_false_eq_true, e]
      obtain ⟨M', h1, h2, h3, h4⟩ := ih (p + 1) B (by omega) (by omega) eB
      refine ⟨M', ?_, v_frT (v_frw (by decide) (v_frw (by decide) (v_frw (by decide) (v_frw (by decide) v_frR)))) h2, fun j => ?_, h4⟩
      · unfold f_X12_machine_L13
        rw [if_neg (show ¬ (24 : Int32) ≤ nI p from nI_ge (b := 24) hp3 (by omega)), e]
        unfold f_X12_clears
        simp only [v_letE, nI_spot', v_ibN (show 24 * nm + p < 480 by omega) (show 480 < 2 ^ 31 by omega), v_ckT, nI_clamp (show 24 * nm + p < 2 ^ 31 by omega), Option.bind_some, nI_1]
        exact h1
      · obtain ⟨k1, k2, k3, k4, k5, k6⟩ := h3 j
        rw [k1, k2, k3, k4, k5, k6]
        have r : ∀ k, (B.1 k j = if (k = 88 ∨ k = 89 ∨ k = 90 ∨ k = 91) ∧ j = 24 * nm + p then 0 else M.1 k j) := by
          intro k
          show (v_wr (v_wr (v_wr (v_wr M 88 (24 * nm + p) 0) 89 (24 * nm + p) 0) 90 (24 * nm + p) 0) 91 (24 * nm + p) 0).1 k j = _
          simp only [v_rd]
          by_cases hj : j = 24 * nm + p
          · by_cases a : k = 91
            · simp [a, hj]
            · by_cases b : k = 90
              · simp [b, hj]
              · by_cases c : k = 89
                · simp [c, hj]
                · by_cases d : k = 88
                  · simp [d, hj]
                  · simp [a, b, c, d]
          · simp [hj]
        rw [r 88, r 89, r 90, r 91, r 92, r 93]
        by_cases hj : j = 24 * nm + p
        · subst hj
          have q1 : ¬ (24 * nm + (p + 1) ≤ 24 * nm + p ∧ 24 * nm + p < 24 * nm + 24) := by omega
          have q2 : 24 * nm + p ≤ 24 * nm + p ∧ 24 * nm + p < 24 * nm + 24 := by omega
          simp [if_neg q1, if_pos q2]
          exact ⟨fun q => by omega, fun q => by omega, fun q => by omega, fun q => by omega⟩
        · have q : (24 * nm + (p + 1) ≤ j ∧ j < 24 * nm + 24) ↔ (24 * nm + p ≤ j ∧ j < 24 * nm + 24) := by omega
          simp [q, hj]
theorem st_machine {N : Nat} (hN : 100 ≤ N) {M : v_M} {np nm : Nat} (h : J_fleetc M np nm) : ∃ (r : Int32) (M1 M2 : v_M), f_X11_machine N M = some (r, M1) ∧ f_X12_machine N M1 = some (r, M2) ∧ (∃ nm' : Nat, nm ≤ nm' ∧ J_fleetc M2 np nm') ∧ v_fr [88, 89, 90, 91, 92, 93] [(11, 0), (79, 3)] M M2 := by
  obtain ⟨e1, e2, ⟨h3, h4, h5, h6⟩, h7, h8⟩ := id h
  unfold f_X11_machine f_X4_add f_X12_machine
  by_cases c : nm = 20
  · subst c
    rw [e1, if_neg (show ¬ nI 20 < 20 by decide)]
    refine ⟨-1, M, M, rfl, ?_, ⟨20, Nat.le_refl _, h⟩, v_frR⟩
    rw [e2, if_pos (show nI 20 = 20 from rfl)]
  · have hm : nm < 20 := by omega
    rw [e1, if_pos (show nI nm < 20 from nI_lt (b := 20) hm (by omega))]
    obtain ⟨M', g1, g2, g3, g4⟩ := e_mach N hm N 0 (v_wr M 11 0 (nI nm + 1)) (by omega) (by omega) (by rw [v_rdn (by decide), e2])
    refine ⟨nI nm, v_wr M 11 0 (nI nm + 1), M', ?_, ?_, ⟨nm + 1, by omega, ?_⟩, ?_⟩
    · simp only [v_letE, Option.bind_some]
      rw [v_rd, if_pos ⟨rfl, rfl⟩, ← nI_succ, nI_pred]
    · rw [if_neg (show ¬ (v_wr M 11 0 (nI nm + 1)).1 79 3 = 20 from fun q => by rw [v_rdn (by decide), e2] at q; exact c ((nI_eq (by omega) (by omega)).mp (show nI nm = nI 20 from q)))]
      exact g1
    · have o : ∀ k, k ≠ 11 → (v_wr M 11 0 (nI nm + 1)).1 k = M.1 k := fun k hk => v_wr_n hk
      have o2 : ∀ k ∈ [12, 13, 14, 15, 16, 17], M'.1 k = M.1 k := fun k hk => by
        rw [v_keepR g2 k (by revert k; decide), o k (fun q => by subst q; revert hk; decide)]
      unfold J_fleetc
      rw [o2 12 (by decide), o2 13 (by decide), o2 14 (by decide), o2 15 (by decide), o2 16 (by decide), o2 17 (by decide)]
      refine ⟨?_, g4, ⟨by omega, fun i hi hc => h4 i hi (by omega), h5, fun m hm2 => ⟨fun q => (h6 m hm2).1 (by omega), (h6 m hm2).2⟩⟩, fun i hi => ?_, fun m hm2 => ?_⟩
      · rw [v_keepC g2 11 0 (by decide), v_rd, if_pos ⟨rfl, rfl⟩, nI_succ]
      · obtain ⟨k1, k2, k3, k4, -, -⟩ := g3 i
        rw [k1, k2, k3, k4, o 88 (by decide), o 89 (by decide), o 90 (by decide), o 91 (by decide)]
        by_cases q : 24 * nm + 0 ≤ i ∧ i < 24 * nm + 24
        · rw [if_pos q, if_pos q, if_pos q, if_pos q]
          obtain ⟨z1, z2, z3, z4⟩ := h4 i (by omega) (Or.inl (by omega))
          exact ⟨z1.symm, z2.symm, z3.symm, z4.symm⟩
        · rw [if_neg q, if_neg q, if_neg q, if_neg q]
          exact h7 i (by omega)
      · obtain ⟨-, -, -, -, k5, k6⟩ := g3 m
        rw [k5, k6, o 92 (by decide), o 93 (by decide)]
        by_cases q : m = nm
        · rw [if_pos q, if_pos q]
          obtain ⟨z1, z2⟩ := (h6 m (by omega)).1 (by omega)
          exact ⟨z1.symm, z2.symm⟩
        · rw [if_neg q, if_neg q]
          exact h8 m (by omega)
    · exact v_frT (v_fro (by decide) v_frR) (v_frt (W := [88, 89, 90, 91, 92, 93]) (O := [(11, 0), (79, 3)]) (fun x hx => hx) (fun x hx => List.mem_cons_of_mem _ hx) v_frR g2)
