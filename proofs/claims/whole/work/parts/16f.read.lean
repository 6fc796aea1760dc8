/-! the class's reader: step, emit, fail -/
theorem TS.fr {M M' : v_M} {c : Nat → Nat} {T K : Nat} (h : TS M c T K) (e0 : M'.1 36 1 = M.1 36 1) (e1 : M'.1 38 = M.1 38) (e2 : M'.1 39 = M.1 39) (e3 : M'.1 40 = M.1 40) : TS M' c T K := by
  obtain ⟨a, b, d, g, k⟩ := h
  refine ⟨a, b, d, e0.trans g, fun i hi => ?_⟩
  rw [e1, e2, e3]
  exact k i hi
def CR (A : v_M) (q : Nat) (c : Nat → Nat) (T K p v : Nat) (L : List Op) : Prop := (q = 41 ∨ 150 ≤ q) ∧ (∀ i, i < T → c i ≤ 255) ∧ T ≤ 400 ∧ TS A c T K ∧ (∃ k, k ≤ K ∧ A.1 35 2 = nI k ∧ t_pl c T k = p) ∧ A.1 35 3 = t_sI (t_tk c T p) ∧ (t_tk c T p = 256 → A.1 35 4 = t_nI c T p) ∧ A.1 35 5 = nI v ∧ A.1 35 6 = 0 ∧ A.1 q 3 = nI L.length ∧ ∀ i op, L[i]? = some op → A.1 (q + 6) i = cod op
theorem CR.ple {A : v_M} {q : Nat} {c : Nat → Nat} {T K p v : Nat} {L : List Op} (h : CR A q c T K p v L) : p ≤ T := by
  obtain ⟨k, _, _, e⟩ := h.2.2.2.2.1
  rw [← e]
  exact t_pl_le c T k
theorem e_step36 (N : Nat) {M : v_M} {c : Nat → Nat} {T K k : Nat} (h : TS M c T K) (hk : k ≤ K) (e : M.1 35 2 = nI k) : ∃ M' : v_M, f_X7_step_L36 N M = some (0, M') ∧ v_fr [] [(35, 2), (35, 3), (35, 4)] M M' ∧ M'.1 35 2 = nI k ∧ M'.1 35 3 = t_sI (t_tk c T (t_pl c T k)) ∧ (t_tk c T (t_pl c T k) = 256 → M'.1 35 4 = t_nI c T (t_pl c T k)) := by
  have hK := h.1
  obtain ⟨r1, r2, r3⟩ := h.2.2.2.2 k hk
  have h0 : (0 : Int32) ≤ nI k := (nI_leX (a := 0) (b := k) (by omega) (by omega)).mpr (Nat.zero_le k)
  unfold f_X7_step_L36 f_X7_step_L48
  rw [e, if_pos h0, v_ibN (show k < 401 by omega) (by omega), v_ckT, v_letE, nI_clamp (by omega), r2]
  have e2 : (v_wr M 35 3 (t_sI (t_tk c T (t_pl c T k)))).1 35 2 = nI k := by rw [v_rd, if_neg (by decide), e]
  rw [e2, v_ibN (show k < 401 by omega) (by omega), v_ckT, v_letE, nI_clamp (by omega), v_rdn (k := 35) (k' := 40) (by decide)]
  refine ⟨_, rfl, v_fro (by decide) (v_fro (by decide) v_frR), by rw [v_rd, if_neg (by decide), e2], by rw [v_rd, if_neg (by decide), v_rdS], fun w => by rw [v_rdS, r3 w]⟩
theorem ne35 {q : Nat} (h : q = 41 ∨ 150 ≤ q) : (q ≠ 35 ∧ q + 6 ≠ 35) ∧ (q ≠ 36 ∧ q + 6 ≠ 36) ∧ (q ≠ 38 ∧ q + 6 ≠ 38) ∧ (q ≠ 39 ∧ q + 6 ≠ 39) ∧ (q ≠ 40 ∧ q + 6 ≠ 40) := by omega
theorem e_step (N : Nat) {A : v_M} {q : Nat} {c : Nat → Nat} {T K p v : Nat} {L : List Op} (h : CR A q c T K p v L) : ∃ A' : v_M, f_X7_step N A = some (0, A') ∧ CR A' q c T K (t_nx c T p) v L := by
  obtain ⟨hq, hc, hT, hS, ⟨k, hk, ek, rfl⟩, _, _, e5, e6, e3, ec⟩ := h
  have hK := hS.1
  have nq := ne35 hq
  have fin : ∀ (M M' : v_M) (j : Nat), j ≤ K → t_pl c T j = t_nx c T (t_pl c T k) → v_fr [] [(35, 2), (35, 3), (35, 4)] A M → v_fr [] [(35, 2), (35, 3), (35, 4)] M M' → M'.1 35 2 = nI j → M'.1 35 3 = t_sI (t_tk c T (t_pl c T j)) → (t_tk c T (t_pl c T j) = 256 → M'.1 35 4 = t_nI c T (t_pl c T j)) → CR M' q c T K (t_nx c T (t_pl c T k)) v L := by
    intro M M' j hj ej f1 f2 m2 m3 m4
    have f3 := v_frT f1 f2
    have kq : M'.1 q = A.1 q := by
      funext i
      exact f3.1 q i (by simp) (by simp; omega)
    have kq6 : M'.1 (q + 6) = A.1 (q + 6) := by
      funext i
      exact f3.1 (q + 6) i (by simp) (by simp; omega)
    rw [← ej]
    exact ⟨hq, hc, hT, hS.fr (v_keepC f3 36 1 (by decide)) (v_keepR f3 38 (by decide)) (v_keepR f3 39 (by decide)) (v_keepR f3 40 (by decide)), ⟨j, hj, m2, rfl⟩, m3, m4, by rw [v_keepC f3 35 5 (by decide), e5], by rw [v_keepC f3 35 6 (by decide), e6], by rw [kq, e3], by rw [kq6]; exact ec⟩
  unfold f_X7_step
  rw [hS.2.2.2.1, ek, nI_1]
  by_cases w : K ≤ k
  · obtain rfl : k = K := by omega
    rw [if_pos (by rw [nI_leX (by omega) (by omega)]; omega)]
    obtain ⟨M', a, b, m2, m3, m4⟩ := e_step36 N hS hk ek
    exact ⟨M', a, fin A M' k hk (t_nx_e hS.2.1).symm v_frR b m2 m3 m4⟩
  · rw [if_neg (fun x => by rw [nI_leX (by omega) (by omega)] at x; omega), if_neg (nI_400 (by omega)), v_letE]
    have f1 : v_fr [] [(35, 2), (35, 3), (35, 4)] A (v_wr A 35 2 (nI (k + 1))) := v_fro (by decide) v_frR
    obtain ⟨M', a, b, m2, m3, m4⟩ := e_step36 N (k := k + 1) (hS.fr (v_keepC f1 36 1 (by decide)) (v_keepR f1 38 (by decide)) (v_keepR f1 39 (by decide)) (v_keepR f1 40 (by decide))) (by omega) v_rdS
    exact ⟨M', a, fin _ M' (k + 1) (by omega) rfl f1 b m2 m3 m4⟩
theorem e_emit (N : Nat) {A : v_M} {q : Nat} {c : Nat → Nat} {T K p v : Nat} {L : List Op} (h : CR A q c T K p v L) (hl : L.length < 300) (op : Op) {x : Int32} (hx : x = cod op) : ∃ A' : v_M, f_X5_emit N q x A = some (0, A') ∧ CR A' q c T K p v (L ++ [op]) := by
  subst hx
  obtain ⟨hq, hc, hT, hS, ⟨k, hk, ek, rfl⟩, s3, s4, e5, e6, e3, ec⟩ := h
  have nq := ne35 hq
  unfold f_X5_emit
  rw [e3, if_neg (nI_400 (by omega)), v_ibN (show L.length < 400 by omega) (by omega), v_ckT, v_letE, v_letE, nI_clamp (by omega), v_rdn (show q ≠ q + 6 by omega), e3, nI_1]
  refine ⟨_, rfl, hq, hc, hT, hS.fr ?_ ?_ ?_ ?_, ⟨k, hk, ?_, rfl⟩, ?_, fun w => ?_, ?_, ?_, ?_, fun i o hi => ?_⟩
  · rw [v_rdn (by omega), v_rdn (by omega)]
  · rw [v_wr_n (by omega), v_wr_n (by omega)]
  · rw [v_wr_n (by omega), v_wr_n (by omega)]
  · rw [v_wr_n (by omega), v_wr_n (by omega)]
  · rw [v_rdn (by omega), v_rdn (by omega), ek]
  · rw [v_rdn (by omega), v_rdn (by omega), s3]
  · rw [v_rdn (by omega), v_rdn (by omega), s4 w]
  · rw [v_rdn (by omega), v_rdn (by omega), e5]
  · rw [v_rdn (by omega), v_rdn (by omega), e6]
  · rw [v_rdS, List.length_append]; rfl
  · rw [v_rdn (by omega), v_rd]
    by_cases w : i = L.length
    · subst w
      rw [if_pos ⟨rfl, rfl⟩]
      rw [List.getElem?_append_right (Nat.le_refl _), Nat.sub_self] at hi
      exact congrArg cod (Option.some.inj hi)
    · rw [if_neg (fun y => w y.2)]
      have : i < L.length := by
        have := (List.getElem?_eq_some_iff.mp hi).1
        rw [List.length_append] at this
        simp at this
        omega
      rw [List.getElem?_append_left this] at hi
      exact ec i o hi
theorem e_fail (N : Nat) {A : v_M} {q : Nat} {c : Nat → Nat} {T K p v : Nat} {L : List Op} (h : CR A q c T K p v L) (w : Nat) {x : Int32} (hx : x = nI w) : ∃ A' : v_M, f_X7_fail N x A = some (0, A') ∧ A'.1 35 6 = nI (1 + 8 * p + w) := by
  subst hx
  obtain ⟨hq, hc, hT, hS, ⟨k, hk, ek, rfl⟩, s3, s4, e5, e6, e3, ec⟩ := h
  have hK := hS.1
  unfold f_X7_fail
  rw [ek, v_ibN (show k < 401 by omega) (by omega), v_ckT, v_letE, nI_clamp (by omega), (hS.2.2.2.2 k hk).1, v_b0, v_ckT]
  refine ⟨_, rfl, ?_⟩
  rw [v_rdS, show (8 : Int32) = nI 8 from rfl, nI_mul, show (1 : Int32) = nI 1 from rfl, nI_add, nI_add]
