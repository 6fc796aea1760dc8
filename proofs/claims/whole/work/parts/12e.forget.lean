/-! forgetting: the class's side -/
def cmp (F G : Nat → Int32) (L : List Nat) : Prop := ∀ s j, L[s]? = some j → F s = G j
theorem cmp_a {F G : Nat → Int32} {L : List Nat} {j : Nat} (h : cmp F G L) (e : F L.length = G j) : cmp F G (L ++ [j]) := fun s v hv => by
  by_cases z : s < L.length
  · rw [List.getElem?_append_left z] at hv
    exact h s v hv
  · rw [List.getElem?_append_right (by omega)] at hv
    have q : s - L.length = 0 := by
      have := (List.getElem?_eq_some_iff.mp hv).1
      rw [List.length_singleton] at this
      omega
    rw [q] at hv
    have e' : j = v := by simpa using hv
    rw [show s = L.length by omega, e, e']
theorem cmp_u {F F' G : Nat → Int32} {L : List Nat} (h : cmp F G L) (e : ∀ s, s < L.length → F' s = F s) : cmp F' G L := fun s v hv => by
  rw [e s (List.getElem?_eq_some_iff.mp hv).1]
  exact h s v hv
def sel (mm : Nat → Nat) (nk j : Nat) : Option Nat := if mm j < nk then some j else none
theorem pre_get {b : Nat → Option Nat} : ∀ (n s v : Nat), (pre b n)[s]? = some v → ∃ i, i < n ∧ b i = some v := by
  intro n
  induction n with
  | zero => intro s v h; exact nomatch h
  | succ n ih =>
    intro s v h
    cases e : b n with
    | none =>
      rw [pre_n e] at h
      obtain ⟨i, hi, hb⟩ := ih s v h
      exact ⟨i, by omega, hb⟩
    | some u =>
      rw [pre_s e] at h
      by_cases z : s < (pre b n).length
      · rw [List.getElem?_append_left z] at h
        obtain ⟨i, hi, hb⟩ := ih s v h
        exact ⟨i, by omega, hb⟩
      · rw [List.getElem?_append_right (by omega)] at h
        have q : s - (pre b n).length = 0 := by
          have := (List.getElem?_eq_some_iff.mp h).1
          rw [List.length_singleton] at this
          omega
        rw [q] at h
        have e' : u = v := by simpa using h
        exact ⟨n, by omega, by rw [e, e']⟩
theorem sel_get {mm : Nat → Nat} {nk n s v : Nat} (h : (pre (sel mm nk) n)[s]? = some v) : v < n ∧ mm v < nk := by
  obtain ⟨i, hi, hb⟩ := pre_get n s v h
  unfold sel at hb
  by_cases z : mm i < nk
  · rw [if_pos z] at hb
    have := Option.some.inj hb
    rw [← this]
    exact ⟨hi, z⟩
  · rw [if_neg z] at hb
    exact nomatch hb
theorem e_fg1 {N : Nat} (hN : 300 ≤ N) {n nk : Nat} {mm tt : Nat → Nat} {a d : Nat → Int32} (hn : n ≤ 200) (hk : nk ≤ 20) (hm : ∀ i, i < n → mm i < 20 ∧ tt i < 10) : ∀ (s i f : Nat) (M : v_M), i + s = n → s < f → M.1 52 0 = nI (pre (sel mm nk) i).length → J_chn M (pre (sel mm nk) i).length → (cmp (M.1 53) (fun j => nI (10 * mm j + tt j)) (pre (sel mm nk) i) ∧ cmp (M.1 54) a (pre (sel mm nk) i) ∧ cmp (M.1 55) d (pre (sel mm nk) i)) → (∀ j, i ≤ j → j < n → M.1 53 j = nI (10 * mm j + tt j) ∧ M.1 54 j = a j ∧ M.1 55 j = d j) → ∃ M' : v_M, f_X8_forgetFrom_L20 N f (nI nk) (nI n) (nI i) M = f_X8_forgetFrom_L74 N (nI nk) M' ∧ v_fr [53, 54, 55, 56, 57, 58, 59, 60] [(52, 0)] M M' ∧ M'.1 52 0 = nI (pre (sel mm nk) n).length ∧ J_chn M' (pre (sel mm nk) n).length ∧ cmp (M'.1 53) (fun j => nI (10 * mm j + tt j)) (pre (sel mm nk) n) ∧ cmp (M'.1 54) a (pre (sel mm nk) n) ∧ cmp (M'.1 55) d (pre (sel mm nk) n) := by
  intro s
  induction s with
  | zero =>
    intro i f M hi hf e hc hr ho
    obtain ⟨f, rfl⟩ : ∃ q, f = q + 1 := ⟨f - 1, by omega⟩
    have : i = n := by omega
    subst this
    refine ⟨M, ?_, v_frR, e, hc, hr⟩
    rw [f_X8_forgetFrom_L20, if_pos (nI_le (by omega) (by omega))]
  | succ s ih =>
    intro i f M hi hf e hc hr ho
    obtain ⟨f, rfl⟩ : ∃ q, f = q + 1 := ⟨f - 1, by omega⟩
    obtain ⟨o1, o2, o3⟩ := ho i (Nat.le_refl _) (by omega)
    obtain ⟨m1, m2⟩ := hm i (by omega)
    have pl := pre_le (sel mm nk) i
    rw [f_X8_forgetFrom_L20, if_neg (nI_ge (show i < n by omega) (by omega)), if_neg (show ¬ (200 : Int32) ≤ nI i from nI_ge (b := 200) (by omega) (by omega))]
    simp only [v_ibN (show i < 200 by omega) (show 200 < 2 ^ 31 by omega), nI_clamp (show i < 2 ^ 31 by omega), v_ckT, o1, o2, o3, f_X8_forgetFrom_L68, nI_1]
    rw [show (10 : Int32) = nI 10 from rfl, nI_mul]
    by_cases c : mm i < nk
    · have hs : sel mm nk i = some i := if_pos c
      rw [if_neg (nI_ge (by omega) (by omega))]
      obtain ⟨k, hk', p1, p2⟩ := e_put hN (show (pre (sel mm nk) i).length < 200 by omega) (show 10 * mm i + tt i < 200 by omega) (a i) (d i) e hc
      rw [p1, Option.bind_some]
      have fr := p_f M (pre (sel mm nk) i).length (10 * mm i + tt i) (a i) (d i) k
      have r := p_r M (pre (sel mm nk) i).length (10 * mm i + tt i) (a i) (d i) k
      have r0 : (p_M M (pre (sel mm nk) i).length (10 * mm i + tt i) (a i) (d i) k).1 52 0 = nI ((pre (sel mm nk) i).length + 1) := by unfold p_M; rw [v_rd, if_pos ⟨rfl, rfl⟩]
      generalize p_M M (pre (sel mm nk) i).length (10 * mm i + tt i) (a i) (d i) k = A at p2 fr r r0
      have lg : (pre (sel mm nk) (i + 1)).length = (pre (sel mm nk) i).length + 1 := by rw [pre_s hs, List.length_append]; rfl
      obtain ⟨M', q1, q2, q3⟩ := ih (i + 1) f A (by omega) (by omega) (by rw [r0, lg]) (by rw [lg]; exact p2) (by
        rw [pre_s hs]
        refine ⟨cmp_a (cmp_u hr.1 (fun s hs => by rw [(r s).1, if_neg (by omega)])) (by rw [(r _).1, if_pos rfl]), cmp_a (cmp_u hr.2.1 (fun s hs => by rw [(r s).2.1, if_neg (by omega)])) (by rw [(r _).2.1, if_pos rfl]), cmp_a (cmp_u hr.2.2 (fun s hs => by rw [(r s).2.2.1, if_neg (by omega)])) (by rw [(r _).2.2.1, if_pos rfl])⟩) (fun j h1 h2 => by
        rw [(r j).1, (r j).2.1, (r j).2.2.1, if_neg (by omega), if_neg (by omega), if_neg (by omega)]
        exact ho j (by omega) h2)
      exact ⟨M', q1, v_frT fr q2, q3⟩
    · have hs : sel mm nk i = none := if_neg c
      rw [if_pos (nI_le (by omega) (by omega))]
      have := pre_n hs
      exact ih (i + 1) f M (by omega) (by omega) (by rw [this]; exact e) (by rw [this]; exact hc) (by rw [this]; exact hr) (fun j h1 h2 => ho j (by omega) h2)
theorem e_fg2 {N : Nat} (hN : 300 ≤ N) {n nk : Nat} {mm tt : Nat → Nat} {a d : Nat → Int32} (hn : n ≤ 100) (hk : nk ≤ 20) (hm : ∀ i, i < n → mm i < 20 ∧ tt i < 10 ∧ (d i = 0 ∨ d i = 1)) : ∀ (s i f : Nat) (M : v_M), i + s = n → s < f → M.1 52 9 = nI (pre (sel mm nk) i).length → (cmp (M.1 61) (fun j => nI (10 * mm j + tt j)) (pre (sel mm nk) i) ∧ cmp (M.1 62) a (pre (sel mm nk) i) ∧ cmp (M.1 63) d (pre (sel mm nk) i)) → (∀ j, i ≤ j → j < n → M.1 61 j = nI (10 * mm j + tt j) ∧ M.1 62 j = a j ∧ M.1 63 j = d j) → ∃ M' : v_M, f_X8_forgetFrom_L87 N f (nI nk) (nI n) (nI i) M = some (0, M') ∧ v_fr [61, 62, 63] [(52, 9)] M M' ∧ M'.1 52 9 = nI (pre (sel mm nk) n).length ∧ cmp (M'.1 61) (fun j => nI (10 * mm j + tt j)) (pre (sel mm nk) n) ∧ cmp (M'.1 62) a (pre (sel mm nk) n) ∧ cmp (M'.1 63) d (pre (sel mm nk) n) := by
  intro s
  induction s with
  | zero =>
    intro i f M hi hf e hr ho
    obtain ⟨f, rfl⟩ : ∃ q, f = q + 1 := ⟨f - 1, by omega⟩
    have : i = n := by omega
    subst this
    refine ⟨M, ?_, v_frR, e, hr⟩
    rw [f_X8_forgetFrom_L87, if_pos (nI_le (by omega) (by omega))]
  | succ s ih =>
    intro i f M hi hf e hr ho
    obtain ⟨f, rfl⟩ : ∃ q, f = q + 1 := ⟨f - 1, by omega⟩
    obtain ⟨o1, o2, o3⟩ := ho i (Nat.le_refl _) (by omega)
    obtain ⟨m1, m2, m3⟩ := hm i (by omega)
    have pl := pre_le (sel mm nk) i
    rw [f_X8_forgetFrom_L87, if_neg (nI_ge (show i < n by omega) (by omega)), if_neg (show ¬ (100 : Int32) ≤ nI i from nI_ge (b := 100) (by omega) (by omega))]
    simp only [v_ibN (show i < 100 by omega) (show 100 < 2 ^ 31 by omega), nI_clamp (show i < 2 ^ 31 by omega), v_ckT, o1, o2, o3, f_X8_forgetFrom_L140, nI_1]
    rw [show (10 : Int32) = nI 10 from rfl, nI_mul]
    by_cases c : mm i < nk
    · have hs : sel mm nk i = some i := if_pos c
      rw [if_neg (nI_ge (by omega) (by omega))]
      unfold f_X8_putSeen
      rw [e, if_pos (show nI (pre (sel mm nk) i).length < 100 from nI_lt (b := 100) (by omega) (by omega))]
      simp only [v_letE, v_rdn, ne_eq, Nat.reduceEqDiff, not_false_eq_true, e, v_ibN (show (pre (sel mm nk) i).length < 100 by omega) (show 100 < 2 ^ 31 by omega), v_ckT, nI_clamp (show (pre (sel mm nk) i).length < 2 ^ 31 by omega), v_nar01 m3, Option.bind_some, nI_1]
      generalize hA : v_wr (v_wr (v_wr (v_wr M 61 (pre (sel mm nk) i).length (nI (10 * mm i + tt i))) 62 (pre (sel mm nk) i).length (a i)) 63 (pre (sel mm nk) i).length (d i)) 52 9 (nI ((pre (sel mm nk) i).length + 1)) = A
      have fr : v_fr [61, 62, 63] [(52, 9)] M A := by rw [← hA]; exact v_fro (by decide) (v_frw (by decide) (v_frw (by decide) (v_frw (by decide) v_frR)))
      have r : ∀ j, A.1 61 j = (if j = (pre (sel mm nk) i).length then nI (10 * mm i + tt i) else M.1 61 j) ∧ A.1 62 j = (if j = (pre (sel mm nk) i).length then a i else M.1 62 j) ∧ A.1 63 j = (if j = (pre (sel mm nk) i).length then d i else M.1 63 j) := fun j => by
        rw [← hA]
        simp only [v_rd, Nat.reduceEqDiff, false_and, if_false, true_and, and_self]
      have r0 : A.1 52 9 = nI ((pre (sel mm nk) i).length + 1) := by rw [← hA, v_rd, if_pos ⟨rfl, rfl⟩]
      have lg : (pre (sel mm nk) (i + 1)).length = (pre (sel mm nk) i).length + 1 := by rw [pre_s hs, List.length_append]; rfl
      obtain ⟨M', q1, q2, q3⟩ := ih (i + 1) f A (by omega) (by omega) (by rw [r0, lg]) (by
        rw [pre_s hs]
        refine ⟨cmp_a (cmp_u hr.1 (fun s hs => by rw [(r s).1, if_neg (by omega)])) (by rw [(r _).1, if_pos rfl]), cmp_a (cmp_u hr.2.1 (fun s hs => by rw [(r s).2.1, if_neg (by omega)])) (by rw [(r _).2.1, if_pos rfl]), cmp_a (cmp_u hr.2.2 (fun s hs => by rw [(r s).2.2, if_neg (by omega)])) (by rw [(r _).2.2, if_pos rfl])⟩) (fun j h1 h2 => by
        rw [(r j).1, (r j).2.1, (r j).2.2, if_neg (by omega), if_neg (by omega), if_neg (by omega)]
        exact ho j (by omega) h2)
      exact ⟨M', q1, v_frT fr q2, q3⟩
    · have hs : sel mm nk i = none := if_neg c
      rw [if_pos (nI_le (by omega) (by omega))]
      have := pre_n hs
      exact ih (i + 1) f M (by omega) (by omega) (by rw [this]; exact e) (by rw [this]; exact hr) (fun j h1 h2 => ho j (by omega) h2)
/-- a paper's machine behind going back -/
def pgo (nk : Nat) (x : Int32) : Int32 := if x < nI nk then x else -1
theorem e_fg3 (N : Nat) {n nk : Nat} {G : Nat → Int32} (hn : n ≤ 30) : ∀ (s i f : Nat) (M : v_M), i + s = n → s < f → M.1 71 0 = nI n → (∀ j, j < i → M.1 72 j = pgo nk (G j)) → (∀ j, i ≤ j → j < n → M.1 72 j = G j) → ∃ M' : v_M, f_X6_forgetFrom_L2 N f (nI nk) (nI i) M = some (0, M') ∧ v_fr [72] [] M M' ∧ ∀ j, j < n → M'.1 72 j = pgo nk (G j) := by
  intro s
  induction s with
  | zero =>
    intro i f M hi hf e h1 h2
    obtain ⟨f, rfl⟩ : ∃ q, f = q + 1 := ⟨f - 1, by omega⟩
    refine ⟨M, ?_, v_frR, fun j hj => h1 j (by omega)⟩
    rw [f_X6_forgetFrom_L2, e, if_pos (nI_le (by omega) (by omega))]
  | succ s ih =>
    intro i f M hi hf e h1 h2
    obtain ⟨f, rfl⟩ : ∃ q, f = q + 1 := ⟨f - 1, by omega⟩
    have hG := h2 i (Nat.le_refl _) (by omega)
    rw [f_X6_forgetFrom_L2, e, if_neg (nI_ge (show i < n by omega) (by omega))]
    simp only [v_ibN (show i < 30 by omega) (show 30 < 2 ^ 31 by omega), nI_clamp (show i < 2 ^ 31 by omega), v_ckT, v_letE, hG, f_X6_forgetFrom_L27, nI_1]
    by_cases c : G i < nI nk
    · rw [if_pos c]
      exact ih (i + 1) f M (by omega) (by omega) e (fun j hj => by
        by_cases q : j = i
        · rw [q, hG]; unfold pgo; rw [if_pos c]
        · exact h1 j (by omega)) (fun j a b => h2 j (by omega) b)
    · rw [if_neg c]
      have fr : v_fr [72] [] M (v_wr M 72 i (-1)) := v_frw (by decide) v_frR
      obtain ⟨M', q1, q2, q3⟩ := ih (i + 1) f (v_wr M 72 i (-1)) (by omega) (by omega) (by rw [v_rdn (by decide), e]) (fun j hj => by
        rw [v_rd]
        by_cases q : j = i
        · rw [if_pos ⟨rfl, q⟩, q]; unfold pgo; rw [if_neg c]
        · rw [if_neg (fun y => q y.2)]; exact h1 j (by omega)) (fun j a b => by rw [v_rd, if_neg (fun y => by omega)]; exact h2 j (by omega) b)
      exact ⟨M', q1, v_frT fr q2, q3⟩
